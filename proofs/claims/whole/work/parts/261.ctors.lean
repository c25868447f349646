/-! CONSTRUCTORS, straight on -/
theorem memE {c : Nat} {L : List Nat} (h : List.elem c L = true) : c ∈ L := List.mem_of_elem_eq_true h
theorem nmE {c : Nat} {L : List Nat} (h : List.elem c L = false) : c ∉ L := fun q => by
  have := List.elem_eq_true_of_mem q
  rw [h] at this
  exact absurd this (by decide)
theorem nmA {c d : Nat} {L : List Nat} (h : c ∉ L) (e : c ≠ d) : c ∉ L ++ [d] := fun q => by
  rcases List.mem_append.mp q with q | q
  · exact h q
  · exact e (List.mem_singleton.mp q)
section CTV
variable {f : Fx} {cc : ByteArray} {nL : Nat} {own : String} {Ts : List Cond} {rm : Room} {cells slots : Nat} {g : Gm} {I : Mm} {pc q : Nat} {lv : List (Nat × Value)} {st st0 : List Value} {rmc : Room}
theorem n_putRb (hC : Cx f cc nL own Ts rm) (hin : (f_M f).name = "<init>") {k N i index a b : Nat} {C : String} {T : u_T} {ty0 : Nat → FieldType} {c : Nat} (hb : gA g c = b) (hd : decode cc pc = .ok (.putfield index, 3)) (hq : pc + 3 = q) (hc : c ∈ gC g) (hk : gK g c = k) (hF : FF Ts own index k i) (hfR : fR k i = true) (hcl : vwCl[k]? = some (C, T, N)) (hty : ∀ j, j < N → parseFieldDescriptor (T j).2.2.1 = some (ty0 j)) (hnm : ∀ a, a < N → ∀ b, b < N → a ≠ b → (T a).2.1 ≠ (T b).2.1) (hfin : (T i).2.2.2 = true) (hdecl : (T i).1 = own) (hrf : rfT (ty0 i) = true) (hi : i < N) (kk : PW f cells slots (gPut g c i a) I q lv st) : PW f cells slots g I pc lv (.ref a :: .ref b :: st) := by
  subst hb; exact n_putR hC hin hd hq hc hk hF hfR hcl hty hnm hfin hdecl hrf hi kk
theorem r_putIb (hC : Cx f cc nL own Ts rm) {c i index b : Nat} {v : Int32} {ks : List Nat} (hb : gA g c = b) (hd : decode cc pc = .ok (.putfield index, 3)) (hq : pc + 3 = q) (hc : c ∈ gC g) (hk : gK g c ∈ ks) (hF : ∀ k ∈ ks, FF Ts own index k i ∧ fR k i = false ∧ FP k i) (kk : PW f cells slots g (up2 I c i v) q lv st) : PW f cells slots g I pc lv (.int v :: .ref b :: st) := by
  subst hb; exact r_putI hC hd hq hc hk hF kk
theorem r_getRb (hC : Cx f cc nL own Ts rm) {c i index a b : Nat} {ks : List Nat} (hb : gA g c = b) (hd : decode cc pc = .ok (.getfield index, 3)) (hq : pc + 3 = q) (hc : c ∈ gC g) (hk : gK g c ∈ ks) (hF : ∀ k ∈ ks, FF Ts own index k i ∧ fR k i = true) (hr : gR g c i = some a) (kk : PW f cells slots g I q lv (.ref a :: st)) : PW f cells slots g I pc lv (.ref b :: st) := by
  subst hb; exact r_getR hC hd hq hc hk hF hr kk
theorem n_aastb (hC : Cx f cc nL own Ts rm) {c v b b2 : Nat} {i : Int32} (hb : gA g c = b) (hb2 : gA g v = b2) (hd : decode cc pc = .ok (.aastore, 1)) (hq : pc + 1 = q) (hc : c ∈ gC g) (hv : v ∈ gC g) (hk : (gK g c = 12 ∧ (gK g v = 0 ∨ gK g v = 3 ∨ gK g v = 5)) ∨ (gK g c = 13 ∧ gK g v = 6)) (hi : vp_in i (gL g c)) (kk : PW f cells slots (gPut g c i.toNatClampNeg b2) I q lv st) : PW f cells slots g I pc lv (.ref b2 :: .int i :: .ref b :: st) := by
  subst hb; subst hb2; exact n_aast hC hd hq hc hv hk hi kk
theorem r_iastb (hC : Cx f cc nL own Ts rm) {c b : Nat} {i v : Int32} (hb : gA g c = b) (hd : decode cc pc = .ok (.iastore, 1)) (hq : pc + 1 = q) (hc : c ∈ gC g) (hk : gK g c = 11) (hi : vp_in i (gL g c)) (kk : PW f cells slots g (up2 I c i.toNatClampNeg v) q lv st) : PW f cells slots g I pc lv (.int v :: .int i :: .ref b :: st) := by
  subst hb; exact r_iast hC hd hq hc hk hi kk
theorem n_retV (hC : Cx f cc nL own Ts rm) {Post : Gm × Mm → Prop} (hR : RtV f cc Post) (h1 : cells ≤ rm.cells) (h2 : slots ≤ rm.slots) (hd : decode cc pc = .ok (.return_, 1)) (hw : Post (g, I)) : PW f cells slots g I pc lv [] := by
  have h := hR g I pc lv hd hw
  rw [hC.2.2.2.2.1] at h
  exact r_widen h1 h2 h
theorem n_retR (hC : Cx f cc nL own Ts rm) {Post : Nat → Gm × Mm → Prop} {r : Nat} (hR : RtR f cc Post) (h1 : cells ≤ rm.cells) (h2 : slots ≤ rm.slots) (hd : decode cc pc = .ok (.areturn, 1)) (hw : Post r (g, I)) : PW f cells slots g I pc lv [.ref r] := by
  have h := hR g I pc lv r hd hw
  rw [hC.2.2.2.2.1] at h
  exact r_widen h1 h2 h
end CTV
theorem dfX0 : ∀ j, j < 5 → (if fR 0 j = true then rfT (tyX0 j) = true else tyX0 j = .int) := by decide +kernel
theorem dfX1 : ∀ j, j < 2 → (if fR 1 j = true then rfT (tyX1 j) = true else tyX1 j = .int) := by decide +kernel
theorem dfX2 : ∀ j, j < 2 → (if fR 2 j = true then rfT (tyX2 j) = true else tyX2 j = .int) := by decide +kernel
theorem dfX3 : ∀ j, j < 5 → (if fR 3 j = true then rfT (tyX3 j) = true else tyX3 j = .int) := by decide +kernel
theorem dfX4 : ∀ j, j < 4 → (if fR 4 j = true then rfT (tyX4 j) = true else tyX4 j = .int) := by decide +kernel
theorem dfX5 : ∀ j, j < 5 → (if fR 5 j = true then rfT (tyX5 j) = true else tyX5 j = .int) := by decide +kernel
theorem dfX6 : ∀ j, j < 3 → (if fR 6 j = true then rfT (tyX6 j) = true else tyX6 j = .int) := by decide +kernel
theorem dfX7 : ∀ j, j < 6 → (if fR 7 j = true then rfT (tyX7 j) = true else tyX7 j = .int) := by decide +kernel
theorem dfX8 : ∀ j, j < 1 → (if fR 8 j = true then rfT (tyX8 j) = true else tyX8 j = .int) := by decide +kernel
theorem dfX9 : ∀ j, j < 11 → (if fR 9 j = true then rfT (tyX9 j) = true else tyX9 j = .int) := by decide +kernel
theorem dfX10 : ∀ j, j < 30 → (if fR 10 j = true then rfT (tyX10 j) = true else tyX10 j = .int) := by decide +kernel
abbrev rm_X3_init : Room := { frames := 1, cells := 1, slots := 8, locals := 48 }
theorem ci_X3_init : CI yX3_init wsX3_init cX3_init 1 none 0 := ⟨⟨_, rfl⟩, by decide, by decide, by decide +kernel⟩
set_option maxRecDepth 20000 in
theorem uw_X3_init_3k3 : ∀ w ∈ u_ws RX3 TX3 5, w ∈ wsX3_init := by decide +kernel
set_option maxRecDepth 20000 in
theorem ffg_X3_init_9k3 : ∀ k ∈ ([3] : List Nat), FF wsX3_init RX3 9 k 0 ∧ fR k 0 = true := List.forall_mem_cons.mpr ⟨⟨⟨RX3, TX3, 5, "PageDesks$Queue", rfl, rfl, by decide, by decide, uw_X3_init_3k3, (List.mem_of_getElem? (i := 5) rfl), Or.inl rfl⟩, rfl⟩, fun _ h => absurd h List.not_mem_nil⟩
set_option maxRecDepth 20000 in
theorem ffp_X3_init_15k3 : ∀ k ∈ ([3] : List Nat), FF wsX3_init RX3 15 k 1 ∧ fR k 1 = false ∧ FP k 1 := List.forall_mem_cons.mpr ⟨⟨⟨RX3, TX3, 5, "PageDesks$Queue", rfl, rfl, by decide, by decide, uw_X3_init_3k3, (List.mem_of_getElem? (i := 6) rfl), Or.inl rfl⟩, rfl, ⟨RX3, TX3, 5, tyX3, rfl, tyX3_ok, nmX3, rfl, rfl⟩⟩, fun _ h => absurd h List.not_mem_nil⟩
set_option maxRecDepth 100000 in
set_option maxHeartbeats 4000000 in
theorem c_X3_init_3 {l : Launch} {x : Gx} {g : Gm} {I : Mm} {b d : Nat} (hb : gA g d = b) (hd : d ∈ gC g) (hk : gK g d = 3) (hf : d + 20 ∉ gC g) : KV l x yX3_init wsX3_init rm_X3_init g I [.ref b] (fun u => ∃ a, u = (gPut (gAdd g (d + 20) a 11 8) d 0 a, up2 (iAdd I (d + 20)) d 1 (1))) := by
  refine KN_of (by decide) rfl rfl rfl (Nat.le_of_ble_eq_true rfl) (fun f hC _ _ hin hR => ?_)
  show PW f 0 0 g I 0 [(0, .ref b)] []
  refine r_aload_n hC dX3_init_0 rfl rfl (j := 0) rfl ?_
  refine n_obj hC dX3_init_1 rfl (List.mem_of_getElem? (i := 1) rfl) (List.mem_of_getElem? (i := 2) rfl) (List.mem_of_getElem? (i := 3) rfl) (Nat.le_of_ble_eq_true rfl) (Nat.le_of_ble_eq_true rfl) ?_
  refine r_aload_n hC dX3_init_4 rfl rfl (j := 0) rfl ?_
  refine r_bipush hC (v := (8 : Int32)) dX3_init_5 rfl (by decide) ?_
  refine n_newa hC (N := 8) (d + 20) dX3_init_7 rfl hf (List.mem_of_getElem? (i := 4) rfl) (by decide) (by decide) (by decide) (Nat.le_of_ble_eq_true rfl) (Nat.le_of_ble_eq_true rfl) (fun a1 => ?_)
  refine n_putRb hC hin (c := d) (k := 3) (ty0 := tyX3) ((va_up_ne _ _ (by omega)).trans hb) dX3_init_9 rfl (List.mem_append_left _ hd) ((va_up_ne _ _ (by omega)).trans hk) (ffg_X3_init_9k3 3 (by decide)).1 rfl rfl tyX3_ok nmX3 rfl rfl rfl (by decide) ?_
  refine r_aload_n hC dX3_init_12 rfl rfl (j := 0) rfl ?_
  refine r_iconst hC (v := (1 : Int32)) dX3_init_13 rfl (by decide) ?_
  refine r_putIb hC (c := d) (ks := [3]) ((va_up_ne _ _ (by omega)).trans hb) dX3_init_14 rfl (List.mem_append_left _ hd) (List.mem_singleton.mpr ((va_up_ne _ _ (by omega)).trans hk)) ffp_X3_init_15k3 ?_
  exact n_retV hC hR (Nat.le_of_ble_eq_true rfl) (Nat.le_of_ble_eq_true rfl) dX3_init_17 ⟨a1, rfl⟩
set_option maxRecDepth 20000 in
theorem uw_X3_init_0k0 : ∀ w ∈ u_ws RX0 TX0 5, w ∈ wsX3_init := by decide +kernel
set_option maxRecDepth 20000 in
theorem ffg_X3_init_9k0 : ∀ k ∈ ([0] : List Nat), FF wsX3_init RX3 9 k 0 ∧ fR k 0 = true := List.forall_mem_cons.mpr ⟨⟨⟨RX0, TX0, 5, "PageDesks$Queue", rfl, rfl, by decide, by decide, uw_X3_init_0k0, (List.mem_of_getElem? (i := 5) rfl), Or.inl rfl⟩, rfl⟩, fun _ h => absurd h List.not_mem_nil⟩
set_option maxRecDepth 20000 in
theorem ffp_X3_init_15k0 : ∀ k ∈ ([0] : List Nat), FF wsX3_init RX3 15 k 1 ∧ fR k 1 = false ∧ FP k 1 := List.forall_mem_cons.mpr ⟨⟨⟨RX0, TX0, 5, "PageDesks$Queue", rfl, rfl, by decide, by decide, uw_X3_init_0k0, (List.mem_of_getElem? (i := 6) rfl), Or.inl rfl⟩, rfl, ⟨RX0, TX0, 5, tyX0, rfl, tyX0_ok, nmX0, rfl, rfl⟩⟩, fun _ h => absurd h List.not_mem_nil⟩
set_option maxRecDepth 100000 in
set_option maxHeartbeats 4000000 in
theorem c_X3_init_0 {l : Launch} {x : Gx} {g : Gm} {I : Mm} {b d : Nat} (hb : gA g d = b) (hd : d ∈ gC g) (hk : gK g d = 0) (hf : d + 20 ∉ gC g) : KV l x yX3_init wsX3_init rm_X3_init g I [.ref b] (fun u => ∃ a, u = (gPut (gAdd g (d + 20) a 11 8) d 0 a, up2 (iAdd I (d + 20)) d 1 (1))) := by
  refine KN_of (by decide) rfl rfl rfl (Nat.le_of_ble_eq_true rfl) (fun f hC _ _ hin hR => ?_)
  show PW f 0 0 g I 0 [(0, .ref b)] []
  refine r_aload_n hC dX3_init_0 rfl rfl (j := 0) rfl ?_
  refine n_obj hC dX3_init_1 rfl (List.mem_of_getElem? (i := 1) rfl) (List.mem_of_getElem? (i := 2) rfl) (List.mem_of_getElem? (i := 3) rfl) (Nat.le_of_ble_eq_true rfl) (Nat.le_of_ble_eq_true rfl) ?_
  refine r_aload_n hC dX3_init_4 rfl rfl (j := 0) rfl ?_
  refine r_bipush hC (v := (8 : Int32)) dX3_init_5 rfl (by decide) ?_
  refine n_newa hC (N := 8) (d + 20) dX3_init_7 rfl hf (List.mem_of_getElem? (i := 4) rfl) (by decide) (by decide) (by decide) (Nat.le_of_ble_eq_true rfl) (Nat.le_of_ble_eq_true rfl) (fun a1 => ?_)
  refine n_putRb hC hin (c := d) (k := 0) (ty0 := tyX0) ((va_up_ne _ _ (by omega)).trans hb) dX3_init_9 rfl (List.mem_append_left _ hd) ((va_up_ne _ _ (by omega)).trans hk) (ffg_X3_init_9k0 0 (by decide)).1 rfl rfl tyX0_ok nmX0 rfl rfl rfl (by decide) ?_
  refine r_aload_n hC dX3_init_12 rfl rfl (j := 0) rfl ?_
  refine r_iconst hC (v := (1 : Int32)) dX3_init_13 rfl (by decide) ?_
  refine r_putIb hC (c := d) (ks := [0]) ((va_up_ne _ _ (by omega)).trans hb) dX3_init_14 rfl (List.mem_append_left _ hd) (List.mem_singleton.mpr ((va_up_ne _ _ (by omega)).trans hk)) ffp_X3_init_15k0 ?_
  exact n_retV hC hR (Nat.le_of_ble_eq_true rfl) (Nat.le_of_ble_eq_true rfl) dX3_init_17 ⟨a1, rfl⟩
set_option maxRecDepth 20000 in
theorem uw_X3_init_5k5 : ∀ w ∈ u_ws RX5 TX5 5, w ∈ wsX3_init := by decide +kernel
set_option maxRecDepth 20000 in
theorem ffg_X3_init_9k5 : ∀ k ∈ ([5] : List Nat), FF wsX3_init RX3 9 k 0 ∧ fR k 0 = true := List.forall_mem_cons.mpr ⟨⟨⟨RX5, TX5, 5, "PageDesks$Queue", rfl, rfl, by decide, by decide, uw_X3_init_5k5, (List.mem_of_getElem? (i := 5) rfl), Or.inl rfl⟩, rfl⟩, fun _ h => absurd h List.not_mem_nil⟩
set_option maxRecDepth 20000 in
theorem ffp_X3_init_15k5 : ∀ k ∈ ([5] : List Nat), FF wsX3_init RX3 15 k 1 ∧ fR k 1 = false ∧ FP k 1 := List.forall_mem_cons.mpr ⟨⟨⟨RX5, TX5, 5, "PageDesks$Queue", rfl, rfl, by decide, by decide, uw_X3_init_5k5, (List.mem_of_getElem? (i := 6) rfl), Or.inl rfl⟩, rfl, ⟨RX5, TX5, 5, tyX5, rfl, tyX5_ok, nmX5, rfl, rfl⟩⟩, fun _ h => absurd h List.not_mem_nil⟩
set_option maxRecDepth 100000 in
set_option maxHeartbeats 4000000 in
theorem c_X3_init_5 {l : Launch} {x : Gx} {g : Gm} {I : Mm} {b d : Nat} (hb : gA g d = b) (hd : d ∈ gC g) (hk : gK g d = 5) (hf : d + 20 ∉ gC g) : KV l x yX3_init wsX3_init rm_X3_init g I [.ref b] (fun u => ∃ a, u = (gPut (gAdd g (d + 20) a 11 8) d 0 a, up2 (iAdd I (d + 20)) d 1 (1))) := by
  refine KN_of (by decide) rfl rfl rfl (Nat.le_of_ble_eq_true rfl) (fun f hC _ _ hin hR => ?_)
  show PW f 0 0 g I 0 [(0, .ref b)] []
  refine r_aload_n hC dX3_init_0 rfl rfl (j := 0) rfl ?_
  refine n_obj hC dX3_init_1 rfl (List.mem_of_getElem? (i := 1) rfl) (List.mem_of_getElem? (i := 2) rfl) (List.mem_of_getElem? (i := 3) rfl) (Nat.le_of_ble_eq_true rfl) (Nat.le_of_ble_eq_true rfl) ?_
  refine r_aload_n hC dX3_init_4 rfl rfl (j := 0) rfl ?_
  refine r_bipush hC (v := (8 : Int32)) dX3_init_5 rfl (by decide) ?_
  refine n_newa hC (N := 8) (d + 20) dX3_init_7 rfl hf (List.mem_of_getElem? (i := 4) rfl) (by decide) (by decide) (by decide) (Nat.le_of_ble_eq_true rfl) (Nat.le_of_ble_eq_true rfl) (fun a1 => ?_)
  refine n_putRb hC hin (c := d) (k := 5) (ty0 := tyX5) ((va_up_ne _ _ (by omega)).trans hb) dX3_init_9 rfl (List.mem_append_left _ hd) ((va_up_ne _ _ (by omega)).trans hk) (ffg_X3_init_9k5 5 (by decide)).1 rfl rfl tyX5_ok nmX5 rfl rfl rfl (by decide) ?_
  refine r_aload_n hC dX3_init_12 rfl rfl (j := 0) rfl ?_
  refine r_iconst hC (v := (1 : Int32)) dX3_init_13 rfl (by decide) ?_
  refine r_putIb hC (c := d) (ks := [5]) ((va_up_ne _ _ (by omega)).trans hb) dX3_init_14 rfl (List.mem_append_left _ hd) (List.mem_singleton.mpr ((va_up_ne _ _ (by omega)).trans hk)) ffp_X3_init_15k5 ?_
  exact n_retV hC hR (Nat.le_of_ble_eq_true rfl) (Nat.le_of_ble_eq_true rfl) dX3_init_17 ⟨a1, rfl⟩
abbrev rm_X6_init : Room := { frames := 1, cells := 1, slots := 60, locals := 48 }
theorem ci_X6_init : CI yX6_init wsX6_init cX6_init 1 none 0 := ⟨⟨_, rfl⟩, by decide, by decide, by decide +kernel⟩
set_option maxRecDepth 20000 in
theorem uw_X6_init_6k6 : ∀ w ∈ u_ws RX6 TX6 3, w ∈ wsX6_init := by decide +kernel
set_option maxRecDepth 20000 in
theorem ffg_X6_init_9k6 : ∀ k ∈ ([6] : List Nat), FF wsX6_init RX6 9 k 0 ∧ fR k 0 = true := List.forall_mem_cons.mpr ⟨⟨⟨RX6, TX6, 3, "PageDesks$Sheet", rfl, rfl, by decide, by decide, uw_X6_init_6k6, (List.mem_of_getElem? (i := 5) rfl), Or.inl rfl⟩, rfl⟩, fun _ h => absurd h List.not_mem_nil⟩
set_option maxRecDepth 20000 in
theorem ffp_X6_init_15k6 : ∀ k ∈ ([6] : List Nat), FF wsX6_init RX6 15 k 1 ∧ fR k 1 = false ∧ FP k 1 := List.forall_mem_cons.mpr ⟨⟨⟨RX6, TX6, 3, "PageDesks$Sheet", rfl, rfl, by decide, by decide, uw_X6_init_6k6, (List.mem_of_getElem? (i := 6) rfl), Or.inl rfl⟩, rfl, ⟨RX6, TX6, 3, tyX6, rfl, tyX6_ok, nmX6, rfl, rfl⟩⟩, fun _ h => absurd h List.not_mem_nil⟩
set_option maxRecDepth 100000 in
set_option maxHeartbeats 4000000 in
theorem c_X6_init_6 {l : Launch} {x : Gx} {g : Gm} {I : Mm} {b d : Nat} (hb : gA g d = b) (hd : d ∈ gC g) (hk : gK g d = 6) (hf : d + 4 ∉ gC g) : KV l x yX6_init wsX6_init rm_X6_init g I [.ref b] (fun u => ∃ a, u = (gPut (gAdd g (d + 4) a 11 60) d 0 a, up2 (iAdd I (d + 4)) d 1 (-1))) := by
  refine KN_of (by decide) rfl rfl rfl (Nat.le_of_ble_eq_true rfl) (fun f hC _ _ hin hR => ?_)
  show PW f 0 0 g I 0 [(0, .ref b)] []
  refine r_aload_n hC dX6_init_0 rfl rfl (j := 0) rfl ?_
  refine n_obj hC dX6_init_1 rfl (List.mem_of_getElem? (i := 1) rfl) (List.mem_of_getElem? (i := 2) rfl) (List.mem_of_getElem? (i := 3) rfl) (Nat.le_of_ble_eq_true rfl) (Nat.le_of_ble_eq_true rfl) ?_
  refine r_aload_n hC dX6_init_4 rfl rfl (j := 0) rfl ?_
  refine r_bipush hC (v := (60 : Int32)) dX6_init_5 rfl (by decide) ?_
  refine n_newa hC (N := 60) (d + 4) dX6_init_7 rfl hf (List.mem_of_getElem? (i := 4) rfl) (by decide) (by decide) (by decide) (Nat.le_of_ble_eq_true rfl) (Nat.le_of_ble_eq_true rfl) (fun a1 => ?_)
  refine n_putRb hC hin (c := d) (k := 6) (ty0 := tyX6) ((va_up_ne _ _ (by omega)).trans hb) dX6_init_9 rfl (List.mem_append_left _ hd) ((va_up_ne _ _ (by omega)).trans hk) (ffg_X6_init_9k6 6 (by decide)).1 rfl rfl tyX6_ok nmX6 rfl rfl rfl (by decide) ?_
  refine r_aload_n hC dX6_init_12 rfl rfl (j := 0) rfl ?_
  refine r_iconst hC (v := (-1 : Int32)) dX6_init_13 rfl (by decide) ?_
  refine r_putIb hC (c := d) (ks := [6]) ((va_up_ne _ _ (by omega)).trans hb) dX6_init_14 rfl (List.mem_append_left _ hd) (List.mem_singleton.mpr ((va_up_ne _ _ (by omega)).trans hk)) ffp_X6_init_15k6 ?_
  exact n_retV hC hR (Nat.le_of_ble_eq_true rfl) (Nat.le_of_ble_eq_true rfl) dX6_init_17 ⟨a1, rfl⟩
abbrev rm_X0_init : Room := { frames := 2, cells := 1, slots := 8, locals := 68 }
theorem ci_X0_init : CI yX0_init wsX0_init cX0_init 1 none 0 := ⟨⟨_, rfl⟩, by decide, by decide, by decide +kernel⟩
set_option maxRecDepth 100000 in
set_option maxHeartbeats 4000000 in
theorem c_X0_init_0 {l : Launch} {x : Gx} {g : Gm} {I : Mm} {b d : Nat} (hb : gA g d = b) (hd : d ∈ gC g) (hk : gK g d = 0) (hf : d + 20 ∉ gC g) : KV l x yX0_init wsX0_init rm_X0_init g I [.ref b] (fun u => ∃ a, u = (gPut (gAdd g (d + 20) a 11 8) d 0 a, up2 (iAdd I (d + 20)) d 1 1)) := by
  refine KN_of (by decide) rfl rfl rfl (Nat.le_of_ble_eq_true rfl) (fun f hC _ _ hin hR => ?_)
  show PW f 0 0 g I 0 [(0, .ref b)] []
  refine r_aload_n hC dX0_init_0 rfl rfl (j := 0) rfl ?_
  refine r_endV hC (rmc := rm_X3_init) (n_IN hC (host := RX9) (c_X3_init_0 hb hd hk hf) ci_X3_init gX0_init_X3_init_n3 (by decide) (List.mem_of_getElem? (i := 2) rfl) (List.mem_of_getElem? (i := 1) rfl) rfl ⟨(Nat.le_of_ble_eq_true rfl), (Nat.le_of_ble_eq_true rfl)⟩ ⟨(Nat.le_of_ble_eq_true rfl), (Nat.le_of_ble_eq_true rfl)⟩ rfl rfl (Nat.le_of_ble_eq_true rfl) dX0_init_1) rfl (fun u hu => ?_)
  exact n_retV hC hR (Nat.le_of_ble_eq_true rfl) (Nat.le_of_ble_eq_true rfl) dX0_init_4 hu
set_option maxRecDepth 100000 in
set_option maxHeartbeats 4000000 in
theorem c_X0_init_5 {l : Launch} {x : Gx} {g : Gm} {I : Mm} {b d : Nat} (hb : gA g d = b) (hd : d ∈ gC g) (hk : gK g d = 5) (hf : d + 20 ∉ gC g) : KV l x yX0_init wsX0_init rm_X0_init g I [.ref b] (fun u => ∃ a, u = (gPut (gAdd g (d + 20) a 11 8) d 0 a, up2 (iAdd I (d + 20)) d 1 1)) := by
  refine KN_of (by decide) rfl rfl rfl (Nat.le_of_ble_eq_true rfl) (fun f hC _ _ hin hR => ?_)
  show PW f 0 0 g I 0 [(0, .ref b)] []
  refine r_aload_n hC dX0_init_0 rfl rfl (j := 0) rfl ?_
  refine r_endV hC (rmc := rm_X3_init) (n_IN hC (host := RX9) (c_X3_init_5 hb hd hk hf) ci_X3_init gX0_init_X3_init_n3 (by decide) (List.mem_of_getElem? (i := 2) rfl) (List.mem_of_getElem? (i := 1) rfl) rfl ⟨(Nat.le_of_ble_eq_true rfl), (Nat.le_of_ble_eq_true rfl)⟩ ⟨(Nat.le_of_ble_eq_true rfl), (Nat.le_of_ble_eq_true rfl)⟩ rfl rfl (Nat.le_of_ble_eq_true rfl) dX0_init_1) rfl (fun u hu => ?_)
  exact n_retV hC hR (Nat.le_of_ble_eq_true rfl) (Nat.le_of_ble_eq_true rfl) dX0_init_4 hu
abbrev rm_X5_init : Room := { frames := 3, cells := 1, slots := 8, locals := 88 }
theorem ci_X5_init : CI yX5_init wsX5_init cX5_init 1 none 0 := ⟨⟨_, rfl⟩, by decide, by decide, by decide +kernel⟩
set_option maxRecDepth 100000 in
set_option maxHeartbeats 4000000 in
theorem c_X5_init_5 {l : Launch} {x : Gx} {g : Gm} {I : Mm} {b d : Nat} (hb : gA g d = b) (hd : d ∈ gC g) (hk : gK g d = 5) (hf : d + 20 ∉ gC g) : KV l x yX5_init wsX5_init rm_X5_init g I [.ref b] (fun u => ∃ a, u = (gPut (gAdd g (d + 20) a 11 8) d 0 a, up2 (iAdd I (d + 20)) d 1 1)) := by
  refine KN_of (by decide) rfl rfl rfl (Nat.le_of_ble_eq_true rfl) (fun f hC _ _ hin hR => ?_)
  show PW f 0 0 g I 0 [(0, .ref b)] []
  refine r_aload_n hC dX5_init_0 rfl rfl (j := 0) rfl ?_
  refine r_endV hC (rmc := rm_X0_init) (n_IN hC (host := RX9) (c_X0_init_5 hb hd hk hf) ci_X0_init gX5_init_X0_init_n3 (by decide) (List.mem_of_getElem? (i := 2) rfl) (List.mem_of_getElem? (i := 1) rfl) rfl ⟨(Nat.le_of_ble_eq_true rfl), (Nat.le_of_ble_eq_true rfl)⟩ ⟨(Nat.le_of_ble_eq_true rfl), (Nat.le_of_ble_eq_true rfl)⟩ rfl rfl (Nat.le_of_ble_eq_true rfl) dX5_init_1) rfl (fun u hu => ?_)
  exact n_retV hC hR (Nat.le_of_ble_eq_true rfl) (Nat.le_of_ble_eq_true rfl) dX5_init_4 hu
abbrev rm_X9_newDesk : Room := { frames := 4, cells := 2, slots := 13, locals := 108 }
theorem ci_X9_newDesk : CI yX9_newDesk wsX9_newDesk cX9_newDesk 1 (some (.object "PageDesks$Queue")) 1 := ⟨⟨_, rfl⟩, by decide, by decide, by decide +kernel⟩
set_option maxRecDepth 20000 in
theorem uw_X9_newDesk_0 : ∀ w ∈ u_ws RX0 TX0 5, w ∈ wsX9_newDesk := by decide +kernel
set_option maxRecDepth 100000 in
set_option maxHeartbeats 4000000 in
theorem c_newDesk_1 {l : Launch} {x : Gx} {g : Gm} {I : Mm} {d : Nat} (hd : d ∉ gC g) (hf : d + 20 ∉ gC g) : KR l x yX9_newDesk wsX9_newDesk rm_X9_newDesk g I [.int (nI 1)] (fun r u => ∃ a, u = (gPut (gAdd (gAdd g d r 0 0) (d + 20) a 11 8) d 0 a, up2 (iAdd (iAdd I d) (d + 20)) d 1 1)) := by
  refine KR_of (nm := "PageDesks$Queue") (by decide) rfl rfl (Nat.le_of_ble_eq_true rfl) (fun f hC _ _ hR => ?_)
  show PW f 0 0 g I 0 [(0, .int (nI 1))] []
  refine r_iload_n hC dX9_newDesk_0 rfl rfl (j := 0) rfl ?_
  refine r_look hC (tgt := 28) (off := 27) dX9_newDesk_1 (by decide) (by decide) (by decide) ?_
  refine n_new hC (k := 0) (ty := tyX0) d dX9_newDesk_28 rfl hd rfl (by decide) rfl uw_X9_newDesk_0 tyX0_ok dfX0 (List.mem_of_getElem? (i := 1) rfl) (List.mem_of_getElem? (i := 2) rfl) (List.mem_of_getElem? (i := 3) rfl) (Nat.le_of_ble_eq_true rfl) (Nat.le_of_ble_eq_true rfl) (fun r => ?_)
  refine r_dup hC dX9_newDesk_31 rfl rfl ?_
  refine r_endV hC (rmc := rm_X0_init) (n_IN hC (host := RX9) (c_X0_init_0 (d := d) (va_up_self _ _ _) (List.mem_append_right _ (List.mem_singleton.mpr rfl)) (va_up_self _ _ _) (nmA hf (by omega))) ci_X0_init gX9_newDesk_X0_init_n252 (by decide) (List.mem_of_getElem? (i := 3) rfl) (List.mem_of_getElem? (i := 10) rfl) rfl ⟨(Nat.le_of_ble_eq_true rfl), (Nat.le_of_ble_eq_true rfl)⟩ ⟨(Nat.le_of_ble_eq_true rfl), (Nat.le_of_ble_eq_true rfl)⟩ rfl rfl (Nat.le_of_ble_eq_true rfl) dX9_newDesk_32) rfl (fun u hu => ?_)
  obtain ⟨a, rfl⟩ := hu
  exact n_retR hC hR (Nat.le_of_ble_eq_true rfl) (Nat.le_of_ble_eq_true rfl) dX9_newDesk_35 ⟨a, rfl⟩
set_option maxRecDepth 20000 in
theorem uw_X9_newDesk_5 : ∀ w ∈ u_ws RX5 TX5 5, w ∈ wsX9_newDesk := by decide +kernel
set_option maxRecDepth 100000 in
set_option maxHeartbeats 4000000 in
theorem c_newDesk_2 {l : Launch} {x : Gx} {g : Gm} {I : Mm} {d : Nat} (hd : d ∉ gC g) (hf : d + 20 ∉ gC g) : KR l x yX9_newDesk wsX9_newDesk rm_X9_newDesk g I [.int (nI 2)] (fun r u => ∃ a, u = (gPut (gAdd (gAdd g d r 5 0) (d + 20) a 11 8) d 0 a, up2 (iAdd (iAdd I d) (d + 20)) d 1 1)) := by
  refine KR_of (nm := "PageDesks$Queue") (by decide) rfl rfl (Nat.le_of_ble_eq_true rfl) (fun f hC _ _ hR => ?_)
  show PW f 0 0 g I 0 [(0, .int (nI 2))] []
  refine r_iload_n hC dX9_newDesk_0 rfl rfl (j := 0) rfl ?_
  refine r_look hC (tgt := 36) (off := 35) dX9_newDesk_1 (by decide) (by decide) (by decide) ?_
  refine n_new hC (k := 5) (ty := tyX5) d dX9_newDesk_36 rfl hd rfl (by decide) rfl uw_X9_newDesk_5 tyX5_ok dfX5 (List.mem_of_getElem? (i := 4) rfl) (List.mem_of_getElem? (i := 5) rfl) (List.mem_of_getElem? (i := 6) rfl) (Nat.le_of_ble_eq_true rfl) (Nat.le_of_ble_eq_true rfl) (fun r => ?_)
  refine r_dup hC dX9_newDesk_39 rfl rfl ?_
  refine r_endV hC (rmc := rm_X5_init) (n_IN hC (host := RX9) (c_X5_init_5 (d := d) (va_up_self _ _ _) (List.mem_append_right _ (List.mem_singleton.mpr rfl)) (va_up_self _ _ _) (nmA hf (by omega))) ci_X5_init gX9_newDesk_X5_init_n255 (by decide) (List.mem_of_getElem? (i := 6) rfl) (List.mem_of_getElem? (i := 20) rfl) rfl ⟨(Nat.le_of_ble_eq_true rfl), (Nat.le_of_ble_eq_true rfl)⟩ ⟨(Nat.le_of_ble_eq_true rfl), (Nat.le_of_ble_eq_true rfl)⟩ rfl rfl (Nat.le_of_ble_eq_true rfl) dX9_newDesk_40) rfl (fun u hu => ?_)
  obtain ⟨a, rfl⟩ := hu
  exact n_retR hC hR (Nat.le_of_ble_eq_true rfl) (Nat.le_of_ble_eq_true rfl) dX9_newDesk_43 ⟨a, rfl⟩
set_option maxRecDepth 20000 in
theorem uw_X9_newDesk_3 : ∀ w ∈ u_ws RX3 TX3 5, w ∈ wsX9_newDesk := by decide +kernel
set_option maxRecDepth 100000 in
set_option maxHeartbeats 4000000 in
theorem c_newDesk_0 {l : Launch} {x : Gx} {g : Gm} {I : Mm} {d : Nat} (hd : d ∉ gC g) (hf : d + 20 ∉ gC g) : KR l x yX9_newDesk wsX9_newDesk rm_X9_newDesk g I [.int (nI 0)] (fun r u => ∃ a, u = (gPut (gAdd (gAdd g d r 3 0) (d + 20) a 11 8) d 0 a, up2 (iAdd (iAdd I d) (d + 20)) d 1 1)) := by
  refine KR_of (nm := "PageDesks$Queue") (by decide) rfl rfl (Nat.le_of_ble_eq_true rfl) (fun f hC _ _ hR => ?_)
  show PW f 0 0 g I 0 [(0, .int (nI 0))] []
  refine r_iload_n hC dX9_newDesk_0 rfl rfl (j := 0) rfl ?_
  refine r_look hC (tgt := 44) (off := 43) dX9_newDesk_1 (by decide) (by decide) (by decide) ?_
  refine n_new hC (k := 3) (ty := tyX3) d dX9_newDesk_44 rfl hd rfl (by decide) rfl uw_X9_newDesk_3 tyX3_ok dfX3 (List.mem_of_getElem? (i := 7) rfl) (List.mem_of_getElem? (i := 8) rfl) (List.mem_of_getElem? (i := 9) rfl) (Nat.le_of_ble_eq_true rfl) (Nat.le_of_ble_eq_true rfl) (fun r => ?_)
  refine r_dup hC dX9_newDesk_47 rfl rfl ?_
  refine r_endV hC (rmc := rm_X3_init) (n_IN hC (host := RX9) (c_X3_init_3 (d := d) (va_up_self _ _ _) (List.mem_append_right _ (List.mem_singleton.mpr rfl)) (va_up_self _ _ _) (nmA hf (by omega))) ci_X3_init gX9_newDesk_X3_init_n256 (by decide) (List.mem_of_getElem? (i := 9) rfl) (List.mem_of_getElem? (i := 12) rfl) rfl ⟨(Nat.le_of_ble_eq_true rfl), (Nat.le_of_ble_eq_true rfl)⟩ ⟨(Nat.le_of_ble_eq_true rfl), (Nat.le_of_ble_eq_true rfl)⟩ rfl rfl (Nat.le_of_ble_eq_true rfl) dX9_newDesk_48) rfl (fun u hu => ?_)
  obtain ⟨a, rfl⟩ := hu
  exact n_retR hC hR (Nat.le_of_ble_eq_true rfl) (Nat.le_of_ble_eq_true rfl) dX9_newDesk_51 ⟨a, rfl⟩
theorem c_newDesk {l : Launch} {x : Gx} {g : Gm} {I : Mm} {d k : Nat} (hk : k < 3) (hd : d ∉ gC g) (hf : d + 20 ∉ gC g) : KR l x yX9_newDesk wsX9_newDesk rm_X9_newDesk g I [.int (nI k)] (fun r u => ∃ a, u = (gPut (gAdd (gAdd g d r (kc k) 0) (d + 20) a 11 8) d 0 a, up2 (iAdd (iAdd I d) (d + 20)) d 1 1)) := by
  rcases (show k = 0 ∨ k = 1 ∨ k = 2 by omega) with rfl | rfl | rfl
  · exact c_newDesk_0 hd hf
  · exact c_newDesk_1 hd hf
  · exact c_newDesk_2 hd hf
abbrev rm_X7_init : Room := { frames := 1, cells := 3, slots := 32, locals := 48 }
theorem ci_X7_init : CI yX7_init wsX7_init cX7_init 1 none 0 := ⟨⟨_, rfl⟩, by decide, by decide, by decide +kernel⟩
set_option maxRecDepth 20000 in
theorem uw_X7_init_7 : ∀ w ∈ u_ws RX7 TX7 6, w ∈ wsX7_init := by decide +kernel
set_option maxRecDepth 20000 in
theorem ffg_X7_init_9 : ∀ k ∈ ([7] : List Nat), FF wsX7_init RX7 9 k 0 ∧ fR k 0 = true := List.forall_mem_cons.mpr ⟨⟨⟨RX7, TX7, 6, "PageDesks$Text", rfl, rfl, by decide, by decide, uw_X7_init_7, (List.mem_of_getElem? (i := 5) rfl), Or.inl rfl⟩, rfl⟩, fun _ h => absurd h List.not_mem_nil⟩
set_option maxRecDepth 20000 in
theorem ffg_X7_init_15 : ∀ k ∈ ([7] : List Nat), FF wsX7_init RX7 15 k 1 ∧ fR k 1 = true := List.forall_mem_cons.mpr ⟨⟨⟨RX7, TX7, 6, "PageDesks$Text", rfl, rfl, by decide, by decide, uw_X7_init_7, (List.mem_of_getElem? (i := 6) rfl), Or.inl rfl⟩, rfl⟩, fun _ h => absurd h List.not_mem_nil⟩
set_option maxRecDepth 20000 in
theorem ffg_X7_init_18 : ∀ k ∈ ([7] : List Nat), FF wsX7_init RX7 18 k 2 ∧ fR k 2 = true := List.forall_mem_cons.mpr ⟨⟨⟨RX7, TX7, 6, "PageDesks$Text", rfl, rfl, by decide, by decide, uw_X7_init_7, (List.mem_of_getElem? (i := 7) rfl), Or.inl rfl⟩, rfl⟩, fun _ h => absurd h List.not_mem_nil⟩
set_option maxRecDepth 100000 in
set_option maxHeartbeats 4000000 in
theorem c_X7_init {l : Launch} {x : Gx} {g : Gm} {I : Mm} {b : Nat} (hb : gA g 2 = b) (hd : 2 ∈ gC g) (hk : gK g 2 = 7) (h3 : 3 ∉ gC g) (h4 : 4 ∉ gC g) (h5 : 5 ∉ gC g) : KV l x yX7_init wsX7_init rm_X7_init g I [.ref b] (fun u => ∃ a1 a2 a3, u = (gPut (gAdd (gPut (gAdd (gPut (gAdd g 3 a1 11 4) 2 0 a1) 4 a2 11 4) 2 1 a2) 5 a3 11 24) 2 2 a3, iAdd (iAdd (iAdd I 3) 4) 5)) := by
  refine KN_of (by decide) rfl rfl rfl (Nat.le_of_ble_eq_true rfl) (fun f hC _ _ hin hR => ?_)
  show PW f 0 0 g I 0 [(0, .ref b)] []
  refine r_aload_n hC dX7_init_0 rfl rfl (j := 0) rfl ?_
  refine n_obj hC dX7_init_1 rfl (List.mem_of_getElem? (i := 1) rfl) (List.mem_of_getElem? (i := 2) rfl) (List.mem_of_getElem? (i := 3) rfl) (Nat.le_of_ble_eq_true rfl) (Nat.le_of_ble_eq_true rfl) ?_
  refine r_aload_n hC dX7_init_4 rfl rfl (j := 0) rfl ?_
  refine r_iconst hC (v := (4 : Int32)) dX7_init_5 rfl (by decide) ?_
  refine n_newa hC (N := 4) (3) dX7_init_6 rfl h3 (List.mem_of_getElem? (i := 4) rfl) (by decide) (by decide) (by decide) (Nat.le_of_ble_eq_true rfl) (Nat.le_of_ble_eq_true rfl) (fun a1 => ?_)
  refine n_putRb hC hin (c := 2) (k := 7) (ty0 := tyX7) hb dX7_init_8 rfl (List.mem_append_left _ hd) hk (ffg_X7_init_9 7 (by decide)).1 rfl rfl tyX7_ok nmX7 rfl rfl rfl (by decide) ?_
  refine r_aload_n hC dX7_init_11 rfl rfl (j := 0) rfl ?_
  refine r_iconst hC (v := (4 : Int32)) dX7_init_12 rfl (by decide) ?_
  refine n_newa hC (N := 4) (4) dX7_init_13 rfl (nmA h4 (by decide)) (List.mem_of_getElem? (i := 4) rfl) (by decide) (by decide) (by decide) (Nat.le_of_ble_eq_true rfl) (Nat.le_of_ble_eq_true rfl) (fun a2 => ?_)
  refine n_putRb hC hin (c := 2) (k := 7) (ty0 := tyX7) hb dX7_init_15 rfl (List.mem_append_left _ (List.mem_append_left _ hd)) hk (ffg_X7_init_15 7 (by decide)).1 rfl rfl tyX7_ok nmX7 rfl rfl rfl (by decide) ?_
  refine r_aload_n hC dX7_init_18 rfl rfl (j := 0) rfl ?_
  refine r_bipush hC (v := (24 : Int32)) dX7_init_19 rfl (by decide) ?_
  refine n_newa hC (N := 24) (5) dX7_init_21 rfl (nmA (nmA h5 (by decide)) (by decide)) (List.mem_of_getElem? (i := 4) rfl) (by decide) (by decide) (by decide) (Nat.le_of_ble_eq_true rfl) (Nat.le_of_ble_eq_true rfl) (fun a3 => ?_)
  refine n_putRb hC hin (c := 2) (k := 7) (ty0 := tyX7) hb dX7_init_23 rfl (List.mem_append_left _ (List.mem_append_left _ (List.mem_append_left _ hd))) hk (ffg_X7_init_18 7 (by decide)).1 rfl rfl tyX7_ok nmX7 rfl rfl rfl (by decide) ?_
  exact n_retV hC hR (Nat.le_of_ble_eq_true rfl) (Nat.le_of_ble_eq_true rfl) dX7_init_26 ⟨a1, a2, a3, rfl⟩
abbrev rm_X2_init : Room := { frames := 1, cells := 1, slots := 24, locals := 48 }
theorem ci_X2_init : CI yX2_init wsX2_init cX2_init 1 none 0 := ⟨⟨_, rfl⟩, by decide, by decide, by decide +kernel⟩
set_option maxRecDepth 20000 in
theorem uw_X2_init_2 : ∀ w ∈ u_ws RX2 TX2 2, w ∈ wsX2_init := by decide +kernel
set_option maxRecDepth 20000 in
theorem ffg_X2_init_9 : ∀ k ∈ ([2] : List Nat), FF wsX2_init RX2 9 k 0 ∧ fR k 0 = true := List.forall_mem_cons.mpr ⟨⟨⟨RX2, TX2, 2, "PageDesks$Line", rfl, rfl, by decide, by decide, uw_X2_init_2, (List.mem_of_getElem? (i := 5) rfl), Or.inl rfl⟩, rfl⟩, fun _ h => absurd h List.not_mem_nil⟩
set_option maxRecDepth 100000 in
set_option maxHeartbeats 4000000 in
theorem c_X2_init {l : Launch} {x : Gx} {g : Gm} {I : Mm} {b : Nat} (hb : gA g 8 = b) (hd : 8 ∈ gC g) (hk : gK g 8 = 2) (h9 : 9 ∉ gC g) : KV l x yX2_init wsX2_init rm_X2_init g I [.ref b] (fun u => ∃ a1, u = (gPut (gAdd g 9 a1 11 24) 8 0 a1, iAdd I 9)) := by
  refine KN_of (by decide) rfl rfl rfl (Nat.le_of_ble_eq_true rfl) (fun f hC _ _ hin hR => ?_)
  show PW f 0 0 g I 0 [(0, .ref b)] []
  refine r_aload_n hC dX2_init_0 rfl rfl (j := 0) rfl ?_
  refine n_obj hC dX2_init_1 rfl (List.mem_of_getElem? (i := 1) rfl) (List.mem_of_getElem? (i := 2) rfl) (List.mem_of_getElem? (i := 3) rfl) (Nat.le_of_ble_eq_true rfl) (Nat.le_of_ble_eq_true rfl) ?_
  refine r_aload_n hC dX2_init_4 rfl rfl (j := 0) rfl ?_
  refine r_bipush hC (v := (24 : Int32)) dX2_init_5 rfl (by decide) ?_
  refine n_newa hC (N := 24) (9) dX2_init_7 rfl h9 (List.mem_of_getElem? (i := 4) rfl) (by decide) (by decide) (by decide) (Nat.le_of_ble_eq_true rfl) (Nat.le_of_ble_eq_true rfl) (fun a1 => ?_)
  refine n_putRb hC hin (c := 8) (k := 2) (ty0 := tyX2) hb dX2_init_9 rfl (List.mem_append_left _ hd) hk (ffg_X2_init_9 2 (by decide)).1 rfl rfl tyX2_ok nmX2 rfl rfl rfl (by decide) ?_
  exact n_retV hC hR (Nat.le_of_ble_eq_true rfl) (Nat.le_of_ble_eq_true rfl) dX2_init_12 ⟨a1, rfl⟩
abbrev rm_X1_init : Room := { frames := 1, cells := 1, slots := 24, locals := 48 }
theorem ci_X1_init : CI yX1_init wsX1_init cX1_init 1 none 0 := ⟨⟨_, rfl⟩, by decide, by decide, by decide +kernel⟩
set_option maxRecDepth 20000 in
theorem uw_X1_init_1 : ∀ w ∈ u_ws RX1 TX1 2, w ∈ wsX1_init := by decide +kernel
set_option maxRecDepth 20000 in
theorem ffg_X1_init_9 : ∀ k ∈ ([1] : List Nat), FF wsX1_init RX1 9 k 0 ∧ fR k 0 = true := List.forall_mem_cons.mpr ⟨⟨⟨RX1, TX1, 2, "PageDesks$Latest", rfl, rfl, by decide, by decide, uw_X1_init_1, (List.mem_of_getElem? (i := 5) rfl), Or.inl rfl⟩, rfl⟩, fun _ h => absurd h List.not_mem_nil⟩
set_option maxRecDepth 100000 in
set_option maxHeartbeats 4000000 in
theorem c_X1_init {l : Launch} {x : Gx} {g : Gm} {I : Mm} {b : Nat} (hb : gA g 10 = b) (hd : 10 ∈ gC g) (hk : gK g 10 = 1) (h11 : 11 ∉ gC g) : KV l x yX1_init wsX1_init rm_X1_init g I [.ref b] (fun u => ∃ a1, u = (gPut (gAdd g 11 a1 11 24) 10 0 a1, iAdd I 11)) := by
  refine KN_of (by decide) rfl rfl rfl (Nat.le_of_ble_eq_true rfl) (fun f hC _ _ hin hR => ?_)
  show PW f 0 0 g I 0 [(0, .ref b)] []
  refine r_aload_n hC dX1_init_0 rfl rfl (j := 0) rfl ?_
  refine n_obj hC dX1_init_1 rfl (List.mem_of_getElem? (i := 1) rfl) (List.mem_of_getElem? (i := 2) rfl) (List.mem_of_getElem? (i := 3) rfl) (Nat.le_of_ble_eq_true rfl) (Nat.le_of_ble_eq_true rfl) ?_
  refine r_aload_n hC dX1_init_4 rfl rfl (j := 0) rfl ?_
  refine r_bipush hC (v := (24 : Int32)) dX1_init_5 rfl (by decide) ?_
  refine n_newa hC (N := 24) (11) dX1_init_7 rfl h11 (List.mem_of_getElem? (i := 4) rfl) (by decide) (by decide) (by decide) (Nat.le_of_ble_eq_true rfl) (Nat.le_of_ble_eq_true rfl) (fun a1 => ?_)
  refine n_putRb hC hin (c := 10) (k := 1) (ty0 := tyX1) hb dX1_init_9 rfl (List.mem_append_left _ hd) hk (ffg_X1_init_9 1 (by decide)).1 rfl rfl tyX1_ok nmX1 rfl rfl rfl (by decide) ?_
  exact n_retV hC hR (Nat.le_of_ble_eq_true rfl) (Nat.le_of_ble_eq_true rfl) dX1_init_12 ⟨a1, rfl⟩
abbrev rm_X4_init : Room := { frames := 1, cells := 3, slots := 24, locals := 48 }
theorem ci_X4_init : CI yX4_init wsX4_init cX4_init 1 none 0 := ⟨⟨_, rfl⟩, by decide, by decide, by decide +kernel⟩
set_option maxRecDepth 20000 in
theorem uw_X4_init_4 : ∀ w ∈ u_ws RX4 TX4 4, w ∈ wsX4_init := by decide +kernel
set_option maxRecDepth 20000 in
theorem ffg_X4_init_9 : ∀ k ∈ ([4] : List Nat), FF wsX4_init RX4 9 k 0 ∧ fR k 0 = true := List.forall_mem_cons.mpr ⟨⟨⟨RX4, TX4, 4, "PageDesks$Readings", rfl, rfl, by decide, by decide, uw_X4_init_4, (List.mem_of_getElem? (i := 5) rfl), Or.inl rfl⟩, rfl⟩, fun _ h => absurd h List.not_mem_nil⟩
set_option maxRecDepth 20000 in
theorem ffg_X4_init_15 : ∀ k ∈ ([4] : List Nat), FF wsX4_init RX4 15 k 1 ∧ fR k 1 = true := List.forall_mem_cons.mpr ⟨⟨⟨RX4, TX4, 4, "PageDesks$Readings", rfl, rfl, by decide, by decide, uw_X4_init_4, (List.mem_of_getElem? (i := 6) rfl), Or.inl rfl⟩, rfl⟩, fun _ h => absurd h List.not_mem_nil⟩
set_option maxRecDepth 20000 in
theorem ffg_X4_init_18 : ∀ k ∈ ([4] : List Nat), FF wsX4_init RX4 18 k 2 ∧ fR k 2 = true := List.forall_mem_cons.mpr ⟨⟨⟨RX4, TX4, 4, "PageDesks$Readings", rfl, rfl, by decide, by decide, uw_X4_init_4, (List.mem_of_getElem? (i := 7) rfl), Or.inl rfl⟩, rfl⟩, fun _ h => absurd h List.not_mem_nil⟩
set_option maxRecDepth 100000 in
set_option maxHeartbeats 4000000 in
theorem c_X4_init {l : Launch} {x : Gx} {g : Gm} {I : Mm} {b : Nat} (hb : gA g 12 = b) (hd : 12 ∈ gC g) (hk : gK g 12 = 4) (h13 : 13 ∉ gC g) (h14 : 14 ∉ gC g) (h15 : 15 ∉ gC g) : KV l x yX4_init wsX4_init rm_X4_init g I [.ref b] (fun u => ∃ a1 a2 a3, u = (gPut (gAdd (gPut (gAdd (gPut (gAdd g 13 a1 11 8) 12 0 a1) 14 a2 11 8) 12 1 a2) 15 a3 11 8) 12 2 a3, iAdd (iAdd (iAdd I 13) 14) 15)) := by
  refine KN_of (by decide) rfl rfl rfl (Nat.le_of_ble_eq_true rfl) (fun f hC _ _ hin hR => ?_)
  show PW f 0 0 g I 0 [(0, .ref b)] []
  refine r_aload_n hC dX4_init_0 rfl rfl (j := 0) rfl ?_
  refine n_obj hC dX4_init_1 rfl (List.mem_of_getElem? (i := 1) rfl) (List.mem_of_getElem? (i := 2) rfl) (List.mem_of_getElem? (i := 3) rfl) (Nat.le_of_ble_eq_true rfl) (Nat.le_of_ble_eq_true rfl) ?_
  refine r_aload_n hC dX4_init_4 rfl rfl (j := 0) rfl ?_
  refine r_bipush hC (v := (8 : Int32)) dX4_init_5 rfl (by decide) ?_
  refine n_newa hC (N := 8) (13) dX4_init_7 rfl h13 (List.mem_of_getElem? (i := 4) rfl) (by decide) (by decide) (by decide) (Nat.le_of_ble_eq_true rfl) (Nat.le_of_ble_eq_true rfl) (fun a1 => ?_)
  refine n_putRb hC hin (c := 12) (k := 4) (ty0 := tyX4) hb dX4_init_9 rfl (List.mem_append_left _ hd) hk (ffg_X4_init_9 4 (by decide)).1 rfl rfl tyX4_ok nmX4 rfl rfl rfl (by decide) ?_
  refine r_aload_n hC dX4_init_12 rfl rfl (j := 0) rfl ?_
  refine r_bipush hC (v := (8 : Int32)) dX4_init_13 rfl (by decide) ?_
  refine n_newa hC (N := 8) (14) dX4_init_15 rfl (nmA h14 (by decide)) (List.mem_of_getElem? (i := 4) rfl) (by decide) (by decide) (by decide) (Nat.le_of_ble_eq_true rfl) (Nat.le_of_ble_eq_true rfl) (fun a2 => ?_)
  refine n_putRb hC hin (c := 12) (k := 4) (ty0 := tyX4) hb dX4_init_17 rfl (List.mem_append_left _ (List.mem_append_left _ hd)) hk (ffg_X4_init_15 4 (by decide)).1 rfl rfl tyX4_ok nmX4 rfl rfl rfl (by decide) ?_
  refine r_aload_n hC dX4_init_20 rfl rfl (j := 0) rfl ?_
  refine r_bipush hC (v := (8 : Int32)) dX4_init_21 rfl (by decide) ?_
  refine n_newa hC (N := 8) (15) dX4_init_23 rfl (nmA (nmA h15 (by decide)) (by decide)) (List.mem_of_getElem? (i := 4) rfl) (by decide) (by decide) (by decide) (Nat.le_of_ble_eq_true rfl) (Nat.le_of_ble_eq_true rfl) (fun a3 => ?_)
  refine n_putRb hC hin (c := 12) (k := 4) (ty0 := tyX4) hb dX4_init_25 rfl (List.mem_append_left _ (List.mem_append_left _ (List.mem_append_left _ hd))) hk (ffg_X4_init_18 4 (by decide)).1 rfl rfl tyX4_ok nmX4 rfl rfl rfl (by decide) ?_
  exact n_retV hC hR (Nat.le_of_ble_eq_true rfl) (Nat.le_of_ble_eq_true rfl) dX4_init_28 ⟨a1, a2, a3, rfl⟩
abbrev rm_X8_init : Room := { frames := 1, cells := 0, slots := 0, locals := 48 }
theorem ci_X8_init : CI yX8_init wsX8_init cX8_init 1 none 0 := ⟨⟨_, rfl⟩, by decide, by decide, by decide +kernel⟩
set_option maxRecDepth 100000 in
set_option maxHeartbeats 4000000 in
theorem c_X8_init {l : Launch} {x : Gx} {g : Gm} {I : Mm} {b : Nat} (hb : gA g 16 = b) (hd : 16 ∈ gC g) (hk : gK g 16 = 8)  : KV l x yX8_init wsX8_init rm_X8_init g I [.ref b] (fun u => u = (g, I)) := by
  refine KN_of (by decide) rfl rfl rfl (Nat.le_of_ble_eq_true rfl) (fun f hC _ _ hin hR => ?_)
  show PW f 0 0 g I 0 [(0, .ref b)] []
  refine r_aload_n hC dX8_init_0 rfl rfl (j := 0) rfl ?_
  refine n_obj hC dX8_init_1 rfl (List.mem_of_getElem? (i := 1) rfl) (List.mem_of_getElem? (i := 2) rfl) (List.mem_of_getElem? (i := 3) rfl) (Nat.le_of_ble_eq_true rfl) (Nat.le_of_ble_eq_true rfl) ?_
  exact n_retV hC hR (Nat.le_of_ble_eq_true rfl) (Nat.le_of_ble_eq_true rfl) dX8_init_4 rfl
