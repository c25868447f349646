/-! a new PageDesks, a new model -/
def gNil : Gm := ([], fun _ => 0, fun _ => 0, fun _ => 0, fun _ _ => none)
def I00 : Mm := fun _ _ => 0
def z0 : St := (0, [], 0, fun _ => 0, fun _ => 0, [], fun _ => none, 0, 0)
theorem up2_e {I : Mm} {c j d i : Nat} {v : Int32} : up2 I c j v d i = if d = c then (if i = j then v else I c i) else I d i := by
  unfold up2 va_up upd
  by_cases h : d = c
  · subst h; simp
  · simp [h]
theorem iAdd_e {I : Mm} {c d i : Nat} : iAdd I c d i = if d = c then 0 else I d i := by
  unfold iAdd va_up
  by_cases h : d = c
  · subst h; simp
  · simp [h]
abbrev rm_X9_init : Room := { frames := 5, cells := 30, slots := 421, locals := 128 }
theorem ci_X9_init : CI yX9_init wsX9_init cX9_init 2 none 0 := ⟨⟨_, rfl⟩, by decide, by decide, by decide +kernel⟩
set_option maxRecDepth 20000 in
theorem uw_X9_init_9 : ∀ w ∈ u_ws RX9 TX9 11, w ∈ wsX9_init := by decide +kernel
set_option maxRecDepth 20000 in
theorem ffg_X9_init_13 : ∀ k ∈ ([9] : List Nat), FF wsX9_init RX9 13 k 0 ∧ fR k 0 = true := List.forall_mem_cons.mpr ⟨⟨⟨RX9, TX9, 11, "PageDesks", rfl, rfl, by decide, by decide, uw_X9_init_9, (List.mem_of_getElem? (i := 5) rfl), Or.inl rfl⟩, rfl⟩, fun _ h => absurd h List.not_mem_nil⟩
set_option maxRecDepth 20000 in
theorem uw_X9_init_7 : ∀ w ∈ u_ws RX7 TX7 6, w ∈ wsX9_init := by decide +kernel
set_option maxRecDepth 20000 in
theorem ffg_X9_init_20 : ∀ k ∈ ([9] : List Nat), FF wsX9_init RX9 20 k 1 ∧ fR k 1 = true := List.forall_mem_cons.mpr ⟨⟨⟨RX9, TX9, 11, "PageDesks", rfl, rfl, by decide, by decide, uw_X9_init_9, (List.mem_of_getElem? (i := 9) rfl), Or.inl rfl⟩, rfl⟩, fun _ h => absurd h List.not_mem_nil⟩
set_option maxRecDepth 20000 in
theorem ffg_X9_init_26 : ∀ k ∈ ([9] : List Nat), FF wsX9_init RX9 26 k 2 ∧ fR k 2 = true := List.forall_mem_cons.mpr ⟨⟨⟨RX9, TX9, 11, "PageDesks", rfl, rfl, by decide, by decide, uw_X9_init_9, (List.mem_of_getElem? (i := 11) rfl), Or.inl rfl⟩, rfl⟩, fun _ h => absurd h List.not_mem_nil⟩
set_option maxRecDepth 20000 in
theorem ffg_X9_init_30 : ∀ k ∈ ([9] : List Nat), FF wsX9_init RX9 30 k 3 ∧ fR k 3 = true := List.forall_mem_cons.mpr ⟨⟨⟨RX9, TX9, 11, "PageDesks", rfl, rfl, by decide, by decide, uw_X9_init_9, (List.mem_of_getElem? (i := 12) rfl), Or.inl rfl⟩, rfl⟩, fun _ h => absurd h List.not_mem_nil⟩
set_option maxRecDepth 20000 in
theorem uw_X9_init_2 : ∀ w ∈ u_ws RX2 TX2 2, w ∈ wsX9_init := by decide +kernel
set_option maxRecDepth 20000 in
theorem ffg_X9_init_36 : ∀ k ∈ ([9] : List Nat), FF wsX9_init RX9 36 k 4 ∧ fR k 4 = true := List.forall_mem_cons.mpr ⟨⟨⟨RX9, TX9, 11, "PageDesks", rfl, rfl, by decide, by decide, uw_X9_init_9, (List.mem_of_getElem? (i := 16) rfl), Or.inl rfl⟩, rfl⟩, fun _ h => absurd h List.not_mem_nil⟩
set_option maxRecDepth 20000 in
theorem uw_X9_init_1 : ∀ w ∈ u_ws RX1 TX1 2, w ∈ wsX9_init := by decide +kernel
set_option maxRecDepth 20000 in
theorem ffg_X9_init_43 : ∀ k ∈ ([9] : List Nat), FF wsX9_init RX9 43 k 5 ∧ fR k 5 = true := List.forall_mem_cons.mpr ⟨⟨⟨RX9, TX9, 11, "PageDesks", rfl, rfl, by decide, by decide, uw_X9_init_9, (List.mem_of_getElem? (i := 20) rfl), Or.inl rfl⟩, rfl⟩, fun _ h => absurd h List.not_mem_nil⟩
set_option maxRecDepth 20000 in
theorem uw_X9_init_4 : ∀ w ∈ u_ws RX4 TX4 4, w ∈ wsX9_init := by decide +kernel
set_option maxRecDepth 20000 in
theorem ffg_X9_init_50 : ∀ k ∈ ([9] : List Nat), FF wsX9_init RX9 50 k 6 ∧ fR k 6 = true := List.forall_mem_cons.mpr ⟨⟨⟨RX9, TX9, 11, "PageDesks", rfl, rfl, by decide, by decide, uw_X9_init_9, (List.mem_of_getElem? (i := 24) rfl), Or.inl rfl⟩, rfl⟩, fun _ h => absurd h List.not_mem_nil⟩
set_option maxRecDepth 20000 in
theorem uw_X9_init_8 : ∀ w ∈ u_ws RX8 TX8 1, w ∈ wsX9_init := by decide +kernel
set_option maxRecDepth 20000 in
theorem ffg_X9_init_57 : ∀ k ∈ ([9] : List Nat), FF wsX9_init RX9 57 k 7 ∧ fR k 7 = true := List.forall_mem_cons.mpr ⟨⟨⟨RX9, TX9, 11, "PageDesks", rfl, rfl, by decide, by decide, uw_X9_init_9, (List.mem_of_getElem? (i := 28) rfl), Or.inl rfl⟩, rfl⟩, fun _ h => absurd h List.not_mem_nil⟩
set_option maxRecDepth 20000 in
theorem uw_X9_init_6 : ∀ w ∈ u_ws RX6 TX6 3, w ∈ wsX9_init := by decide +kernel
set_option maxRecDepth 100000 in
set_option maxHeartbeats 4000000 in
theorem c_X9_init {l : Launch} {x : Gx} {b : Nat} : KV l x yX9_init wsX9_init rm_X9_init (gAdd gNil 0 b 9 0) (iAdd I00 0) [.ref b] (fun u => gA u.1 0 = b ∧ shP u.1 0 ∧ CV (gK u.1) z0 u.2 ∧ gC u.1 = [0, 1, 2, 3, 4, 5, 6, 7, 8, 9, 10, 11, 12, 13, 14, 15, 16, 20, 24, 21, 25, 22, 26, 23, 27, 30, 50, 31, 51, 32, 52]) := by
  refine KN_of (by decide) rfl rfl rfl (Nat.le_of_ble_eq_true rfl) (fun f hC _ _ hin hR => ?_)
  show PW f 0 0 (gAdd gNil 0 b 9 0) (iAdd I00 0) 0 [(0, .ref b)] []
  refine r_aload_n hC dX9_init_0 rfl rfl (j := 0) rfl ?_
  refine n_obj hC dX9_init_1 rfl (List.mem_of_getElem? (i := 1) rfl) (List.mem_of_getElem? (i := 2) rfl) (List.mem_of_getElem? (i := 3) rfl) (Nat.le_of_ble_eq_true rfl) (Nat.le_of_ble_eq_true rfl) ?_
  refine r_aload_n hC dX9_init_4 rfl rfl (j := 0) rfl ?_
  refine r_iconst hC (v := (4 : Int32)) dX9_init_5 rfl (by decide) ?_
  refine n_newq hC (N := 4) (k := 13) (C := RX6) (1) dX9_init_6 rfl (nmE rfl) (Or.inr ⟨rfl, rfl⟩) (List.mem_of_getElem? (i := 4) rfl) (by decide) (by decide) (by decide) (Nat.le_of_ble_eq_true rfl) (Nat.le_of_ble_eq_true rfl) (fun a1 => ?_)
  refine n_putRb hC hin (c := 0) (k := 9) (ty0 := tyX9) rfl dX9_init_9 rfl (memE rfl) rfl (ffg_X9_init_13 9 (by decide)).1 rfl rfl tyX9_ok nmX9 rfl rfl rfl (by decide) ?_
  refine r_aload_n hC dX9_init_12 rfl rfl (j := 0) rfl ?_
  refine n_new hC (k := 7) (ty := tyX7) (2) dX9_init_13 rfl (nmE rfl) rfl (by decide) rfl uw_X9_init_7 tyX7_ok dfX7 (List.mem_of_getElem? (i := 6) rfl) (List.mem_of_getElem? (i := 7) rfl) (List.mem_of_getElem? (i := 8) rfl) (Nat.le_of_ble_eq_true rfl) (Nat.le_of_ble_eq_true rfl) (fun a2 => ?_)
  refine r_dup hC dX9_init_16 rfl rfl ?_
  refine r_endV hC (rmc := rm_X7_init) (n_IN hC (host := RX9) (c_X7_init rfl (memE rfl) rfl (nmE rfl) (nmE rfl) (nmE rfl)) ci_X7_init gX9_init_X7_init_n19 (by decide) (List.mem_of_getElem? (i := 8) rfl) (List.mem_of_getElem? (i := 31) rfl) rfl ⟨(Nat.le_of_ble_eq_true rfl), (Nat.le_of_ble_eq_true rfl)⟩ ⟨(Nat.le_of_ble_eq_true rfl), (Nat.le_of_ble_eq_true rfl)⟩ rfl rfl (Nat.le_of_ble_eq_true rfl) dX9_init_17) rfl (fun u hu => ?_)
  obtain ⟨a3, a4, a5, rfl⟩ := hu
  dsimp only
  refine n_putRb hC hin (c := 0) (k := 9) (ty0 := tyX9) rfl dX9_init_20 rfl (memE rfl) rfl (ffg_X9_init_20 9 (by decide)).1 rfl rfl tyX9_ok nmX9 rfl rfl rfl (by decide) ?_
  refine r_aload_n hC dX9_init_23 rfl rfl (j := 0) rfl ?_
  refine r_iconst hC (v := (4 : Int32)) dX9_init_24 rfl (by decide) ?_
  refine n_newq hC (N := 4) (k := 12) (C := RX3) (6) dX9_init_25 rfl (nmE rfl) (Or.inl ⟨rfl, rfl⟩) (List.mem_of_getElem? (i := 10) rfl) (by decide) (by decide) (by decide) (Nat.le_of_ble_eq_true rfl) (Nat.le_of_ble_eq_true rfl) (fun a6 => ?_)
  refine n_putRb hC hin (c := 0) (k := 9) (ty0 := tyX9) rfl dX9_init_28 rfl (memE rfl) rfl (ffg_X9_init_26 9 (by decide)).1 rfl rfl tyX9_ok nmX9 rfl rfl rfl (by decide) ?_
  refine r_aload_n hC dX9_init_31 rfl rfl (j := 0) rfl ?_
  refine r_iconst hC (v := (3 : Int32)) dX9_init_32 rfl (by decide) ?_
  refine n_newq hC (N := 3) (k := 12) (C := RX3) (7) dX9_init_33 rfl (nmE rfl) (Or.inl ⟨rfl, rfl⟩) (List.mem_of_getElem? (i := 10) rfl) (by decide) (by decide) (by decide) (Nat.le_of_ble_eq_true rfl) (Nat.le_of_ble_eq_true rfl) (fun a7 => ?_)
  refine n_putRb hC hin (c := 0) (k := 9) (ty0 := tyX9) rfl dX9_init_36 rfl (memE rfl) rfl (ffg_X9_init_30 9 (by decide)).1 rfl rfl tyX9_ok nmX9 rfl rfl rfl (by decide) ?_
  refine r_aload_n hC dX9_init_39 rfl rfl (j := 0) rfl ?_
  refine n_new hC (k := 2) (ty := tyX2) (8) dX9_init_40 rfl (nmE rfl) rfl (by decide) rfl uw_X9_init_2 tyX2_ok dfX2 (List.mem_of_getElem? (i := 13) rfl) (List.mem_of_getElem? (i := 14) rfl) (List.mem_of_getElem? (i := 15) rfl) (Nat.le_of_ble_eq_true rfl) (Nat.le_of_ble_eq_true rfl) (fun a8 => ?_)
  refine r_dup hC dX9_init_43 rfl rfl ?_
  refine r_endV hC (rmc := rm_X2_init) (n_IN hC (host := RX9) (c_X2_init rfl (memE rfl) rfl (nmE rfl)) ci_X2_init gX9_init_X2_init_n35 (by decide) (List.mem_of_getElem? (i := 15) rfl) (List.mem_of_getElem? (i := 38) rfl) rfl ⟨(Nat.le_of_ble_eq_true rfl), (Nat.le_of_ble_eq_true rfl)⟩ ⟨(Nat.le_of_ble_eq_true rfl), (Nat.le_of_ble_eq_true rfl)⟩ rfl rfl (Nat.le_of_ble_eq_true rfl) dX9_init_44) rfl (fun u hu => ?_)
  obtain ⟨a9, rfl⟩ := hu
  dsimp only
  refine n_putRb hC hin (c := 0) (k := 9) (ty0 := tyX9) rfl dX9_init_47 rfl (memE rfl) rfl (ffg_X9_init_36 9 (by decide)).1 rfl rfl tyX9_ok nmX9 rfl rfl rfl (by decide) ?_
  refine r_aload_n hC dX9_init_50 rfl rfl (j := 0) rfl ?_
  refine n_new hC (k := 1) (ty := tyX1) (10) dX9_init_51 rfl (nmE rfl) rfl (by decide) rfl uw_X9_init_1 tyX1_ok dfX1 (List.mem_of_getElem? (i := 17) rfl) (List.mem_of_getElem? (i := 18) rfl) (List.mem_of_getElem? (i := 19) rfl) (Nat.le_of_ble_eq_true rfl) (Nat.le_of_ble_eq_true rfl) (fun a10 => ?_)
  refine r_dup hC dX9_init_54 rfl rfl ?_
  refine r_endV hC (rmc := rm_X1_init) (n_IN hC (host := RX9) (c_X1_init rfl (memE rfl) rfl (nmE rfl)) ci_X1_init gX9_init_X1_init_n42 (by decide) (List.mem_of_getElem? (i := 19) rfl) (List.mem_of_getElem? (i := 42) rfl) rfl ⟨(Nat.le_of_ble_eq_true rfl), (Nat.le_of_ble_eq_true rfl)⟩ ⟨(Nat.le_of_ble_eq_true rfl), (Nat.le_of_ble_eq_true rfl)⟩ rfl rfl (Nat.le_of_ble_eq_true rfl) dX9_init_55) rfl (fun u hu => ?_)
  obtain ⟨a11, rfl⟩ := hu
  dsimp only
  refine n_putRb hC hin (c := 0) (k := 9) (ty0 := tyX9) rfl dX9_init_58 rfl (memE rfl) rfl (ffg_X9_init_43 9 (by decide)).1 rfl rfl tyX9_ok nmX9 rfl rfl rfl (by decide) ?_
  refine r_aload_n hC dX9_init_61 rfl rfl (j := 0) rfl ?_
  refine n_new hC (k := 4) (ty := tyX4) (12) dX9_init_62 rfl (nmE rfl) rfl (by decide) rfl uw_X9_init_4 tyX4_ok dfX4 (List.mem_of_getElem? (i := 21) rfl) (List.mem_of_getElem? (i := 22) rfl) (List.mem_of_getElem? (i := 23) rfl) (Nat.le_of_ble_eq_true rfl) (Nat.le_of_ble_eq_true rfl) (fun a12 => ?_)
  refine r_dup hC dX9_init_65 rfl rfl ?_
  refine r_endV hC (rmc := rm_X4_init) (n_IN hC (host := RX9) (c_X4_init rfl (memE rfl) rfl (nmE rfl) (nmE rfl) (nmE rfl)) ci_X4_init gX9_init_X4_init_n49 (by decide) (List.mem_of_getElem? (i := 23) rfl) (List.mem_of_getElem? (i := 46) rfl) rfl ⟨(Nat.le_of_ble_eq_true rfl), (Nat.le_of_ble_eq_true rfl)⟩ ⟨(Nat.le_of_ble_eq_true rfl), (Nat.le_of_ble_eq_true rfl)⟩ rfl rfl (Nat.le_of_ble_eq_true rfl) dX9_init_66) rfl (fun u hu => ?_)
  obtain ⟨a13, a14, a15, rfl⟩ := hu
  dsimp only
  refine n_putRb hC hin (c := 0) (k := 9) (ty0 := tyX9) rfl dX9_init_69 rfl (memE rfl) rfl (ffg_X9_init_50 9 (by decide)).1 rfl rfl tyX9_ok nmX9 rfl rfl rfl (by decide) ?_
  refine r_aload_n hC dX9_init_72 rfl rfl (j := 0) rfl ?_
  refine n_new hC (k := 8) (ty := tyX8) (16) dX9_init_73 rfl (nmE rfl) rfl (by decide) rfl uw_X9_init_8 tyX8_ok dfX8 (List.mem_of_getElem? (i := 25) rfl) (List.mem_of_getElem? (i := 26) rfl) (List.mem_of_getElem? (i := 27) rfl) (Nat.le_of_ble_eq_true rfl) (Nat.le_of_ble_eq_true rfl) (fun a16 => ?_)
  refine r_dup hC dX9_init_76 rfl rfl ?_
  refine r_endV hC (rmc := rm_X8_init) (n_IN hC (host := RX9) (c_X8_init rfl (memE rfl) rfl ) ci_X8_init gX9_init_X8_init_n56 (by decide) (List.mem_of_getElem? (i := 27) rfl) (List.mem_of_getElem? (i := 52) rfl) rfl ⟨(Nat.le_of_ble_eq_true rfl), (Nat.le_of_ble_eq_true rfl)⟩ ⟨(Nat.le_of_ble_eq_true rfl), (Nat.le_of_ble_eq_true rfl)⟩ rfl rfl (Nat.le_of_ble_eq_true rfl) dX9_init_77) rfl (fun u hu => ?_)
  obtain ⟨rfl⟩ := hu
  dsimp only
  refine n_putRb hC hin (c := 0) (k := 9) (ty0 := tyX9) rfl dX9_init_80 rfl (memE rfl) rfl (ffg_X9_init_57 9 (by decide)).1 rfl rfl tyX9_ok nmX9 rfl rfl rfl (by decide) ?_
  refine r_iconst hC (v := (0 : Int32)) dX9_init_83 rfl (by decide) ?_
  refine r_istore_n hC (lv' := [(1, .int (0 : Int32)), (0, .ref b)]) dX9_init_84 rfl rfl (by decide) rfl ?_
  refine r_iload_n hC dX9_init_85 rfl rfl (j := 0) rfl ?_
  refine r_iconst hC (v := (4 : Int32)) dX9_init_86 rfl (by decide) ?_
  refine r_icmp_ge hC (tgt := 109) (P1 := False) (P2 := True) dX9_init_87 rfl (by decide) (by decide) (fun h => h.elim) (fun _ => ?_)
  refine r_aload_n hC dX9_init_90 rfl rfl (j := 1) rfl ?_
  refine r_getRb hC (c := 0) (ks := [9]) (a := a1) rfl dX9_init_91 rfl (memE rfl) (List.mem_singleton.mpr rfl) ffg_X9_init_13 rfl ?_
  refine r_iload_n hC dX9_init_94 rfl rfl (j := 0) rfl ?_
  refine n_new hC (k := 6) (ty := tyX6) (20) dX9_init_95 rfl (nmE rfl) rfl (by decide) rfl uw_X9_init_6 tyX6_ok dfX6 (List.mem_of_getElem? (i := 4) rfl) (List.mem_of_getElem? (i := 29) rfl) (List.mem_of_getElem? (i := 30) rfl) (Nat.le_of_ble_eq_true rfl) (Nat.le_of_ble_eq_true rfl) (fun a17 => ?_)
  refine r_dup hC dX9_init_98 rfl rfl ?_
  refine r_endV hC (rmc := rm_X6_init) (n_IN hC (host := RX9) (c_X6_init_6 (d := 20) rfl (memE rfl) rfl (nmE rfl)) ci_X6_init gX9_init_X6_init_n61 (by decide) (List.mem_of_getElem? (i := 30) rfl) (List.mem_of_getElem? (i := 55) rfl) rfl ⟨(Nat.le_of_ble_eq_true rfl), (Nat.le_of_ble_eq_true rfl)⟩ ⟨(Nat.le_of_ble_eq_true rfl), (Nat.le_of_ble_eq_true rfl)⟩ rfl rfl (Nat.le_of_ble_eq_true rfl) dX9_init_99) rfl (fun u hu => ?_)
  obtain ⟨a18, rfl⟩ := hu
  dsimp only
  refine n_aastb hC (c := 1) (v := 20) rfl rfl dX9_init_102 rfl (memE rfl) (memE rfl) (Or.inr ⟨rfl, rfl⟩) (vp_in_nI (n := 0) (Nat.le_of_ble_eq_true rfl) (Nat.le_of_ble_eq_true rfl)) ?_
  refine r_iinc hC (k := 1) (lv' := [(1, .int (1 : Int32)), (0, .ref b)]) dX9_init_103 rfl (j := 0) rfl (by decide) (by decide) rfl ?_
  refine r_goto hC (tgt := 85) dX9_init_106 (by decide) ?_
  refine r_iload_n hC dX9_init_85 rfl rfl (j := 0) rfl ?_
  refine r_iconst hC (v := (4 : Int32)) dX9_init_86 rfl (by decide) ?_
  refine r_icmp_ge hC (tgt := 109) (P1 := False) (P2 := True) dX9_init_87 rfl (by decide) (by decide) (fun h => h.elim) (fun _ => ?_)
  refine r_aload_n hC dX9_init_90 rfl rfl (j := 1) rfl ?_
  refine r_getRb hC (c := 0) (ks := [9]) (a := a1) rfl dX9_init_91 rfl (memE rfl) (List.mem_singleton.mpr rfl) ffg_X9_init_13 rfl ?_
  refine r_iload_n hC dX9_init_94 rfl rfl (j := 0) rfl ?_
  refine n_new hC (k := 6) (ty := tyX6) (21) dX9_init_95 rfl (nmE rfl) rfl (by decide) rfl uw_X9_init_6 tyX6_ok dfX6 (List.mem_of_getElem? (i := 4) rfl) (List.mem_of_getElem? (i := 29) rfl) (List.mem_of_getElem? (i := 30) rfl) (Nat.le_of_ble_eq_true rfl) (Nat.le_of_ble_eq_true rfl) (fun a19 => ?_)
  refine r_dup hC dX9_init_98 rfl rfl ?_
  refine r_endV hC (rmc := rm_X6_init) (n_IN hC (host := RX9) (c_X6_init_6 (d := 21) rfl (memE rfl) rfl (nmE rfl)) ci_X6_init gX9_init_X6_init_n61 (by decide) (List.mem_of_getElem? (i := 30) rfl) (List.mem_of_getElem? (i := 55) rfl) rfl ⟨(Nat.le_of_ble_eq_true rfl), (Nat.le_of_ble_eq_true rfl)⟩ ⟨(Nat.le_of_ble_eq_true rfl), (Nat.le_of_ble_eq_true rfl)⟩ rfl rfl (Nat.le_of_ble_eq_true rfl) dX9_init_99) rfl (fun u hu => ?_)
  obtain ⟨a20, rfl⟩ := hu
  dsimp only
  refine n_aastb hC (c := 1) (v := 21) rfl rfl dX9_init_102 rfl (memE rfl) (memE rfl) (Or.inr ⟨rfl, rfl⟩) (vp_in_nI (n := 1) (Nat.le_of_ble_eq_true rfl) (Nat.le_of_ble_eq_true rfl)) ?_
  refine r_iinc hC (k := 1) (lv' := [(1, .int (2 : Int32)), (0, .ref b)]) dX9_init_103 rfl (j := 0) rfl (by decide) (by decide) rfl ?_
  refine r_goto hC (tgt := 85) dX9_init_106 (by decide) ?_
  refine r_iload_n hC dX9_init_85 rfl rfl (j := 0) rfl ?_
  refine r_iconst hC (v := (4 : Int32)) dX9_init_86 rfl (by decide) ?_
  refine r_icmp_ge hC (tgt := 109) (P1 := False) (P2 := True) dX9_init_87 rfl (by decide) (by decide) (fun h => h.elim) (fun _ => ?_)
  refine r_aload_n hC dX9_init_90 rfl rfl (j := 1) rfl ?_
  refine r_getRb hC (c := 0) (ks := [9]) (a := a1) rfl dX9_init_91 rfl (memE rfl) (List.mem_singleton.mpr rfl) ffg_X9_init_13 rfl ?_
  refine r_iload_n hC dX9_init_94 rfl rfl (j := 0) rfl ?_
  refine n_new hC (k := 6) (ty := tyX6) (22) dX9_init_95 rfl (nmE rfl) rfl (by decide) rfl uw_X9_init_6 tyX6_ok dfX6 (List.mem_of_getElem? (i := 4) rfl) (List.mem_of_getElem? (i := 29) rfl) (List.mem_of_getElem? (i := 30) rfl) (Nat.le_of_ble_eq_true rfl) (Nat.le_of_ble_eq_true rfl) (fun a21 => ?_)
  refine r_dup hC dX9_init_98 rfl rfl ?_
  refine r_endV hC (rmc := rm_X6_init) (n_IN hC (host := RX9) (c_X6_init_6 (d := 22) rfl (memE rfl) rfl (nmE rfl)) ci_X6_init gX9_init_X6_init_n61 (by decide) (List.mem_of_getElem? (i := 30) rfl) (List.mem_of_getElem? (i := 55) rfl) rfl ⟨(Nat.le_of_ble_eq_true rfl), (Nat.le_of_ble_eq_true rfl)⟩ ⟨(Nat.le_of_ble_eq_true rfl), (Nat.le_of_ble_eq_true rfl)⟩ rfl rfl (Nat.le_of_ble_eq_true rfl) dX9_init_99) rfl (fun u hu => ?_)
  obtain ⟨a22, rfl⟩ := hu
  dsimp only
  refine n_aastb hC (c := 1) (v := 22) rfl rfl dX9_init_102 rfl (memE rfl) (memE rfl) (Or.inr ⟨rfl, rfl⟩) (vp_in_nI (n := 2) (Nat.le_of_ble_eq_true rfl) (Nat.le_of_ble_eq_true rfl)) ?_
  refine r_iinc hC (k := 1) (lv' := [(1, .int (3 : Int32)), (0, .ref b)]) dX9_init_103 rfl (j := 0) rfl (by decide) (by decide) rfl ?_
  refine r_goto hC (tgt := 85) dX9_init_106 (by decide) ?_
  refine r_iload_n hC dX9_init_85 rfl rfl (j := 0) rfl ?_
  refine r_iconst hC (v := (4 : Int32)) dX9_init_86 rfl (by decide) ?_
  refine r_icmp_ge hC (tgt := 109) (P1 := False) (P2 := True) dX9_init_87 rfl (by decide) (by decide) (fun h => h.elim) (fun _ => ?_)
  refine r_aload_n hC dX9_init_90 rfl rfl (j := 1) rfl ?_
  refine r_getRb hC (c := 0) (ks := [9]) (a := a1) rfl dX9_init_91 rfl (memE rfl) (List.mem_singleton.mpr rfl) ffg_X9_init_13 rfl ?_
  refine r_iload_n hC dX9_init_94 rfl rfl (j := 0) rfl ?_
  refine n_new hC (k := 6) (ty := tyX6) (23) dX9_init_95 rfl (nmE rfl) rfl (by decide) rfl uw_X9_init_6 tyX6_ok dfX6 (List.mem_of_getElem? (i := 4) rfl) (List.mem_of_getElem? (i := 29) rfl) (List.mem_of_getElem? (i := 30) rfl) (Nat.le_of_ble_eq_true rfl) (Nat.le_of_ble_eq_true rfl) (fun a23 => ?_)
  refine r_dup hC dX9_init_98 rfl rfl ?_
  refine r_endV hC (rmc := rm_X6_init) (n_IN hC (host := RX9) (c_X6_init_6 (d := 23) rfl (memE rfl) rfl (nmE rfl)) ci_X6_init gX9_init_X6_init_n61 (by decide) (List.mem_of_getElem? (i := 30) rfl) (List.mem_of_getElem? (i := 55) rfl) rfl ⟨(Nat.le_of_ble_eq_true rfl), (Nat.le_of_ble_eq_true rfl)⟩ ⟨(Nat.le_of_ble_eq_true rfl), (Nat.le_of_ble_eq_true rfl)⟩ rfl rfl (Nat.le_of_ble_eq_true rfl) dX9_init_99) rfl (fun u hu => ?_)
  obtain ⟨a24, rfl⟩ := hu
  dsimp only
  refine n_aastb hC (c := 1) (v := 23) rfl rfl dX9_init_102 rfl (memE rfl) (memE rfl) (Or.inr ⟨rfl, rfl⟩) (vp_in_nI (n := 3) (Nat.le_of_ble_eq_true rfl) (Nat.le_of_ble_eq_true rfl)) ?_
  refine r_iinc hC (k := 1) (lv' := [(1, .int (4 : Int32)), (0, .ref b)]) dX9_init_103 rfl (j := 0) rfl (by decide) (by decide) rfl ?_
  refine r_goto hC (tgt := 85) dX9_init_106 (by decide) ?_
  refine r_iload_n hC dX9_init_85 rfl rfl (j := 0) rfl ?_
  refine r_iconst hC (v := (4 : Int32)) dX9_init_86 rfl (by decide) ?_
  refine r_icmp_ge hC (tgt := 109) (P1 := True) (P2 := False) dX9_init_87 rfl (by decide) (by decide) (fun _ => ?_) (fun h => h.elim)
  refine r_iconst hC (v := (0 : Int32)) dX9_init_109 rfl (by decide) ?_
  refine r_istore_n hC (lv' := [(1, .int (0 : Int32)), (0, .ref b)]) dX9_init_110 rfl rfl (by decide) rfl ?_
  refine r_iload_n hC dX9_init_111 rfl rfl (j := 0) rfl ?_
  refine r_iconst hC (v := (3 : Int32)) dX9_init_112 rfl (by decide) ?_
  refine r_icmp_ge hC (tgt := 132) (P1 := False) (P2 := True) dX9_init_113 rfl (by decide) (by decide) (fun h => h.elim) (fun _ => ?_)
  refine r_aload_n hC dX9_init_116 rfl rfl (j := 1) rfl ?_
  refine r_getRb hC (c := 0) (ks := [9]) (a := a7) rfl dX9_init_117 rfl (memE rfl) (List.mem_singleton.mpr rfl) ffg_X9_init_30 rfl ?_
  refine r_iload_n hC dX9_init_120 rfl rfl (j := 0) rfl ?_
  refine r_iload_n hC dX9_init_121 rfl rfl (j := 0) rfl ?_
  refine r_endR hC (rmc := rm_X9_newDesk) (a_S hC (c_newDesk (d := 30) (k := 0) (by decide) (nmE rfl) (nmE rfl)) ci_X9_newDesk gX9_init_X9_newDesk ⟨(Nat.le_of_ble_eq_true rfl), (Nat.le_of_ble_eq_true rfl)⟩ ⟨(Nat.le_of_ble_eq_true rfl), (Nat.le_of_ble_eq_true rfl)⟩ rfl rfl (Nat.le_of_ble_eq_true rfl) dX9_init_122) rfl (fun a25 u hu => ?_)
  obtain ⟨a26, rfl⟩ := hu
  dsimp only
  refine n_aastb hC (c := 7) (v := 30) rfl rfl dX9_init_125 rfl (memE rfl) (memE rfl) (Or.inl ⟨rfl, Or.inr (Or.inl rfl)⟩) (vp_in_nI (n := 0) (Nat.le_of_ble_eq_true rfl) (Nat.le_of_ble_eq_true rfl)) ?_
  refine r_iinc hC (k := 1) (lv' := [(1, .int (1 : Int32)), (0, .ref b)]) dX9_init_126 rfl (j := 0) rfl (by decide) (by decide) rfl ?_
  refine r_goto hC (tgt := 111) dX9_init_129 (by decide) ?_
  refine r_iload_n hC dX9_init_111 rfl rfl (j := 0) rfl ?_
  refine r_iconst hC (v := (3 : Int32)) dX9_init_112 rfl (by decide) ?_
  refine r_icmp_ge hC (tgt := 132) (P1 := False) (P2 := True) dX9_init_113 rfl (by decide) (by decide) (fun h => h.elim) (fun _ => ?_)
  refine r_aload_n hC dX9_init_116 rfl rfl (j := 1) rfl ?_
  refine r_getRb hC (c := 0) (ks := [9]) (a := a7) rfl dX9_init_117 rfl (memE rfl) (List.mem_singleton.mpr rfl) ffg_X9_init_30 rfl ?_
  refine r_iload_n hC dX9_init_120 rfl rfl (j := 0) rfl ?_
  refine r_iload_n hC dX9_init_121 rfl rfl (j := 0) rfl ?_
  refine r_endR hC (rmc := rm_X9_newDesk) (a_S hC (c_newDesk (d := 31) (k := 1) (by decide) (nmE rfl) (nmE rfl)) ci_X9_newDesk gX9_init_X9_newDesk ⟨(Nat.le_of_ble_eq_true rfl), (Nat.le_of_ble_eq_true rfl)⟩ ⟨(Nat.le_of_ble_eq_true rfl), (Nat.le_of_ble_eq_true rfl)⟩ rfl rfl (Nat.le_of_ble_eq_true rfl) dX9_init_122) rfl (fun a27 u hu => ?_)
  obtain ⟨a28, rfl⟩ := hu
  dsimp only
  refine n_aastb hC (c := 7) (v := 31) rfl rfl dX9_init_125 rfl (memE rfl) (memE rfl) (Or.inl ⟨rfl, Or.inl rfl⟩) (vp_in_nI (n := 1) (Nat.le_of_ble_eq_true rfl) (Nat.le_of_ble_eq_true rfl)) ?_
  refine r_iinc hC (k := 1) (lv' := [(1, .int (2 : Int32)), (0, .ref b)]) dX9_init_126 rfl (j := 0) rfl (by decide) (by decide) rfl ?_
  refine r_goto hC (tgt := 111) dX9_init_129 (by decide) ?_
  refine r_iload_n hC dX9_init_111 rfl rfl (j := 0) rfl ?_
  refine r_iconst hC (v := (3 : Int32)) dX9_init_112 rfl (by decide) ?_
  refine r_icmp_ge hC (tgt := 132) (P1 := False) (P2 := True) dX9_init_113 rfl (by decide) (by decide) (fun h => h.elim) (fun _ => ?_)
  refine r_aload_n hC dX9_init_116 rfl rfl (j := 1) rfl ?_
  refine r_getRb hC (c := 0) (ks := [9]) (a := a7) rfl dX9_init_117 rfl (memE rfl) (List.mem_singleton.mpr rfl) ffg_X9_init_30 rfl ?_
  refine r_iload_n hC dX9_init_120 rfl rfl (j := 0) rfl ?_
  refine r_iload_n hC dX9_init_121 rfl rfl (j := 0) rfl ?_
  refine r_endR hC (rmc := rm_X9_newDesk) (a_S hC (c_newDesk (d := 32) (k := 2) (by decide) (nmE rfl) (nmE rfl)) ci_X9_newDesk gX9_init_X9_newDesk ⟨(Nat.le_of_ble_eq_true rfl), (Nat.le_of_ble_eq_true rfl)⟩ ⟨(Nat.le_of_ble_eq_true rfl), (Nat.le_of_ble_eq_true rfl)⟩ rfl rfl (Nat.le_of_ble_eq_true rfl) dX9_init_122) rfl (fun a29 u hu => ?_)
  obtain ⟨a30, rfl⟩ := hu
  dsimp only
  refine n_aastb hC (c := 7) (v := 32) rfl rfl dX9_init_125 rfl (memE rfl) (memE rfl) (Or.inl ⟨rfl, Or.inr (Or.inr rfl)⟩) (vp_in_nI (n := 2) (Nat.le_of_ble_eq_true rfl) (Nat.le_of_ble_eq_true rfl)) ?_
  refine r_iinc hC (k := 1) (lv' := [(1, .int (3 : Int32)), (0, .ref b)]) dX9_init_126 rfl (j := 0) rfl (by decide) (by decide) rfl ?_
  refine r_goto hC (tgt := 111) dX9_init_129 (by decide) ?_
  refine r_iload_n hC dX9_init_111 rfl rfl (j := 0) rfl ?_
  refine r_iconst hC (v := (3 : Int32)) dX9_init_112 rfl (by decide) ?_
  refine r_icmp_ge hC (tgt := 132) (P1 := True) (P2 := False) dX9_init_113 rfl (by decide) (by decide) (fun _ => ?_) (fun h => h.elim)
  refine n_retV hC hR (Nat.le_of_ble_eq_true rfl) (Nat.le_of_ble_eq_true rfl) dX9_init_132 ⟨rfl, ?_, ?_, rfl⟩
  · refine ⟨by decide, ⟨⟨memE rfl, List.mem_singleton.mpr rfl⟩, rfl, rfl, rfl, rfl, rfl, rfl, rfl, rfl⟩, ⟨memE rfl, rfl, rfl⟩, ⟨memE rfl, rfl, rfl⟩, ⟨memE rfl, rfl, rfl⟩, fun k hk => ?_, fun k hk => absurd hk (Nat.not_lt_zero _), fun k hk => ?_, ?_, ?_, ?_, ?_, ?_⟩
    · rcases (show k = 0 ∨ k = 1 ∨ k = 2 ∨ k = 3 by omega) with rfl | rfl | rfl | rfl <;> exact ⟨rfl, ⟨memE rfl, List.mem_singleton.mpr rfl⟩, ⟨memE rfl, rfl, rfl⟩, rfl⟩
    · rcases (show k = 0 ∨ k = 1 ∨ k = 2 by omega) with rfl | rfl | rfl <;> exact ⟨rfl, ⟨⟨memE rfl, memE rfl⟩, ⟨memE rfl, rfl, rfl⟩, rfl⟩, rfl⟩
    · exact ⟨⟨memE rfl, List.mem_singleton.mpr rfl⟩, ⟨memE rfl, rfl, rfl⟩, ⟨memE rfl, rfl, rfl⟩, ⟨memE rfl, rfl, rfl⟩, rfl, rfl, rfl⟩
    · exact ⟨⟨memE rfl, List.mem_singleton.mpr rfl⟩, ⟨memE rfl, rfl, rfl⟩, rfl⟩
    · exact ⟨⟨memE rfl, List.mem_singleton.mpr rfl⟩, ⟨memE rfl, rfl, rfl⟩, rfl⟩
    · exact ⟨⟨memE rfl, List.mem_singleton.mpr rfl⟩, ⟨memE rfl, rfl, rfl⟩, ⟨memE rfl, rfl, rfl⟩, ⟨memE rfl, rfl, rfl⟩, rfl, rfl, rfl⟩
    · exact ⟨memE rfl, List.mem_singleton.mpr rfl⟩
  · refine ⟨rfl, ⟨rfl, fun j hj => absurd hj (Nat.not_lt_zero _)⟩, rfl, fun k hk => absurd hk (Nat.not_lt_zero _), ⟨rfl, fun j hj => absurd hj (Nat.not_lt_zero _)⟩, fun k hk => ?_, rfl, rfl, fun k hk => ?_⟩
    · rcases (show k = 0 ∨ k = 1 ∨ k = 2 ∨ k = 3 by omega) with rfl | rfl | rfl | rfl <;> rfl
    · rcases (show k = 0 ∨ k = 1 ∨ k = 2 by omega) with rfl | rfl | rfl <;> rfl
