/-! X9_refused -/
abbrev rm_X9_refused : Room := { frames := 0, cells := 0, slots := 0, locals := 0 }
theorem ci_X9_refused : CI yX9_refused wsX9_refused cX9_refused 2 (some .int) 1 := ⟨⟨_, rfl⟩, by decide, by decide, by decide +kernel⟩
def wp_X9_refused (ki : Nat → Nat) (nd : Nat) (x1 : Int32) (I : Mm) (Post : Int32 → Mm → Prop) : Prop := Post x1 (up2 I 0 10 (0 : Int32))
set_option maxRecDepth 20000 in
theorem uw_X9_refused_9 : ∀ w ∈ u_ws RX9 TX9 11, w ∈ wsX9_refused := by decide +kernel
set_option maxRecDepth 20000 in
theorem ffp_X9_refused_88 : ∀ k ∈ ([9] : List Nat), FF wsX9_refused RX9 88 k 10 ∧ fR k 10 = false ∧ FP k 10 := List.forall_mem_cons.mpr ⟨⟨⟨RX9, TX9, 11, "PageDesks", rfl, rfl, by decide, by decide, uw_X9_refused_9, (List.mem_of_getElem? (i := 1) rfl), Or.inl rfl⟩, rfl, ⟨RX9, TX9, 11, tyX9, rfl, tyX9_ok, nmX9, rfl, rfl⟩⟩, fun _ h => absurd h List.not_mem_nil⟩
set_option maxRecDepth 100000 in
set_option maxHeartbeats 4000000 in
theorem t_X9_refused_0 {f : Fx} {g : Gm} {nd : Nat} {Post : Int32 → Mm → Prop} {x1 : Int32} {I : Mm} (hC : Cx f cX9_refused 2 RX9 wsX9_refused rm_X9_refused) (hG : shP g nd) (hR : RtI f cX9_refused (fun r u => u.1 = g ∧ Post r u.2)) (hw : wp_X9_refused (gK g) nd x1 I Post) : PW f 0 0 g I 0 [(0, .ref (gA g 0)), (1, .int x1)] [] := by
  unfold wp_X9_refused at hw
  refine r_aload_n hC dX9_refused_0 rfl rfl (j := 0) rfl ?_
  refine r_iconst hC (v := (0 : Int32)) dX9_refused_1 rfl (by decide) ?_
  refine r_putI hC dX9_refused_2 rfl hG.o.1 hG.o.2 ffp_X9_refused_88 ?_
  refine r_iload_n hC dX9_refused_5 rfl rfl (j := 1) rfl ?_
  exact r_retI hC hR ⟨rfl, rfl⟩ dX9_refused_6 hw
set_option maxRecDepth 100000 in
theorem c_X9_refused {l : Launch} {x : Gx} {g : Gm} {nd : Nat} {x1 : Int32} {I : Mm} {Post : Int32 → Mm → Prop} (hG : shP g nd) (hw : wp_X9_refused (gK g) nd x1 I Post) : KI l x yX9_refused wsX9_refused rm_X9_refused g I [.ref (gA g 0), .int x1] (fun r u => u.1 = g ∧ Post r u.2) := KI_of (by decide) rfl rfl (Nat.le_of_ble_eq_true rfl) (fun f hC _ _ hR => t_X9_refused_0 hC hG hR hw)

/-! X9_faulted -/
abbrev rm_X9_faulted : Room := { frames := 0, cells := 0, slots := 0, locals := 0 }
theorem ci_X9_faulted : CI yX9_faulted wsX9_faulted cX9_faulted 2 (some .int) 1 := ⟨⟨_, rfl⟩, by decide, by decide, by decide +kernel⟩
def wp_X9_faulted (ki : Nat → Nat) (nd : Nat) (x1 : Int32) (I : Mm) (Post : Int32 → Mm → Prop) : Prop := Post ((-10 : Int32) - x1) (up2 I 0 10 x1)
set_option maxRecDepth 20000 in
theorem uw_X9_faulted_9 : ∀ w ∈ u_ws RX9 TX9 11, w ∈ wsX9_faulted := by decide +kernel
set_option maxRecDepth 20000 in
theorem ffp_X9_faulted_88 : ∀ k ∈ ([9] : List Nat), FF wsX9_faulted RX9 88 k 10 ∧ fR k 10 = false ∧ FP k 10 := List.forall_mem_cons.mpr ⟨⟨⟨RX9, TX9, 11, "PageDesks", rfl, rfl, by decide, by decide, uw_X9_faulted_9, (List.mem_of_getElem? (i := 1) rfl), Or.inl rfl⟩, rfl, ⟨RX9, TX9, 11, tyX9, rfl, tyX9_ok, nmX9, rfl, rfl⟩⟩, fun _ h => absurd h List.not_mem_nil⟩
set_option maxRecDepth 100000 in
set_option maxHeartbeats 4000000 in
theorem t_X9_faulted_0 {f : Fx} {g : Gm} {nd : Nat} {Post : Int32 → Mm → Prop} {x1 : Int32} {I : Mm} (hC : Cx f cX9_faulted 2 RX9 wsX9_faulted rm_X9_faulted) (hG : shP g nd) (hR : RtI f cX9_faulted (fun r u => u.1 = g ∧ Post r u.2)) (hw : wp_X9_faulted (gK g) nd x1 I Post) : PW f 0 0 g I 0 [(0, .ref (gA g 0)), (1, .int x1)] [] := by
  unfold wp_X9_faulted at hw
  refine r_aload_n hC dX9_faulted_0 rfl rfl (j := 0) rfl ?_
  refine r_iload_n hC dX9_faulted_1 rfl rfl (j := 1) rfl ?_
  refine r_putI hC dX9_faulted_2 rfl hG.o.1 hG.o.2 ffp_X9_faulted_88 ?_
  refine r_bipush hC (v := (-10 : Int32)) dX9_faulted_5 rfl (by decide) ?_
  refine r_iload_n hC dX9_faulted_7 rfl rfl (j := 1) rfl ?_
  refine r_isub hC dX9_faulted_8 rfl ?_
  exact r_retI hC hR ⟨rfl, rfl⟩ dX9_faulted_9 hw
set_option maxRecDepth 100000 in
theorem c_X9_faulted {l : Launch} {x : Gx} {g : Gm} {nd : Nat} {x1 : Int32} {I : Mm} {Post : Int32 → Mm → Prop} (hG : shP g nd) (hw : wp_X9_faulted (gK g) nd x1 I Post) : KI l x yX9_faulted wsX9_faulted rm_X9_faulted g I [.ref (gA g 0), .int x1] (fun r u => u.1 = g ∧ Post r u.2) := KI_of (by decide) rfl rfl (Nat.le_of_ble_eq_true rfl) (fun f hC _ _ hR => t_X9_faulted_0 hC hG hR hw)

/-! X9_toldOn -/
abbrev rm_X9_toldOn : Room := { frames := 3, cells := 0, slots := 0, locals := 69 }
theorem ci_X9_toldOn : CI yX9_toldOn wsX9_toldOn cX9_toldOn 10 (some .int) 5 := ⟨⟨_, rfl⟩, by decide, by decide, by decide +kernel⟩
def wp_X9_toldOn_63 (ki : Nat → Nat) (nd : Nat) (d : Nat) (r : Nat) (Kb : Int32 → Int32 → Int32 → Nat → Int32 → Int32 → Mm → Prop) (K69 : Int32 → Nat → Int32 → Mm → Prop) (Post : Int32 → Mm → Prop) (x3 : Int32) (x4 : Int32) (x5 : Int32) (c6 : Nat) (x7 : Int32) (x8 : Int32) (I : Mm) : Prop := Kb x3 x4 x5 c6 x7 (x8 + 1) I
def wp_X9_toldOn_24 (ki : Nat → Nat) (nd : Nat) (d : Nat) (r : Nat) (K69 : Int32 → Nat → Int32 → Mm → Prop) (Post : Int32 → Mm → Prop) : Nat → Int32 → Int32 → Int32 → Nat → Int32 → Int32 → Mm → Prop
  | 0, _, _, _, _, _, _, _ => False
  | nn24 + 1, x3, x4, x5, c6, x7, x8, I => if x4 ≤ x8 then (K69 x5 c6 x7 I) else (vp_in (x3 + x8) 60 ∧ (wp_X3_serve ki c6 (I (r + 4) (x3 + x8).toNatClampNeg) I (fun r10 J11 => if r10 = 0 then (if x7 = (-9 : Int32) then (wp_X9_toldOn_63 ki nd d r (fun x3 x4 x5 c6 x7 x8 I => wp_X9_toldOn_24 ki nd d r K69 Post nn24 x3 x4 x5 c6 x7 x8 I) K69 Post x3 x4 x5 c6 x8 x8 J11) else (wp_X9_toldOn_63 ki nd d r (fun x3 x4 x5 c6 x7 x8 I => wp_X9_toldOn_24 ki nd d r K69 Post nn24 x3 x4 x5 c6 x7 x8 I) K69 Post x3 x4 x5 c6 x7 x8 J11)) else (wp_X9_toldOn_63 ki nd d r (fun x3 x4 x5 c6 x7 x8 I => wp_X9_toldOn_24 ki nd d r K69 Post nn24 x3 x4 x5 c6 x7 x8 I) K69 Post x3 x4 x5 c6 x7 x8 J11))))
def wp_X9_toldOn_69 (ki : Nat → Nat) (nd : Nat) (d : Nat) (r : Nat)  (Post : Int32 → Mm → Prop) (x5 : Int32) (c6 : Nat) (x7 : Int32) (I : Mm) : Prop := if x5 = 0 then (Post ((I c6 4) - (I d 4)) I) else (if x5 = 1 then (wp_X3_pages ki c6 I (fun r6 J7 => Post r6 J7)) else (if x5 = 2 then (wp_X3_nextToGo ki c6 I (fun r8 J9 => Post r8 J9)) else (if x5 = 3 then (Post (I c6 3) I) else (Post x7 I))))
def wp_X9_toldOn (ki : Nat → Nat) (nd : Nat) (d : Nat) (r : Nat) (x3 : Int32) (x4 : Int32) (x5 : Int32) (I : Mm) (Post : Int32 → Mm → Prop) : Prop := wpv_kind ki d I (fun r1 J2 => vp_in r1 3 ∧ (wp_X3_become ki (30 + r1.toNatClampNeg) d J2 (fun J5 => ∃ nn24, wp_X9_toldOn_24 ki nd d r (fun x5 c6 x7 I => wp_X9_toldOn_69 ki nd d r Post x5 c6 x7 I) Post nn24 x3 x4 x5 (30 + r1.toNatClampNeg) (-9 : Int32) (0 : Int32) J5)))
set_option maxRecDepth 20000 in
theorem uw_X9_toldOn_9 : ∀ w ∈ u_ws RX9 TX9 11, w ∈ wsX9_toldOn := by decide +kernel
set_option maxRecDepth 20000 in
theorem ffg_X9_toldOn_30 : ∀ k ∈ ([9] : List Nat), FF wsX9_toldOn RX9 30 k 3 ∧ fR k 3 = true := List.forall_mem_cons.mpr ⟨⟨⟨RX9, TX9, 11, "PageDesks", rfl, rfl, by decide, by decide, uw_X9_toldOn_9, (List.mem_of_getElem? (i := 1) rfl), Or.inl rfl⟩, rfl⟩, fun _ h => absurd h List.not_mem_nil⟩
set_option maxRecDepth 20000 in
theorem uw_X9_toldOn_0 : ∀ w ∈ u_ws RX0 TX0 5, w ∈ wsX9_toldOn := by decide +kernel
set_option maxRecDepth 20000 in
theorem uw_X9_toldOn_3 : ∀ w ∈ u_ws RX3 TX3 5, w ∈ wsX9_toldOn := by decide +kernel
set_option maxRecDepth 20000 in
theorem uw_X9_toldOn_5 : ∀ w ∈ u_ws RX5 TX5 5, w ∈ wsX9_toldOn := by decide +kernel
set_option maxRecDepth 20000 in
theorem ffg_X9_toldOn_115 : ∀ k ∈ ([0, 3, 5] : List Nat), FF wsX9_toldOn RX9 115 k 4 ∧ fR k 4 = false := List.forall_mem_cons.mpr ⟨⟨⟨RX0, TX0, 5, "PageDesks$Queue", rfl, rfl, by decide, by decide, uw_X9_toldOn_0, (List.mem_of_getElem? (i := 3) rfl), Or.inl rfl⟩, rfl⟩, List.forall_mem_cons.mpr ⟨⟨⟨RX3, TX3, 5, "PageDesks$Queue", rfl, rfl, by decide, by decide, uw_X9_toldOn_3, (List.mem_of_getElem? (i := 3) rfl), Or.inl rfl⟩, rfl⟩, List.forall_mem_cons.mpr ⟨⟨⟨RX5, TX5, 5, "PageDesks$Queue", rfl, rfl, by decide, by decide, uw_X9_toldOn_5, (List.mem_of_getElem? (i := 3) rfl), Or.inl rfl⟩, rfl⟩, fun _ h => absurd h List.not_mem_nil⟩⟩⟩
set_option maxRecDepth 20000 in
theorem ffg_X9_toldOn_121 : ∀ k ∈ ([0, 3, 5] : List Nat), FF wsX9_toldOn RX9 121 k 3 ∧ fR k 3 = false := List.forall_mem_cons.mpr ⟨⟨⟨RX0, TX0, 5, "PageDesks$Queue", rfl, rfl, by decide, by decide, uw_X9_toldOn_0, (List.mem_of_getElem? (i := 4) rfl), Or.inl rfl⟩, rfl⟩, List.forall_mem_cons.mpr ⟨⟨⟨RX3, TX3, 5, "PageDesks$Queue", rfl, rfl, by decide, by decide, uw_X9_toldOn_3, (List.mem_of_getElem? (i := 4) rfl), Or.inl rfl⟩, rfl⟩, List.forall_mem_cons.mpr ⟨⟨⟨RX5, TX5, 5, "PageDesks$Queue", rfl, rfl, by decide, by decide, uw_X9_toldOn_5, (List.mem_of_getElem? (i := 4) rfl), Or.inl rfl⟩, rfl⟩, fun _ h => absurd h List.not_mem_nil⟩⟩⟩
set_option maxRecDepth 20000 in
theorem uw_X9_toldOn_6 : ∀ w ∈ u_ws RX6 TX6 3, w ∈ wsX9_toldOn := by decide +kernel
set_option maxRecDepth 20000 in
theorem ffg_X9_toldOn_162 : ∀ k ∈ ([6] : List Nat), FF wsX9_toldOn RX9 162 k 0 ∧ fR k 0 = true := List.forall_mem_cons.mpr ⟨⟨⟨RX6, TX6, 3, "PageDesks$Sheet", rfl, rfl, by decide, by decide, uw_X9_toldOn_6, (List.mem_of_getElem? (i := 2) rfl), Or.inl rfl⟩, rfl⟩, fun _ h => absurd h List.not_mem_nil⟩
set_option maxRecDepth 100000 in
set_option maxHeartbeats 4000000 in
theorem t_X9_toldOn_63 {f : Fx} {g : Gm} {nd : Nat} {d : Nat} {r : Nat} {Post : Int32 → Mm → Prop} {Kb : Int32 → Int32 → Int32 → Nat → Int32 → Int32 → Mm → Prop} {K69 : Int32 → Nat → Int32 → Mm → Prop} (hC : Cx f cX9_toldOn 10 RX9 wsX9_toldOn rm_X9_toldOn) (hG : shP g nd) (hd : shD g [0, 3, 5] d) (hr : shS g r) (hR : RtI f cX9_toldOn (fun r u => u.1 = g ∧ Post r u.2)) (hKb : ∀ (x3 : Int32) (x4 : Int32) (x5 : Int32) (c6 : Nat) (x7 : Int32) (x8 : Int32) (I : Mm) (hc6 : shD g [0, 3, 5] c6), Kb x3 x4 x5 c6 x7 x8 I → PW f 0 0 g I 24 [(1, .ref (gA g d)), (2, .ref (gA g r)), (3, .int x3), (4, .int x4), (5, .int x5), (6, .ref (gA g c6)), (7, .int x7), (8, .int x8)] []) (hK69 : ∀ (x5 : Int32) (c6 : Nat) (x7 : Int32) (I : Mm) (hc6 : shD g [0, 3, 5] c6), K69 x5 c6 x7 I → PW f 0 0 g I 69 [(1, .ref (gA g d)), (5, .int x5), (6, .ref (gA g c6)), (7, .int x7)] []) : ∀ (x3 : Int32) (x4 : Int32) (x5 : Int32) (c6 : Nat) (x7 : Int32) (x8 : Int32) (I : Mm) (hc6 : shD g [0, 3, 5] c6), wp_X9_toldOn_63 (gK g) nd d r Kb K69 Post x3 x4 x5 c6 x7 x8 I → PW f 0 0 g I 63 [(1, .ref (gA g d)), (2, .ref (gA g r)), (3, .int x3), (4, .int x4), (5, .int x5), (6, .ref (gA g c6)), (7, .int x7), (8, .int x8)] [] := by
  intro x3 x4 x5 c6 x7 x8 I hc6 hw
  unfold wp_X9_toldOn_63 at hw
  refine r_iinc hC (k := 1) (lv' := [(8, .int (x8 + 1)), (1, .ref (gA g d)), (2, .ref (gA g r)), (3, .int x3), (4, .int x4), (5, .int x5), (6, .ref (gA g c6)), (7, .int x7)]) dX9_toldOn_63 rfl (j := 7) rfl (by decide) (by decide) rfl ?_
  refine r_goto hC (tgt := 24) dX9_toldOn_66 (by decide) ?_
  exact r_sub (lv' := [(1, .ref (gA g d)), (2, .ref (gA g r)), (3, .int x3), (4, .int x4), (5, .int x5), (6, .ref (gA g c6)), (7, .int x7), (8, .int (x8 + 1))]) [1, 2, 3, 4, 5, 6, 7, 0] rfl (hKb _ _ _ _ _ _ _ hc6 hw)
set_option maxRecDepth 100000 in
set_option maxHeartbeats 4000000 in
theorem t_X9_toldOn_24 {f : Fx} {g : Gm} {nd : Nat} {d : Nat} {r : Nat} {Post : Int32 → Mm → Prop} {K69 : Int32 → Nat → Int32 → Mm → Prop} (hC : Cx f cX9_toldOn 10 RX9 wsX9_toldOn rm_X9_toldOn) (hG : shP g nd) (hd : shD g [0, 3, 5] d) (hr : shS g r) (hR : RtI f cX9_toldOn (fun r u => u.1 = g ∧ Post r u.2)) (hK69 : ∀ (x5 : Int32) (c6 : Nat) (x7 : Int32) (I : Mm) (hc6 : shD g [0, 3, 5] c6), K69 x5 c6 x7 I → PW f 0 0 g I 69 [(1, .ref (gA g d)), (5, .int x5), (6, .ref (gA g c6)), (7, .int x7)] []) : ∀ (nn24 : Nat) (x3 : Int32) (x4 : Int32) (x5 : Int32) (c6 : Nat) (x7 : Int32) (x8 : Int32) (I : Mm) (hc6 : shD g [0, 3, 5] c6), wp_X9_toldOn_24 (gK g) nd d r K69 Post nn24 x3 x4 x5 c6 x7 x8 I → PW f 0 0 g I 24 [(1, .ref (gA g d)), (2, .ref (gA g r)), (3, .int x3), (4, .int x4), (5, .int x5), (6, .ref (gA g c6)), (7, .int x7), (8, .int x8)] [] := by
  intro nn24
  induction nn24 with
  | zero =>
    intro x3 x4 x5 c6 x7 x8 I hc6 hw
    exact absurd hw id
  | succ nn24 ih =>
    intro x3 x4 x5 c6 x7 x8 I hc6 hw
    unfold wp_X9_toldOn_24 at hw
    refine r_iload hC dX9_toldOn_24 rfl (j := 7) rfl ?_
    refine r_iload hC dX9_toldOn_26 rfl (j := 3) rfl ?_
    refine r_icmp_ge hC (tgt := 69) dX9_toldOn_28 rfl (by decide) hw (fun hw => ?_) (fun hw => ?_)
    · exact r_sub (lv' := [(1, .ref (gA g d)), (5, .int x5), (6, .ref (gA g c6)), (7, .int x7)]) [0, 4, 5, 6] rfl (hK69 _ _ _ _ hc6 hw)
    · refine r_aload hC dX9_toldOn_31 rfl (j := 5) rfl ?_
      refine r_aload_n hC dX9_toldOn_33 rfl rfl (j := 1) rfl ?_
      refine r_getR hC dX9_toldOn_34 rfl (hr).1.1 (hr).1.2 ffg_X9_toldOn_162 (hr).2.2 ?_
      refine r_iload_n hC dX9_toldOn_37 rfl rfl (j := 2) rfl ?_
      refine r_iload hC dX9_toldOn_38 rfl (j := 7) rfl ?_
      refine r_iadd hC dX9_toldOn_40 rfl ?_
      obtain ⟨hi, hw⟩ := hw
      refine r_iald hC dX9_toldOn_41 rfl ((hr).2.1).1 ((hr).2.1).2.1 (by rw [((hr).2.1).2.2]; exact hi) ?_
      refine r_callI hC (rmc := rm_X3_serve) (a_K hc6 (fun h => a_U hC (k := 0) (rmc := rm_X3_serve) (c_X3_serve hc6 hw) ci_X3_serve gX9_toldOn_X3_serve_u142X0 rfl ⟨Nat.le_of_ble_eq_true rfl, Nat.le_of_ble_eq_true rfl⟩ ⟨Nat.le_of_ble_eq_true rfl, Nat.le_of_ble_eq_true rfl⟩ rfl (by decide) (hc6).1.1 h rfl rfl (Nat.le_of_ble_eq_true rfl) dX9_toldOn_42) (fun h => a_V hC (k := 3) (c_X3_serve hc6 hw) ci_X3_serve gX9_toldOn_X3_serve rfl ⟨Nat.le_of_ble_eq_true rfl, Nat.le_of_ble_eq_true rfl⟩ ⟨Nat.le_of_ble_eq_true rfl, Nat.le_of_ble_eq_true rfl⟩ rfl (by decide) (hc6).1.1 h rfl rfl (Nat.le_of_ble_eq_true rfl) dX9_toldOn_42) (fun h => a_U hC (k := 5) (rmc := rm_X3_serve) (c_X3_serve hc6 hw) ci_X3_serve gX9_toldOn_X3_serve_u142X5 rfl ⟨Nat.le_of_ble_eq_true rfl, Nat.le_of_ble_eq_true rfl⟩ ⟨Nat.le_of_ble_eq_true rfl, Nat.le_of_ble_eq_true rfl⟩ rfl (by decide) (hc6).1.1 h rfl rfl (Nat.le_of_ble_eq_true rfl) dX9_toldOn_42)) ⟨rfl, rfl⟩ rfl (fun r10 J11 hw => ?_)
      refine r_istore hC (lv' := [(9, .int r10), (1, .ref (gA g d)), (2, .ref (gA g r)), (3, .int x3), (4, .int x4), (5, .int x5), (6, .ref (gA g c6)), (7, .int x7), (8, .int x8)]) dX9_toldOn_45 rfl (by decide) rfl ?_
      refine r_iload hC dX9_toldOn_47 rfl (j := 0) rfl ?_
      refine r_if_ne hC (tgt := 63) dX9_toldOn_49 rfl (by decide) hw (fun hw => ?_) (fun hw => ?_)
      · exact r_sub (lv' := [(1, .ref (gA g d)), (2, .ref (gA g r)), (3, .int x3), (4, .int x4), (5, .int x5), (6, .ref (gA g c6)), (7, .int x7), (8, .int x8)]) [1, 2, 3, 4, 5, 6, 7, 8] rfl (t_X9_toldOn_63 hC hG hd hr hR (fun x3 x4 x5 c6 x7 x8 I hc6 hw => ih x3 x4 x5 c6 x7 x8 I hc6 hw) hK69 _ _ _ _ _ _ _ hc6 hw)
      · refine r_iload hC dX9_toldOn_52 rfl (j := 7) rfl ?_
        refine r_bipush hC (v := (-9 : Int32)) dX9_toldOn_54 rfl (by decide) ?_
        refine r_icmp_ne hC (tgt := 63) dX9_toldOn_56 rfl (by decide) hw (fun hw => ?_) (fun hw => ?_)
        · exact r_sub (lv' := [(1, .ref (gA g d)), (2, .ref (gA g r)), (3, .int x3), (4, .int x4), (5, .int x5), (6, .ref (gA g c6)), (7, .int x7), (8, .int x8)]) [1, 2, 3, 4, 5, 6, 7, 8] rfl (t_X9_toldOn_63 hC hG hd hr hR (fun x3 x4 x5 c6 x7 x8 I hc6 hw => ih x3 x4 x5 c6 x7 x8 I hc6 hw) hK69 _ _ _ _ _ _ _ hc6 hw)
        · refine r_iload hC dX9_toldOn_59 rfl (j := 8) rfl ?_
          refine r_istore hC (lv' := [(7, .int x8), (9, .int r10), (1, .ref (gA g d)), (2, .ref (gA g r)), (3, .int x3), (4, .int x4), (5, .int x5), (6, .ref (gA g c6)), (8, .int x8)]) dX9_toldOn_61 rfl (by decide) rfl ?_
          exact r_sub (lv' := [(1, .ref (gA g d)), (2, .ref (gA g r)), (3, .int x3), (4, .int x4), (5, .int x5), (6, .ref (gA g c6)), (7, .int x8), (8, .int x8)]) [2, 3, 4, 5, 6, 7, 0, 8] rfl (t_X9_toldOn_63 hC hG hd hr hR (fun x3 x4 x5 c6 x7 x8 I hc6 hw => ih x3 x4 x5 c6 x7 x8 I hc6 hw) hK69 _ _ _ _ _ _ _ hc6 hw)
set_option maxRecDepth 100000 in
set_option maxHeartbeats 4000000 in
theorem t_X9_toldOn_69 {f : Fx} {g : Gm} {nd : Nat} {d : Nat} {r : Nat} {Post : Int32 → Mm → Prop}  (hC : Cx f cX9_toldOn 10 RX9 wsX9_toldOn rm_X9_toldOn) (hG : shP g nd) (hd : shD g [0, 3, 5] d) (hr : shS g r) (hR : RtI f cX9_toldOn (fun r u => u.1 = g ∧ Post r u.2))  : ∀ (x5 : Int32) (c6 : Nat) (x7 : Int32) (I : Mm) (hc6 : shD g [0, 3, 5] c6), wp_X9_toldOn_69 (gK g) nd d r  Post x5 c6 x7 I → PW f 0 0 g I 69 [(1, .ref (gA g d)), (5, .int x5), (6, .ref (gA g c6)), (7, .int x7)] [] := by
  intro x5 c6 x7 I hc6 hw
  unfold wp_X9_toldOn_69 at hw
  refine r_iload hC dX9_toldOn_69 rfl (j := 1) rfl ?_
  by_cases h0 : x5 = 0
  · rw [if_pos h0] at hw
    refine r_tabIn hC (tgt := 100) dX9_toldOn_71 h0 0 (by decide) (by decide) (by decide) rfl (by decide) ?_
    refine r_aload hC dX9_toldOn_100 rfl (j := 2) rfl ?_
    refine r_getI hC dX9_toldOn_102 rfl (hc6).1.1 (hc6).1.2 ffg_X9_toldOn_115 ?_
    refine r_aload_n hC dX9_toldOn_105 rfl rfl (j := 0) rfl ?_
    refine r_getI hC dX9_toldOn_106 rfl (hd).1.1 (hd).1.2 ffg_X9_toldOn_115 ?_
    refine r_isub hC dX9_toldOn_109 rfl ?_
    exact r_retI hC hR ⟨rfl, rfl⟩ dX9_toldOn_110 hw
  · rw [if_neg h0] at hw
    by_cases h1 : x5 = 1
    · rw [if_pos h1] at hw
      refine r_tabIn hC (tgt := 111) dX9_toldOn_71 h1 1 (by decide) (by decide) (by decide) rfl (by decide) ?_
      refine r_aload hC dX9_toldOn_111 rfl (j := 2) rfl ?_
      refine r_callI hC (rmc := rm_X3_pages) (a_K hc6 (fun h => a_U hC (k := 0) (rmc := rm_X3_pages) (c_X3_pages hc6 hw) ci_X3_pages gX9_toldOn_X3_pages_u112X0 rfl ⟨Nat.le_of_ble_eq_true rfl, Nat.le_of_ble_eq_true rfl⟩ ⟨Nat.le_of_ble_eq_true rfl, Nat.le_of_ble_eq_true rfl⟩ rfl (by decide) (hc6).1.1 h rfl rfl (Nat.le_of_ble_eq_true rfl) dX9_toldOn_113) (fun h => a_V hC (k := 3) (c_X3_pages hc6 hw) ci_X3_pages gX9_toldOn_X3_pages rfl ⟨Nat.le_of_ble_eq_true rfl, Nat.le_of_ble_eq_true rfl⟩ ⟨Nat.le_of_ble_eq_true rfl, Nat.le_of_ble_eq_true rfl⟩ rfl (by decide) (hc6).1.1 h rfl rfl (Nat.le_of_ble_eq_true rfl) dX9_toldOn_113) (fun h => a_U hC (k := 5) (rmc := rm_X3_pages) (c_X3_pages hc6 hw) ci_X3_pages gX9_toldOn_X3_pages_u112X5 rfl ⟨Nat.le_of_ble_eq_true rfl, Nat.le_of_ble_eq_true rfl⟩ ⟨Nat.le_of_ble_eq_true rfl, Nat.le_of_ble_eq_true rfl⟩ rfl (by decide) (hc6).1.1 h rfl rfl (Nat.le_of_ble_eq_true rfl) dX9_toldOn_113)) ⟨rfl, rfl⟩ rfl (fun r6 J7 hw => ?_)
      exact r_retI hC hR ⟨rfl, rfl⟩ dX9_toldOn_116 hw
    · rw [if_neg h1] at hw
      by_cases h2 : x5 = 2
      · rw [if_pos h2] at hw
        refine r_tabIn hC (tgt := 117) dX9_toldOn_71 h2 2 (by decide) (by decide) (by decide) rfl (by decide) ?_
        refine r_aload hC dX9_toldOn_117 rfl (j := 2) rfl ?_
        refine r_callI hC (rmc := rm_X3_nextToGo) (a_K hc6 (fun h => a_U hC (k := 0) (rmc := rm_X3_nextToGo) (c_X3_nextToGo hc6 hw) ci_X3_nextToGo gX9_toldOn_X3_nextToGo_u118X0 rfl ⟨Nat.le_of_ble_eq_true rfl, Nat.le_of_ble_eq_true rfl⟩ ⟨Nat.le_of_ble_eq_true rfl, Nat.le_of_ble_eq_true rfl⟩ rfl (by decide) (hc6).1.1 h rfl rfl (Nat.le_of_ble_eq_true rfl) dX9_toldOn_119) (fun h => a_V hC (k := 3) (c_X3_nextToGo hc6 hw) ci_X3_nextToGo gX9_toldOn_X3_nextToGo rfl ⟨Nat.le_of_ble_eq_true rfl, Nat.le_of_ble_eq_true rfl⟩ ⟨Nat.le_of_ble_eq_true rfl, Nat.le_of_ble_eq_true rfl⟩ rfl (by decide) (hc6).1.1 h rfl rfl (Nat.le_of_ble_eq_true rfl) dX9_toldOn_119) (fun h => a_U hC (k := 5) (rmc := rm_X3_nextToGo) (c_X3_nextToGo hc6 hw) ci_X3_nextToGo gX9_toldOn_X3_nextToGo_u118X5 rfl ⟨Nat.le_of_ble_eq_true rfl, Nat.le_of_ble_eq_true rfl⟩ ⟨Nat.le_of_ble_eq_true rfl, Nat.le_of_ble_eq_true rfl⟩ rfl (by decide) (hc6).1.1 h rfl rfl (Nat.le_of_ble_eq_true rfl) dX9_toldOn_119)) ⟨rfl, rfl⟩ rfl (fun r8 J9 hw => ?_)
        exact r_retI hC hR ⟨rfl, rfl⟩ dX9_toldOn_122 hw
      · rw [if_neg h2] at hw
        by_cases h3 : x5 = 3
        · rw [if_pos h3] at hw
          refine r_tabIn hC (tgt := 123) dX9_toldOn_71 h3 3 (by decide) (by decide) (by decide) rfl (by decide) ?_
          refine r_aload hC dX9_toldOn_123 rfl (j := 2) rfl ?_
          refine r_getI hC dX9_toldOn_125 rfl (hc6).1.1 (hc6).1.2 ffg_X9_toldOn_121 ?_
          exact r_retI hC hR ⟨rfl, rfl⟩ dX9_toldOn_128 hw
        · rw [if_neg h3] at hw
          have e0 := lv_neT h0 (show (0 : Int32).toInt = 0 by decide)
          have e1 := lv_neT h1 (show (1 : Int32).toInt = 1 by decide)
          have e2 := lv_neT h2 (show (2 : Int32).toInt = 2 by decide)
          have e3 := lv_neT h3 (show (3 : Int32).toInt = 3 by decide)
          refine r_tabOut hC (tgt := 129) dX9_toldOn_71 (by omega) (by decide) ?_
          refine r_iload hC dX9_toldOn_129 rfl (j := 3) rfl ?_
          exact r_retI hC hR ⟨rfl, rfl⟩ dX9_toldOn_131 hw
set_option maxRecDepth 100000 in
set_option maxHeartbeats 4000000 in
theorem t_X9_toldOn_0 {f : Fx} {g : Gm} {nd : Nat} {d : Nat} {r : Nat} {Post : Int32 → Mm → Prop} {x3 : Int32} {x4 : Int32} {x5 : Int32} {I : Mm} (hC : Cx f cX9_toldOn 10 RX9 wsX9_toldOn rm_X9_toldOn) (hG : shP g nd) (hd : shD g [0, 3, 5] d) (hr : shS g r) (hR : RtI f cX9_toldOn (fun r u => u.1 = g ∧ Post r u.2)) (hw : wp_X9_toldOn (gK g) nd d r x3 x4 x5 I Post) : PW f 0 0 g I 0 [(0, .ref (gA g 0)), (1, .ref (gA g d)), (2, .ref (gA g r)), (3, .int x3), (4, .int x4), (5, .int x5)] [] := by
  unfold wp_X9_toldOn at hw
  refine r_aload_n hC dX9_toldOn_0 rfl rfl (j := 0) rfl ?_
  refine r_getR hC dX9_toldOn_1 rfl hG.o.1 hG.o.2 ffg_X9_toldOn_30 hG.r3 ?_
  refine r_aload_n hC dX9_toldOn_4 rfl rfl (j := 1) rfl ?_
  refine r_callI hC (rmc := rm_X3_kind) (a_K hd (fun h => a_O hC (k := 0) (rmc := rm_X0_kind) (c_X0_kind (shD.of hd h (by decide)) (wpv_kind_0 h hw)) ci_X0_kind gX9_toldOn_X0_kind_u105X0 (List.mem_of_getElem? (i := 12) rfl) ⟨by decide, by decide⟩ rfl ⟨Nat.le_of_ble_eq_true rfl, Nat.le_of_ble_eq_true rfl⟩ ⟨Nat.le_of_ble_eq_true rfl, Nat.le_of_ble_eq_true rfl⟩ rfl (by decide) (hd).1.1 h rfl rfl (Nat.le_of_ble_eq_true rfl) dX9_toldOn_5) (fun h => a_V hC (k := 3) (c_X3_kind hd (wpv_kind_3 h hw)) ci_X3_kind gX9_toldOn_X3_kind rfl ⟨Nat.le_of_ble_eq_true rfl, Nat.le_of_ble_eq_true rfl⟩ ⟨Nat.le_of_ble_eq_true rfl, Nat.le_of_ble_eq_true rfl⟩ rfl (by decide) (hd).1.1 h rfl rfl (Nat.le_of_ble_eq_true rfl) dX9_toldOn_5) (fun h => a_O hC (k := 5) (rmc := rm_X5_kind) (c_X5_kind (shD.of hd h (by decide)) (wpv_kind_5 h hw)) ci_X5_kind gX9_toldOn_X5_kind_u105X5 (List.mem_of_getElem? (i := 12) rfl) ⟨by decide, by decide⟩ rfl ⟨Nat.le_of_ble_eq_true rfl, Nat.le_of_ble_eq_true rfl⟩ ⟨Nat.le_of_ble_eq_true rfl, Nat.le_of_ble_eq_true rfl⟩ rfl (by decide) (hd).1.1 h rfl rfl (Nat.le_of_ble_eq_true rfl) dX9_toldOn_5)) ⟨rfl, rfl⟩ rfl (fun r1 J2 hw => ?_)
  obtain ⟨hi, hw⟩ := hw
  have hq3 := hG.trial hi
  refine r_aald hC dX9_toldOn_8 rfl hq3.1.1 hq3.1.2.1 hq3.1.2.2 hq3.2.1 ?_
  refine r_astore hC (lv' := [(6, .ref (gA g (30 + r1.toNatClampNeg))), (0, .ref (gA g 0)), (1, .ref (gA g d)), (2, .ref (gA g r)), (3, .int x3), (4, .int x4), (5, .int x5)]) dX9_toldOn_9 rfl (by decide) rfl ?_
  refine r_aload hC dX9_toldOn_11 rfl (j := 0) rfl ?_
  refine r_aload_n hC dX9_toldOn_13 rfl rfl (j := 2) rfl ?_
  refine r_callV hC (rmc := rm_X3_become) (a_K hq3.2.2 (fun h => a_U hC (k := 0) (rmc := rm_X3_become) (c_X3_become hq3.2.2 hd hw) ci_X3_become gX9_toldOn_X3_become_u271X0 rfl ⟨Nat.le_of_ble_eq_true rfl, Nat.le_of_ble_eq_true rfl⟩ ⟨Nat.le_of_ble_eq_true rfl, Nat.le_of_ble_eq_true rfl⟩ rfl (by decide) (hq3.2.2).1.1 h rfl rfl (Nat.le_of_ble_eq_true rfl) dX9_toldOn_14) (fun h => a_V hC (k := 3) (c_X3_become hq3.2.2 hd hw) ci_X3_become gX9_toldOn_X3_become rfl ⟨Nat.le_of_ble_eq_true rfl, Nat.le_of_ble_eq_true rfl⟩ ⟨Nat.le_of_ble_eq_true rfl, Nat.le_of_ble_eq_true rfl⟩ rfl (by decide) (hq3.2.2).1.1 h rfl rfl (Nat.le_of_ble_eq_true rfl) dX9_toldOn_14) (fun h => a_U hC (k := 5) (rmc := rm_X3_become) (c_X3_become hq3.2.2 hd hw) ci_X3_become gX9_toldOn_X3_become_u271X5 rfl ⟨Nat.le_of_ble_eq_true rfl, Nat.le_of_ble_eq_true rfl⟩ ⟨Nat.le_of_ble_eq_true rfl, Nat.le_of_ble_eq_true rfl⟩ rfl (by decide) (hq3.2.2).1.1 h rfl rfl (Nat.le_of_ble_eq_true rfl) dX9_toldOn_14)) ⟨rfl, rfl⟩ rfl (fun J5 hw => ?_)
  refine r_bipush hC (v := (-9 : Int32)) dX9_toldOn_17 rfl (by decide) ?_
  refine r_istore hC (lv' := [(7, .int (-9 : Int32)), (6, .ref (gA g (30 + r1.toNatClampNeg))), (0, .ref (gA g 0)), (1, .ref (gA g d)), (2, .ref (gA g r)), (3, .int x3), (4, .int x4), (5, .int x5)]) dX9_toldOn_19 rfl (by decide) rfl ?_
  refine r_iconst hC (v := (0 : Int32)) dX9_toldOn_21 rfl (by decide) ?_
  refine r_istore hC (lv' := [(8, .int (0 : Int32)), (7, .int (-9 : Int32)), (6, .ref (gA g (30 + r1.toNatClampNeg))), (0, .ref (gA g 0)), (1, .ref (gA g d)), (2, .ref (gA g r)), (3, .int x3), (4, .int x4), (5, .int x5)]) dX9_toldOn_22 rfl (by decide) rfl ?_
  obtain ⟨nn24, hw⟩ := hw
  exact r_sub (lv' := [(1, .ref (gA g d)), (2, .ref (gA g r)), (3, .int x3), (4, .int x4), (5, .int x5), (6, .ref (gA g (30 + r1.toNatClampNeg))), (7, .int (-9 : Int32)), (8, .int (0 : Int32))]) [4, 5, 6, 7, 8, 2, 1, 0] rfl ((t_X9_toldOn_24 hC hG hd hr hR (fun x5 c6 x7 I hc6 hw => t_X9_toldOn_69 hC hG hd hr hR _ _ _ _ hc6 hw) nn24 _ _ _ _ _ _ _ hq3.2.2 hw))
set_option maxRecDepth 100000 in
theorem c_X9_toldOn {l : Launch} {x : Gx} {g : Gm} {nd : Nat} {d : Nat} {r : Nat} {x3 : Int32} {x4 : Int32} {x5 : Int32} {I : Mm} {Post : Int32 → Mm → Prop} (hG : shP g nd) (hd : shD g [0, 3, 5] d) (hr : shS g r) (hw : wp_X9_toldOn (gK g) nd d r x3 x4 x5 I Post) : KI l x yX9_toldOn wsX9_toldOn rm_X9_toldOn g I [.ref (gA g 0), .ref (gA g d), .ref (gA g r), .int x3, .int x4, .int x5] (fun r u => u.1 = g ∧ Post r u.2) := KI_of (by decide) rfl rfl (Nat.le_of_ble_eq_true rfl) (fun f hC _ _ hR => t_X9_toldOn_0 hC hG hd hr hR hw)

/-! X9_tale -/
abbrev rm_X9_tale : Room := { frames := 4, cells := 0, slots := 0, locals := 98 }
theorem ci_X9_tale : CI yX9_tale wsX9_tale cX9_tale 10 (some .int) 6 := ⟨⟨_, rfl⟩, by decide, by decide, by decide +kernel⟩
def wp_X9_tale_16 (ki : Nat → Nat) (nd : Nat)  (Post : Int32 → Mm → Prop)  (I : Mm) : Prop := wp_X9_refused ki nd (-1 : Int32) I (fun r16 J17 => Post r16 J17)
def wp_X9_tale_52 (ki : Nat → Nat) (nd : Nat)  (Post : Int32 → Mm → Prop)  (I : Mm) : Prop := wp_X9_refused ki nd (-2 : Int32) I (fun r18 J19 => Post r18 J19)
def wp_X9_tale_114 (ki : Nat → Nat) (nd : Nat) (K146 : Int32 → Int32 → Int32 → Int32 → Nat → Mm → Prop) (Post : Int32 → Mm → Prop) : Nat → Int32 → Int32 → Int32 → Int32 → Nat → Int32 → Mm → Prop
  | 0, _, _, _, _, _, _, _ => False
  | nn114 + 1, x3, x4, x5, x6, c7, x9, I => if (x3 + x4) ≤ x9 then (K146 x3 x4 x5 x6 c7 I) else (vp_in x9 60 ∧ (wp_X9_isPage (I (c7 + 4) x9.toNatClampNeg) I (fun r25 J26 => if r25 = 0 then (Post (-2 : Int32) J26) else (wp_X9_tale_114 ki nd K146 Post nn114 x3 x4 x5 x6 c7 (x9 + 1) J26))))
def wp_X9_tale_146 (ki : Nat → Nat) (nd : Nat)  (Post : Int32 → Mm → Prop) (x3 : Int32) (x4 : Int32) (x5 : Int32) (x6 : Int32) (c7 : Nat) (I : Mm) : Prop := vp_in x5 nd ∧ (wp_X9_toldOn ki nd (40 + x5.toNatClampNeg) c7 x3 x4 x6 I (fun r23 J24 => Post r23 J24))
def wp_X9_tale_94 (ki : Nat → Nat) (nd : Nat)  (Post : Int32 → Mm → Prop) (x3 : Int32) (x4 : Int32) (x5 : Int32) (x6 : Int32) (c7 : Nat) (x8 : Int32) (I : Mm) : Prop := if x8 = 0 then (∃ nn114, wp_X9_tale_114 ki nd (fun x3 x4 x5 x6 c7 I => wp_X9_tale_146 ki nd Post x3 x4 x5 x6 c7 I) Post nn114 x3 x4 x5 x6 c7 x3 (up2 I 0 10 (0 : Int32))) else (wp_X9_faulted ki nd x8 I (fun r20 J21 => Post r20 J21))
def wp_X9_tale (ki : Nat → Nat) (nd : Nat) (x1 : Int32) (x2 : Int32) (x3 : Int32) (x4 : Int32) (x5 : Int32) (x6 : Int32) (I : Mm) (Post : Int32 → Mm → Prop) : Prop := wp_X9_isSheet x1 I (fun r1 J2 => if r1 = 0 then (wp_X9_tale_16 ki nd Post  J2) else (wp_X9_isDesk ki nd x5 J2 (fun r3 J4 => if r3 = 0 then (wp_X9_tale_16 ki nd Post  J4) else (wp_X9_isWithin x2 (0 : Int32) (2 : Int32) J4 (fun r5 J6 => if r5 = 0 then (wp_X9_tale_52 ki nd Post  J6) else (wp_X9_isWithin x4 (0 : Int32) (20 : Int32) J6 (fun r7 J8 => if r7 = 0 then (wp_X9_tale_52 ki nd Post  J8) else (wp_X9_isWithin x6 (0 : Int32) (4 : Int32) J8 (fun r9 J10 => if r9 = 0 then (wp_X9_tale_52 ki nd Post  J10) else (vp_in x1 4 ∧ (wp_X6_faultAs (20 + x1.toNatClampNeg) x2 J10 (fun r12 J13 => if r12 = 0 then (wp_X6_has (20 + x1.toNatClampNeg) x3 x4 J13 (fun r14 J15 => if r14 = 0 then (wp_X9_tale_94 ki nd Post x3 x4 x5 x6 (20 + x1.toNatClampNeg) (3 : Int32) J15) else (wp_X9_tale_94 ki nd Post x3 x4 x5 x6 (20 + x1.toNatClampNeg) r12 J15))) else (wp_X9_tale_94 ki nd Post x3 x4 x5 x6 (20 + x1.toNatClampNeg) r12 J13)))))))))))))
set_option maxRecDepth 20000 in
theorem uw_X9_tale_9 : ∀ w ∈ u_ws RX9 TX9 11, w ∈ wsX9_tale := by decide +kernel
set_option maxRecDepth 20000 in
theorem ffg_X9_tale_13 : ∀ k ∈ ([9] : List Nat), FF wsX9_tale RX9 13 k 0 ∧ fR k 0 = true := List.forall_mem_cons.mpr ⟨⟨⟨RX9, TX9, 11, "PageDesks", rfl, rfl, by decide, by decide, uw_X9_tale_9, (List.mem_of_getElem? (i := 1) rfl), Or.inl rfl⟩, rfl⟩, fun _ h => absurd h List.not_mem_nil⟩
set_option maxRecDepth 20000 in
theorem ffp_X9_tale_88 : ∀ k ∈ ([9] : List Nat), FF wsX9_tale RX9 88 k 10 ∧ fR k 10 = false ∧ FP k 10 := List.forall_mem_cons.mpr ⟨⟨⟨RX9, TX9, 11, "PageDesks", rfl, rfl, by decide, by decide, uw_X9_tale_9, (List.mem_of_getElem? (i := 2) rfl), Or.inl rfl⟩, rfl, ⟨RX9, TX9, 11, tyX9, rfl, tyX9_ok, nmX9, rfl, rfl⟩⟩, fun _ h => absurd h List.not_mem_nil⟩
set_option maxRecDepth 20000 in
theorem ffg_X9_tale_26 : ∀ k ∈ ([9] : List Nat), FF wsX9_tale RX9 26 k 2 ∧ fR k 2 = true := List.forall_mem_cons.mpr ⟨⟨⟨RX9, TX9, 11, "PageDesks", rfl, rfl, by decide, by decide, uw_X9_tale_9, (List.mem_of_getElem? (i := 4) rfl), Or.inl rfl⟩, rfl⟩, fun _ h => absurd h List.not_mem_nil⟩
set_option maxRecDepth 20000 in
theorem uw_X9_tale_6 : ∀ w ∈ u_ws RX6 TX6 3, w ∈ wsX9_tale := by decide +kernel
set_option maxRecDepth 20000 in
theorem ffg_X9_tale_162 : ∀ k ∈ ([6] : List Nat), FF wsX9_tale RX9 162 k 0 ∧ fR k 0 = true := List.forall_mem_cons.mpr ⟨⟨⟨RX6, TX6, 3, "PageDesks$Sheet", rfl, rfl, by decide, by decide, uw_X9_tale_6, (List.mem_of_getElem? (i := 3) rfl), Or.inl rfl⟩, rfl⟩, fun _ h => absurd h List.not_mem_nil⟩
set_option maxRecDepth 100000 in
set_option maxHeartbeats 4000000 in
theorem t_X9_tale_16 {f : Fx} {g : Gm} {nd : Nat} {Post : Int32 → Mm → Prop}  (hC : Cx f cX9_tale 10 RX9 wsX9_tale rm_X9_tale) (hG : shP g nd) (hR : RtI f cX9_tale (fun r u => u.1 = g ∧ Post r u.2))  : ∀  (I : Mm) , wp_X9_tale_16 (gK g) nd  Post  I → PW f 0 0 g I 16 [(0, .ref (gA g 0))] [] := by
  intro  I  hw
  unfold wp_X9_tale_16 at hw
  refine r_aload_n hC dX9_tale_16 rfl rfl (j := 0) rfl ?_
  refine r_iconst hC (v := (-1 : Int32)) dX9_tale_17 rfl (by decide) ?_
  refine r_callI hC (a_V hC (k := 9) (c_X9_refused hG hw) ci_X9_refused gX9_tale_X9_refused rfl ⟨Nat.le_of_ble_eq_true rfl, Nat.le_of_ble_eq_true rfl⟩ ⟨Nat.le_of_ble_eq_true rfl, Nat.le_of_ble_eq_true rfl⟩ rfl (by decide) hG.o.1 (List.mem_singleton.mp hG.o.2) rfl rfl (Nat.le_of_ble_eq_true rfl) dX9_tale_18) ⟨rfl, rfl⟩ rfl (fun r16 J17 hw => ?_)
  exact r_retI hC hR ⟨rfl, rfl⟩ dX9_tale_21 hw
set_option maxRecDepth 100000 in
set_option maxHeartbeats 4000000 in
theorem t_X9_tale_52 {f : Fx} {g : Gm} {nd : Nat} {Post : Int32 → Mm → Prop}  (hC : Cx f cX9_tale 10 RX9 wsX9_tale rm_X9_tale) (hG : shP g nd) (hR : RtI f cX9_tale (fun r u => u.1 = g ∧ Post r u.2))  : ∀  (I : Mm) , wp_X9_tale_52 (gK g) nd  Post  I → PW f 0 0 g I 52 [(0, .ref (gA g 0))] [] := by
  intro  I  hw
  unfold wp_X9_tale_52 at hw
  refine r_aload_n hC dX9_tale_52 rfl rfl (j := 0) rfl ?_
  refine r_bipush hC (v := (-2 : Int32)) dX9_tale_53 rfl (by decide) ?_
  refine r_callI hC (a_V hC (k := 9) (c_X9_refused hG hw) ci_X9_refused gX9_tale_X9_refused rfl ⟨Nat.le_of_ble_eq_true rfl, Nat.le_of_ble_eq_true rfl⟩ ⟨Nat.le_of_ble_eq_true rfl, Nat.le_of_ble_eq_true rfl⟩ rfl (by decide) hG.o.1 (List.mem_singleton.mp hG.o.2) rfl rfl (Nat.le_of_ble_eq_true rfl) dX9_tale_55) ⟨rfl, rfl⟩ rfl (fun r18 J19 hw => ?_)
  exact r_retI hC hR ⟨rfl, rfl⟩ dX9_tale_58 hw
set_option maxRecDepth 100000 in
set_option maxHeartbeats 4000000 in
theorem t_X9_tale_114 {f : Fx} {g : Gm} {nd : Nat} {Post : Int32 → Mm → Prop} {K146 : Int32 → Int32 → Int32 → Int32 → Nat → Mm → Prop} (hC : Cx f cX9_tale 10 RX9 wsX9_tale rm_X9_tale) (hG : shP g nd) (hR : RtI f cX9_tale (fun r u => u.1 = g ∧ Post r u.2)) (hK146 : ∀ (x3 : Int32) (x4 : Int32) (x5 : Int32) (x6 : Int32) (c7 : Nat) (I : Mm) (hc7 : shS g c7), K146 x3 x4 x5 x6 c7 I → PW f 0 0 g I 146 [(0, .ref (gA g 0)), (3, .int x3), (4, .int x4), (5, .int x5), (6, .int x6), (7, .ref (gA g c7))] []) : ∀ (nn114 : Nat) (x3 : Int32) (x4 : Int32) (x5 : Int32) (x6 : Int32) (c7 : Nat) (x9 : Int32) (I : Mm) (hc7 : shS g c7), wp_X9_tale_114 (gK g) nd K146 Post nn114 x3 x4 x5 x6 c7 x9 I → PW f 0 0 g I 114 [(0, .ref (gA g 0)), (3, .int x3), (4, .int x4), (5, .int x5), (6, .int x6), (7, .ref (gA g c7)), (9, .int x9)] [] := by
  intro nn114
  induction nn114 with
  | zero =>
    intro x3 x4 x5 x6 c7 x9 I hc7 hw
    exact absurd hw id
  | succ nn114 ih =>
    intro x3 x4 x5 x6 c7 x9 I hc7 hw
    unfold wp_X9_tale_114 at hw
    refine r_iload hC dX9_tale_114 rfl (j := 6) rfl ?_
    refine r_iload_n hC dX9_tale_116 rfl rfl (j := 1) rfl ?_
    refine r_iload hC dX9_tale_117 rfl (j := 2) rfl ?_
    refine r_iadd hC dX9_tale_119 rfl ?_
    refine r_icmp_ge hC (tgt := 146) dX9_tale_120 rfl (by decide) hw (fun hw => ?_) (fun hw => ?_)
    · exact r_sub (lv' := [(0, .ref (gA g 0)), (3, .int x3), (4, .int x4), (5, .int x5), (6, .int x6), (7, .ref (gA g c7))]) [0, 1, 2, 3, 4, 5] rfl (hK146 _ _ _ _ _ _ hc7 hw)
    · refine r_aload hC dX9_tale_123 rfl (j := 5) rfl ?_
      refine r_getR hC dX9_tale_125 rfl (hc7).1.1 (hc7).1.2 ffg_X9_tale_162 (hc7).2.2 ?_
      refine r_iload hC dX9_tale_128 rfl (j := 6) rfl ?_
      obtain ⟨hi, hw⟩ := hw
      refine r_iald hC dX9_tale_130 rfl ((hc7).2.1).1 ((hc7).2.1).2.1 (by rw [((hc7).2.1).2.2]; exact hi) ?_
      refine r_callI hC (a_S hC (c_X9_isPage  hw) ci_X9_isPage gX9_tale_X9_isPage ⟨Nat.le_of_ble_eq_true rfl, Nat.le_of_ble_eq_true rfl⟩ ⟨Nat.le_of_ble_eq_true rfl, Nat.le_of_ble_eq_true rfl⟩ rfl rfl (Nat.le_of_ble_eq_true rfl) dX9_tale_131) ⟨rfl, rfl⟩ rfl (fun r25 J26 hw => ?_)
      refine r_if_ne hC (tgt := 140) dX9_tale_134 rfl (by decide) hw (fun hw => ?_) (fun hw => ?_)
      · refine r_iinc hC (k := 1) (lv' := [(9, .int (x9 + 1)), (0, .ref (gA g 0)), (3, .int x3), (4, .int x4), (5, .int x5), (6, .int x6), (7, .ref (gA g c7))]) dX9_tale_140 rfl (j := 6) rfl (by decide) (by decide) rfl ?_
        refine r_goto hC (tgt := 114) dX9_tale_143 (by decide) ?_
        exact r_sub (lv' := [(0, .ref (gA g 0)), (3, .int x3), (4, .int x4), (5, .int x5), (6, .int x6), (7, .ref (gA g c7)), (9, .int (x9 + 1))]) [1, 2, 3, 4, 5, 6, 0] rfl (ih _ _ _ _ _ _ _ hc7 hw)
      · refine r_bipush hC (v := (-2 : Int32)) dX9_tale_137 rfl (by decide) ?_
        exact r_retI hC hR ⟨rfl, rfl⟩ dX9_tale_139 hw
set_option maxRecDepth 100000 in
set_option maxHeartbeats 4000000 in
theorem t_X9_tale_146 {f : Fx} {g : Gm} {nd : Nat} {Post : Int32 → Mm → Prop}  (hC : Cx f cX9_tale 10 RX9 wsX9_tale rm_X9_tale) (hG : shP g nd) (hR : RtI f cX9_tale (fun r u => u.1 = g ∧ Post r u.2))  : ∀ (x3 : Int32) (x4 : Int32) (x5 : Int32) (x6 : Int32) (c7 : Nat) (I : Mm) (hc7 : shS g c7), wp_X9_tale_146 (gK g) nd  Post x3 x4 x5 x6 c7 I → PW f 0 0 g I 146 [(0, .ref (gA g 0)), (3, .int x3), (4, .int x4), (5, .int x5), (6, .int x6), (7, .ref (gA g c7))] [] := by
  intro x3 x4 x5 x6 c7 I hc7 hw
  unfold wp_X9_tale_146 at hw
  refine r_aload_n hC dX9_tale_146 rfl rfl (j := 0) rfl ?_
  refine r_aload_n hC dX9_tale_147 rfl rfl (j := 0) rfl ?_
  refine r_getR hC dX9_tale_148 rfl hG.o.1 hG.o.2 ffg_X9_tale_26 hG.r2 ?_
  refine r_iload hC dX9_tale_151 rfl (j := 3) rfl ?_
  obtain ⟨hi, hw⟩ := hw
  have hq22 := hG.desk hi
  refine r_aald hC dX9_tale_153 rfl hq22.1.1 hq22.1.2.1 hq22.1.2.2 hq22.2.1 ?_
  refine r_aload hC dX9_tale_154 rfl (j := 5) rfl ?_
  refine r_iload_n hC dX9_tale_156 rfl rfl (j := 1) rfl ?_
  refine r_iload hC dX9_tale_157 rfl (j := 2) rfl ?_
  refine r_iload hC dX9_tale_159 rfl (j := 4) rfl ?_
  refine r_callI hC (a_V hC (k := 9) (c_X9_toldOn hG hq22.2.2 hc7 hw) ci_X9_toldOn gX9_tale_X9_toldOn rfl ⟨Nat.le_of_ble_eq_true rfl, Nat.le_of_ble_eq_true rfl⟩ ⟨Nat.le_of_ble_eq_true rfl, Nat.le_of_ble_eq_true rfl⟩ rfl (by decide) hG.o.1 (List.mem_singleton.mp hG.o.2) rfl rfl (Nat.le_of_ble_eq_true rfl) dX9_tale_161) ⟨rfl, rfl⟩ rfl (fun r23 J24 hw => ?_)
  exact r_retI hC hR ⟨rfl, rfl⟩ dX9_tale_164 hw
set_option maxRecDepth 100000 in
set_option maxHeartbeats 4000000 in
theorem t_X9_tale_94 {f : Fx} {g : Gm} {nd : Nat} {Post : Int32 → Mm → Prop}  (hC : Cx f cX9_tale 10 RX9 wsX9_tale rm_X9_tale) (hG : shP g nd) (hR : RtI f cX9_tale (fun r u => u.1 = g ∧ Post r u.2))  : ∀ (x3 : Int32) (x4 : Int32) (x5 : Int32) (x6 : Int32) (c7 : Nat) (x8 : Int32) (I : Mm) (hc7 : shS g c7), wp_X9_tale_94 (gK g) nd  Post x3 x4 x5 x6 c7 x8 I → PW f 0 0 g I 94 [(0, .ref (gA g 0)), (3, .int x3), (4, .int x4), (5, .int x5), (6, .int x6), (7, .ref (gA g c7)), (8, .int x8)] [] := by
  intro x3 x4 x5 x6 c7 x8 I hc7 hw
  unfold wp_X9_tale_94 at hw
  refine r_iload hC dX9_tale_94 rfl (j := 6) rfl ?_
  refine r_if_eq hC (tgt := 106) dX9_tale_96 rfl (by decide) hw (fun hw => ?_) (fun hw => ?_)
  · refine r_aload_n hC dX9_tale_106 rfl rfl (j := 0) rfl ?_
    refine r_iconst hC (v := (0 : Int32)) dX9_tale_107 rfl (by decide) ?_
    refine r_putI hC dX9_tale_108 rfl hG.o.1 hG.o.2 ffp_X9_tale_88 ?_
    refine r_iload_n hC dX9_tale_111 rfl rfl (j := 1) rfl ?_
    refine r_istore hC (lv' := [(9, .int x3), (0, .ref (gA g 0)), (3, .int x3), (4, .int x4), (5, .int x5), (6, .int x6), (7, .ref (gA g c7)), (8, .int x8)]) dX9_tale_112 rfl (by decide) rfl ?_
    obtain ⟨nn114, hw⟩ := hw
    exact r_sub (lv' := [(0, .ref (gA g 0)), (3, .int x3), (4, .int x4), (5, .int x5), (6, .int x6), (7, .ref (gA g c7)), (9, .int x3)]) [1, 2, 3, 4, 5, 6, 0] rfl ((t_X9_tale_114 hC hG hR (fun x3 x4 x5 x6 c7 I hc7 hw => t_X9_tale_146 hC hG hR _ _ _ _ _ _ hc7 hw) nn114 _ _ _ _ _ _ _ hc7 hw))
  · refine r_aload_n hC dX9_tale_99 rfl rfl (j := 0) rfl ?_
    refine r_iload hC dX9_tale_100 rfl (j := 6) rfl ?_
    refine r_callI hC (a_V hC (k := 9) (c_X9_faulted hG hw) ci_X9_faulted gX9_tale_X9_faulted rfl ⟨Nat.le_of_ble_eq_true rfl, Nat.le_of_ble_eq_true rfl⟩ ⟨Nat.le_of_ble_eq_true rfl, Nat.le_of_ble_eq_true rfl⟩ rfl (by decide) hG.o.1 (List.mem_singleton.mp hG.o.2) rfl rfl (Nat.le_of_ble_eq_true rfl) dX9_tale_102) ⟨rfl, rfl⟩ rfl (fun r20 J21 hw => ?_)
    exact r_retI hC hR ⟨rfl, rfl⟩ dX9_tale_105 hw
set_option maxRecDepth 100000 in
set_option maxHeartbeats 4000000 in
theorem t_X9_tale_0 {f : Fx} {g : Gm} {nd : Nat} {Post : Int32 → Mm → Prop} {x1 : Int32} {x2 : Int32} {x3 : Int32} {x4 : Int32} {x5 : Int32} {x6 : Int32} {I : Mm} (hC : Cx f cX9_tale 10 RX9 wsX9_tale rm_X9_tale) (hG : shP g nd) (hR : RtI f cX9_tale (fun r u => u.1 = g ∧ Post r u.2)) (hw : wp_X9_tale (gK g) nd x1 x2 x3 x4 x5 x6 I Post) : PW f 0 0 g I 0 [(0, .ref (gA g 0)), (1, .int x1), (2, .int x2), (3, .int x3), (4, .int x4), (5, .int x5), (6, .int x6)] [] := by
  unfold wp_X9_tale at hw
  refine r_iload_n hC dX9_tale_0 rfl rfl (j := 1) rfl ?_
  refine r_callI hC (a_S hC (c_X9_isSheet  hw) ci_X9_isSheet gX9_tale_X9_isSheet ⟨Nat.le_of_ble_eq_true rfl, Nat.le_of_ble_eq_true rfl⟩ ⟨Nat.le_of_ble_eq_true rfl, Nat.le_of_ble_eq_true rfl⟩ rfl rfl (Nat.le_of_ble_eq_true rfl) dX9_tale_1) ⟨rfl, rfl⟩ rfl (fun r1 J2 hw => ?_)
  refine r_if_eq hC (tgt := 16) dX9_tale_4 rfl (by decide) hw (fun hw => ?_) (fun hw => ?_)
  · exact r_sub (lv' := [(0, .ref (gA g 0))]) [0] rfl (t_X9_tale_16 hC hG hR _ hw)
  · refine r_aload_n hC dX9_tale_7 rfl rfl (j := 0) rfl ?_
    refine r_iload hC dX9_tale_8 rfl (j := 5) rfl ?_
    refine r_callI hC (a_V hC (k := 9) (c_X9_isDesk hG hw) ci_X9_isDesk gX9_tale_X9_isDesk rfl ⟨Nat.le_of_ble_eq_true rfl, Nat.le_of_ble_eq_true rfl⟩ ⟨Nat.le_of_ble_eq_true rfl, Nat.le_of_ble_eq_true rfl⟩ rfl (by decide) hG.o.1 (List.mem_singleton.mp hG.o.2) rfl rfl (Nat.le_of_ble_eq_true rfl) dX9_tale_10) ⟨rfl, rfl⟩ rfl (fun r3 J4 hw => ?_)
    refine r_if_ne hC (tgt := 22) dX9_tale_13 rfl (by decide) hw (fun hw => ?_) (fun hw => ?_)
    · refine r_iload_n hC dX9_tale_22 rfl rfl (j := 2) rfl ?_
      refine r_iconst hC (v := (0 : Int32)) dX9_tale_23 rfl (by decide) ?_
      refine r_iconst hC (v := (2 : Int32)) dX9_tale_24 rfl (by decide) ?_
      refine r_callI hC (a_S hC (c_X9_isWithin  hw) ci_X9_isWithin gX9_tale_X9_isWithin ⟨Nat.le_of_ble_eq_true rfl, Nat.le_of_ble_eq_true rfl⟩ ⟨Nat.le_of_ble_eq_true rfl, Nat.le_of_ble_eq_true rfl⟩ rfl rfl (Nat.le_of_ble_eq_true rfl) dX9_tale_25) ⟨rfl, rfl⟩ rfl (fun r5 J6 hw => ?_)
      refine r_if_eq hC (tgt := 52) dX9_tale_28 rfl (by decide) hw (fun hw => ?_) (fun hw => ?_)
      · exact r_sub (lv' := [(0, .ref (gA g 0))]) [0] rfl (t_X9_tale_52 hC hG hR _ hw)
      · refine r_iload hC dX9_tale_31 rfl (j := 4) rfl ?_
        refine r_iconst hC (v := (0 : Int32)) dX9_tale_33 rfl (by decide) ?_
        refine r_bipush hC (v := (20 : Int32)) dX9_tale_34 rfl (by decide) ?_
        refine r_callI hC (a_S hC (c_X9_isWithin  hw) ci_X9_isWithin gX9_tale_X9_isWithin ⟨Nat.le_of_ble_eq_true rfl, Nat.le_of_ble_eq_true rfl⟩ ⟨Nat.le_of_ble_eq_true rfl, Nat.le_of_ble_eq_true rfl⟩ rfl rfl (Nat.le_of_ble_eq_true rfl) dX9_tale_36) ⟨rfl, rfl⟩ rfl (fun r7 J8 hw => ?_)
        refine r_if_eq hC (tgt := 52) dX9_tale_39 rfl (by decide) hw (fun hw => ?_) (fun hw => ?_)
        · exact r_sub (lv' := [(0, .ref (gA g 0))]) [0] rfl (t_X9_tale_52 hC hG hR _ hw)
        · refine r_iload hC dX9_tale_42 rfl (j := 6) rfl ?_
          refine r_iconst hC (v := (0 : Int32)) dX9_tale_44 rfl (by decide) ?_
          refine r_iconst hC (v := (4 : Int32)) dX9_tale_45 rfl (by decide) ?_
          refine r_callI hC (a_S hC (c_X9_isWithin  hw) ci_X9_isWithin gX9_tale_X9_isWithin ⟨Nat.le_of_ble_eq_true rfl, Nat.le_of_ble_eq_true rfl⟩ ⟨Nat.le_of_ble_eq_true rfl, Nat.le_of_ble_eq_true rfl⟩ rfl rfl (Nat.le_of_ble_eq_true rfl) dX9_tale_46) ⟨rfl, rfl⟩ rfl (fun r9 J10 hw => ?_)
          refine r_if_ne hC (tgt := 59) dX9_tale_49 rfl (by decide) hw (fun hw => ?_) (fun hw => ?_)
          · refine r_aload_n hC dX9_tale_59 rfl rfl (j := 0) rfl ?_
            refine r_getR hC dX9_tale_60 rfl hG.o.1 hG.o.2 ffg_X9_tale_13 hG.r0 ?_
            refine r_iload_n hC dX9_tale_63 rfl rfl (j := 1) rfl ?_
            obtain ⟨hi, hw⟩ := hw
            have hq11 := hG.sheet hi
            refine r_aald hC dX9_tale_64 rfl hq11.1.1 hq11.1.2.1 hq11.1.2.2 hq11.2.1 ?_
            refine r_astore hC (lv' := [(7, .ref (gA g (20 + x1.toNatClampNeg))), (0, .ref (gA g 0)), (1, .int x1), (2, .int x2), (3, .int x3), (4, .int x4), (5, .int x5), (6, .int x6)]) dX9_tale_65 rfl (by decide) rfl ?_
            refine r_aload hC dX9_tale_67 rfl (j := 0) rfl ?_
            refine r_iload_n hC dX9_tale_69 rfl rfl (j := 3) rfl ?_
            refine r_callI hC (a_V hC (k := 6) (c_X6_faultAs hq11.2.2 hw) ci_X6_faultAs gX9_tale_X6_faultAs rfl ⟨Nat.le_of_ble_eq_true rfl, Nat.le_of_ble_eq_true rfl⟩ ⟨Nat.le_of_ble_eq_true rfl, Nat.le_of_ble_eq_true rfl⟩ rfl (by decide) (hq11.2.2).1.1 (List.mem_singleton.mp (hq11.2.2).1.2) rfl rfl (Nat.le_of_ble_eq_true rfl) dX9_tale_70) ⟨rfl, rfl⟩ rfl (fun r12 J13 hw => ?_)
            refine r_istore hC (lv' := [(8, .int r12), (7, .ref (gA g (20 + x1.toNatClampNeg))), (0, .ref (gA g 0)), (1, .int x1), (2, .int x2), (3, .int x3), (4, .int x4), (5, .int x5), (6, .int x6)]) dX9_tale_73 rfl (by decide) rfl ?_
            refine r_iload hC dX9_tale_75 rfl (j := 0) rfl ?_
            refine r_if_ne hC (tgt := 94) dX9_tale_77 rfl (by decide) hw (fun hw => ?_) (fun hw => ?_)
            · exact r_sub (lv' := [(0, .ref (gA g 0)), (3, .int x3), (4, .int x4), (5, .int x5), (6, .int x6), (7, .ref (gA g (20 + x1.toNatClampNeg))), (8, .int r12)]) [2, 5, 6, 7, 8, 1, 0] rfl (t_X9_tale_94 hC hG hR _ _ _ _ _ _ _ hq11.2.2 hw)
            · refine r_aload hC dX9_tale_80 rfl (j := 1) rfl ?_
              refine r_iload_n hC dX9_tale_82 rfl rfl (j := 5) rfl ?_
              refine r_iload hC dX9_tale_83 rfl (j := 6) rfl ?_
              refine r_callI hC (a_V hC (k := 6) (c_X6_has hq11.2.2 hw) ci_X6_has gX9_tale_X6_has rfl ⟨Nat.le_of_ble_eq_true rfl, Nat.le_of_ble_eq_true rfl⟩ ⟨Nat.le_of_ble_eq_true rfl, Nat.le_of_ble_eq_true rfl⟩ rfl (by decide) (hq11.2.2).1.1 (List.mem_singleton.mp (hq11.2.2).1.2) rfl rfl (Nat.le_of_ble_eq_true rfl) dX9_tale_85) ⟨rfl, rfl⟩ rfl (fun r14 J15 hw => ?_)
              refine r_if_ne hC (tgt := 94) dX9_tale_88 rfl (by decide) hw (fun hw => ?_) (fun hw => ?_)
              · exact r_sub (lv' := [(0, .ref (gA g 0)), (3, .int x3), (4, .int x4), (5, .int x5), (6, .int x6), (7, .ref (gA g (20 + x1.toNatClampNeg))), (8, .int r12)]) [2, 5, 6, 7, 8, 1, 0] rfl (t_X9_tale_94 hC hG hR _ _ _ _ _ _ _ hq11.2.2 hw)
              · refine r_iconst hC (v := (3 : Int32)) dX9_tale_91 rfl (by decide) ?_
                refine r_istore hC (lv' := [(8, .int (3 : Int32)), (7, .ref (gA g (20 + x1.toNatClampNeg))), (0, .ref (gA g 0)), (1, .int x1), (2, .int x2), (3, .int x3), (4, .int x4), (5, .int x5), (6, .int x6)]) dX9_tale_92 rfl (by decide) rfl ?_
                exact r_sub (lv' := [(0, .ref (gA g 0)), (3, .int x3), (4, .int x4), (5, .int x5), (6, .int x6), (7, .ref (gA g (20 + x1.toNatClampNeg))), (8, .int (3 : Int32))]) [2, 5, 6, 7, 8, 1, 0] rfl (t_X9_tale_94 hC hG hR _ _ _ _ _ _ _ hq11.2.2 hw)
          · exact r_sub (lv' := [(0, .ref (gA g 0))]) [0] rfl (t_X9_tale_52 hC hG hR _ hw)
    · exact r_sub (lv' := [(0, .ref (gA g 0))]) [0] rfl (t_X9_tale_16 hC hG hR _ hw)
set_option maxRecDepth 100000 in
theorem c_X9_tale {l : Launch} {x : Gx} {g : Gm} {nd : Nat} {x1 : Int32} {x2 : Int32} {x3 : Int32} {x4 : Int32} {x5 : Int32} {x6 : Int32} {I : Mm} {Post : Int32 → Mm → Prop} (hG : shP g nd) (hw : wp_X9_tale (gK g) nd x1 x2 x3 x4 x5 x6 I Post) : KI l x yX9_tale wsX9_tale rm_X9_tale g I [.ref (gA g 0), .int x1, .int x2, .int x3, .int x4, .int x5, .int x6] (fun r u => u.1 = g ∧ Post r u.2) := KI_of (by decide) rfl rfl (Nat.le_of_ble_eq_true rfl) (fun f hC _ _ hR => t_X9_tale_0 hC hG hR hw)

/-! X9_hitsOf -/
abbrev rm_X9_hitsOf : Room := { frames := 3, cells := 0, slots := 0, locals := 66 }
theorem ci_X9_hitsOf : CI yX9_hitsOf wsX9_hitsOf cX9_hitsOf 6 (some .int) 2 := ⟨⟨_, rfl⟩, by decide, by decide, by decide +kernel⟩
def wp_X9_hitsOf_57 (ki : Nat → Nat) (nd : Nat) (Kb : Nat → Int32 → Int32 → Mm → Prop) (Post : Int32 → Mm → Prop) (c3 : Nat) (x5 : Int32) (s0 : Int32) (s1 : Int32) (I : Mm) : Prop := Kb c3 (s1 ||| s0) (x5 + 1) I
def wp_X9_hitsOf_18 (ki : Nat → Nat) (nd : Nat)  (Post : Int32 → Mm → Prop) : Nat → Nat → Int32 → Int32 → Mm → Prop
  | 0, _, _, _, _ => False
  | nn18 + 1, c3, x4, x5, I => if (I 8 1) ≤ x5 then (Post x4 I) else (vp_in x5 24 ∧ (wp_X3_serve ki c3 (I 9 x5.toNatClampNeg) I (fun r4 J5 => if r4 = 0 then (wp_X9_hitsOf_57 ki nd (fun c3 x4 x5 I => wp_X9_hitsOf_18 ki nd Post nn18 c3 x4 x5 I) Post c3 x5 (0 : Int32) x4 J5) else (wp_X9_hitsOf_57 ki nd (fun c3 x4 x5 I => wp_X9_hitsOf_18 ki nd Post nn18 c3 x4 x5 I) Post c3 x5 ((1 : Int32) <<< (x5 &&& 31)) x4 J5))))
def wp_X9_hitsOf (ki : Nat → Nat) (nd : Nat) (x1 : Int32) (x2 : Int32) (I : Mm) (Post : Int32 → Mm → Prop) : Prop := vp_in x1 3 ∧ (wp_X3_clear ki (30 + x1.toNatClampNeg) x2 I (fun J3 => ∃ nn18, wp_X9_hitsOf_18 ki nd Post nn18 (30 + x1.toNatClampNeg) (0 : Int32) (0 : Int32) J3))
set_option maxRecDepth 20000 in
theorem uw_X9_hitsOf_9 : ∀ w ∈ u_ws RX9 TX9 11, w ∈ wsX9_hitsOf := by decide +kernel
set_option maxRecDepth 20000 in
theorem ffg_X9_hitsOf_30 : ∀ k ∈ ([9] : List Nat), FF wsX9_hitsOf RX9 30 k 3 ∧ fR k 3 = true := List.forall_mem_cons.mpr ⟨⟨⟨RX9, TX9, 11, "PageDesks", rfl, rfl, by decide, by decide, uw_X9_hitsOf_9, (List.mem_of_getElem? (i := 1) rfl), Or.inl rfl⟩, rfl⟩, fun _ h => absurd h List.not_mem_nil⟩
set_option maxRecDepth 20000 in
theorem ffg_X9_hitsOf_36 : ∀ k ∈ ([9] : List Nat), FF wsX9_hitsOf RX9 36 k 4 ∧ fR k 4 = true := List.forall_mem_cons.mpr ⟨⟨⟨RX9, TX9, 11, "PageDesks", rfl, rfl, by decide, by decide, uw_X9_hitsOf_9, (List.mem_of_getElem? (i := 2) rfl), Or.inl rfl⟩, rfl⟩, fun _ h => absurd h List.not_mem_nil⟩
set_option maxRecDepth 20000 in
theorem uw_X9_hitsOf_2 : ∀ w ∈ u_ws RX2 TX2 2, w ∈ wsX9_hitsOf := by decide +kernel
set_option maxRecDepth 20000 in
theorem ffg_X9_hitsOf_149 : ∀ k ∈ ([2] : List Nat), FF wsX9_hitsOf RX9 149 k 1 ∧ fR k 1 = false := List.forall_mem_cons.mpr ⟨⟨⟨RX2, TX2, 2, "PageDesks$Line", rfl, rfl, by decide, by decide, uw_X9_hitsOf_2, (List.mem_of_getElem? (i := 3) rfl), Or.inl rfl⟩, rfl⟩, fun _ h => absurd h List.not_mem_nil⟩
set_option maxRecDepth 20000 in
theorem ffg_X9_hitsOf_133 : ∀ k ∈ ([2] : List Nat), FF wsX9_hitsOf RX9 133 k 0 ∧ fR k 0 = true := List.forall_mem_cons.mpr ⟨⟨⟨RX2, TX2, 2, "PageDesks$Line", rfl, rfl, by decide, by decide, uw_X9_hitsOf_2, (List.mem_of_getElem? (i := 4) rfl), Or.inl rfl⟩, rfl⟩, fun _ h => absurd h List.not_mem_nil⟩
set_option maxRecDepth 100000 in
set_option maxHeartbeats 4000000 in
theorem t_X9_hitsOf_57 {f : Fx} {g : Gm} {nd : Nat} {Post : Int32 → Mm → Prop} {Kb : Nat → Int32 → Int32 → Mm → Prop} (hC : Cx f cX9_hitsOf 6 RX9 wsX9_hitsOf rm_X9_hitsOf) (hG : shP g nd) (hR : RtI f cX9_hitsOf (fun r u => u.1 = g ∧ Post r u.2)) (hKb : ∀ (c3 : Nat) (x4 : Int32) (x5 : Int32) (I : Mm) (hc3 : shD g [0, 3, 5] c3), Kb c3 x4 x5 I → PW f 0 0 g I 18 [(0, .ref (gA g 0)), (3, .ref (gA g c3)), (4, .int x4), (5, .int x5)] []) : ∀ (c3 : Nat) (x5 : Int32) (s0 : Int32) (s1 : Int32) (I : Mm) (hc3 : shD g [0, 3, 5] c3), wp_X9_hitsOf_57 (gK g) nd Kb Post c3 x5 s0 s1 I → PW f 0 0 g I 57 [(0, .ref (gA g 0)), (3, .ref (gA g c3)), (5, .int x5)] [.int s0, .int s1] := by
  intro c3 x5 s0 s1 I hc3 hw
  unfold wp_X9_hitsOf_57 at hw
  refine r_ior hC dX9_hitsOf_57 rfl ?_
  refine r_istore hC (lv' := [(4, .int (s1 ||| s0)), (0, .ref (gA g 0)), (3, .ref (gA g c3)), (5, .int x5)]) dX9_hitsOf_58 rfl (by decide) rfl ?_
  refine r_iinc hC (k := 1) (lv' := [(5, .int (x5 + 1)), (4, .int (s1 ||| s0)), (0, .ref (gA g 0)), (3, .ref (gA g c3))]) dX9_hitsOf_60 rfl (j := 3) rfl (by decide) (by decide) rfl ?_
  refine r_goto hC (tgt := 18) dX9_hitsOf_63 (by decide) ?_
  exact r_sub (lv' := [(0, .ref (gA g 0)), (3, .ref (gA g c3)), (4, .int (s1 ||| s0)), (5, .int (x5 + 1))]) [2, 3, 1, 0] rfl (hKb _ _ _ _ hc3 hw)
set_option maxRecDepth 100000 in
set_option maxHeartbeats 4000000 in
theorem t_X9_hitsOf_18 {f : Fx} {g : Gm} {nd : Nat} {Post : Int32 → Mm → Prop}  (hC : Cx f cX9_hitsOf 6 RX9 wsX9_hitsOf rm_X9_hitsOf) (hG : shP g nd) (hR : RtI f cX9_hitsOf (fun r u => u.1 = g ∧ Post r u.2))  : ∀ (nn18 : Nat) (c3 : Nat) (x4 : Int32) (x5 : Int32) (I : Mm) (hc3 : shD g [0, 3, 5] c3), wp_X9_hitsOf_18 (gK g) nd  Post nn18 c3 x4 x5 I → PW f 0 0 g I 18 [(0, .ref (gA g 0)), (3, .ref (gA g c3)), (4, .int x4), (5, .int x5)] [] := by
  intro nn18
  induction nn18 with
  | zero =>
    intro c3 x4 x5 I hc3 hw
    exact absurd hw id
  | succ nn18 ih =>
    intro c3 x4 x5 I hc3 hw
    unfold wp_X9_hitsOf_18 at hw
    refine r_iload hC dX9_hitsOf_18 rfl (j := 3) rfl ?_
    refine r_aload_n hC dX9_hitsOf_20 rfl rfl (j := 0) rfl ?_
    refine r_getR hC dX9_hitsOf_21 rfl hG.o.1 hG.o.2 ffg_X9_hitsOf_36 hG.r4 ?_
    refine r_getI hC dX9_hitsOf_24 rfl (hG.n).1.1 (hG.n).1.2 ffg_X9_hitsOf_149 ?_
    refine r_icmp_ge hC (tgt := 66) dX9_hitsOf_27 rfl (by decide) hw (fun hw => ?_) (fun hw => ?_)
    · refine r_iload hC dX9_hitsOf_66 rfl (j := 2) rfl ?_
      exact r_retI hC hR ⟨rfl, rfl⟩ dX9_hitsOf_68 hw
    · refine r_iload hC dX9_hitsOf_30 rfl (j := 2) rfl ?_
      refine r_aload_n hC dX9_hitsOf_32 rfl rfl (j := 1) rfl ?_
      refine r_aload_n hC dX9_hitsOf_33 rfl rfl (j := 0) rfl ?_
      refine r_getR hC dX9_hitsOf_34 rfl hG.o.1 hG.o.2 ffg_X9_hitsOf_36 hG.r4 ?_
      refine r_getR hC dX9_hitsOf_37 rfl (hG.n).1.1 (hG.n).1.2 ffg_X9_hitsOf_133 (hG.n).2.2 ?_
      refine r_iload hC dX9_hitsOf_40 rfl (j := 3) rfl ?_
      obtain ⟨hi, hw⟩ := hw
      refine r_iald hC dX9_hitsOf_42 rfl ((hG.n).2.1).1 ((hG.n).2.1).2.1 (by rw [((hG.n).2.1).2.2]; exact hi) ?_
      refine r_callI hC (rmc := rm_X3_serve) (a_K hc3 (fun h => a_U hC (k := 0) (rmc := rm_X3_serve) (c_X3_serve hc3 hw) ci_X3_serve gX9_hitsOf_X3_serve_u142X0 rfl ⟨Nat.le_of_ble_eq_true rfl, Nat.le_of_ble_eq_true rfl⟩ ⟨Nat.le_of_ble_eq_true rfl, Nat.le_of_ble_eq_true rfl⟩ rfl (by decide) (hc3).1.1 h rfl rfl (Nat.le_of_ble_eq_true rfl) dX9_hitsOf_43) (fun h => a_V hC (k := 3) (c_X3_serve hc3 hw) ci_X3_serve gX9_hitsOf_X3_serve rfl ⟨Nat.le_of_ble_eq_true rfl, Nat.le_of_ble_eq_true rfl⟩ ⟨Nat.le_of_ble_eq_true rfl, Nat.le_of_ble_eq_true rfl⟩ rfl (by decide) (hc3).1.1 h rfl rfl (Nat.le_of_ble_eq_true rfl) dX9_hitsOf_43) (fun h => a_U hC (k := 5) (rmc := rm_X3_serve) (c_X3_serve hc3 hw) ci_X3_serve gX9_hitsOf_X3_serve_u142X5 rfl ⟨Nat.le_of_ble_eq_true rfl, Nat.le_of_ble_eq_true rfl⟩ ⟨Nat.le_of_ble_eq_true rfl, Nat.le_of_ble_eq_true rfl⟩ rfl (by decide) (hc3).1.1 h rfl rfl (Nat.le_of_ble_eq_true rfl) dX9_hitsOf_43)) ⟨rfl, rfl⟩ rfl (fun r4 J5 hw => ?_)
      refine r_if_eq hC (tgt := 56) dX9_hitsOf_46 rfl (by decide) hw (fun hw => ?_) (fun hw => ?_)
      · refine r_iconst hC (v := (0 : Int32)) dX9_hitsOf_56 rfl (by decide) ?_
        exact r_sub (lv' := [(0, .ref (gA g 0)), (3, .ref (gA g c3)), (5, .int x5)]) [0, 1, 3] rfl (t_X9_hitsOf_57 hC hG hR (fun c3 x4 x5 I hc3 hw => ih c3 x4 x5 I hc3 hw) _ _ _ _ _ hc3 hw)
      · refine r_iconst hC (v := (1 : Int32)) dX9_hitsOf_49 rfl (by decide) ?_
        refine r_iload hC dX9_hitsOf_50 rfl (j := 3) rfl ?_
        refine r_ishl hC dX9_hitsOf_52 rfl ?_
        refine r_goto hC (tgt := 57) dX9_hitsOf_53 (by decide) ?_
        exact r_sub (lv' := [(0, .ref (gA g 0)), (3, .ref (gA g c3)), (5, .int x5)]) [0, 1, 3] rfl (t_X9_hitsOf_57 hC hG hR (fun c3 x4 x5 I hc3 hw => ih c3 x4 x5 I hc3 hw) _ _ _ _ _ hc3 hw)
set_option maxRecDepth 100000 in
set_option maxHeartbeats 4000000 in
theorem t_X9_hitsOf_0 {f : Fx} {g : Gm} {nd : Nat} {Post : Int32 → Mm → Prop} {x1 : Int32} {x2 : Int32} {I : Mm} (hC : Cx f cX9_hitsOf 6 RX9 wsX9_hitsOf rm_X9_hitsOf) (hG : shP g nd) (hR : RtI f cX9_hitsOf (fun r u => u.1 = g ∧ Post r u.2)) (hw : wp_X9_hitsOf (gK g) nd x1 x2 I Post) : PW f 0 0 g I 0 [(0, .ref (gA g 0)), (1, .int x1), (2, .int x2)] [] := by
  unfold wp_X9_hitsOf at hw
  refine r_aload_n hC dX9_hitsOf_0 rfl rfl (j := 0) rfl ?_
  refine r_getR hC dX9_hitsOf_1 rfl hG.o.1 hG.o.2 ffg_X9_hitsOf_30 hG.r3 ?_
  refine r_iload_n hC dX9_hitsOf_4 rfl rfl (j := 1) rfl ?_
  obtain ⟨hi, hw⟩ := hw
  have hq1 := hG.trial hi
  refine r_aald hC dX9_hitsOf_5 rfl hq1.1.1 hq1.1.2.1 hq1.1.2.2 hq1.2.1 ?_
  refine r_astore_n hC (lv' := [(3, .ref (gA g (30 + x1.toNatClampNeg))), (0, .ref (gA g 0)), (1, .int x1), (2, .int x2)]) dX9_hitsOf_6 rfl rfl (by decide) rfl ?_
  refine r_aload_n hC dX9_hitsOf_7 rfl rfl (j := 0) rfl ?_
  refine r_iload_n hC dX9_hitsOf_8 rfl rfl (j := 3) rfl ?_
  refine r_callV hC (rmc := rm_X3_clear) (a_K hq1.2.2 (fun h => a_U hC (k := 0) (rmc := rm_X3_clear) (c_X3_clear hq1.2.2 hw) ci_X3_clear gX9_hitsOf_X3_clear_u135X0 rfl ⟨Nat.le_of_ble_eq_true rfl, Nat.le_of_ble_eq_true rfl⟩ ⟨Nat.le_of_ble_eq_true rfl, Nat.le_of_ble_eq_true rfl⟩ rfl (by decide) (hq1.2.2).1.1 h rfl rfl (Nat.le_of_ble_eq_true rfl) dX9_hitsOf_9) (fun h => a_V hC (k := 3) (c_X3_clear hq1.2.2 hw) ci_X3_clear gX9_hitsOf_X3_clear rfl ⟨Nat.le_of_ble_eq_true rfl, Nat.le_of_ble_eq_true rfl⟩ ⟨Nat.le_of_ble_eq_true rfl, Nat.le_of_ble_eq_true rfl⟩ rfl (by decide) (hq1.2.2).1.1 h rfl rfl (Nat.le_of_ble_eq_true rfl) dX9_hitsOf_9) (fun h => a_U hC (k := 5) (rmc := rm_X3_clear) (c_X3_clear hq1.2.2 hw) ci_X3_clear gX9_hitsOf_X3_clear_u135X5 rfl ⟨Nat.le_of_ble_eq_true rfl, Nat.le_of_ble_eq_true rfl⟩ ⟨Nat.le_of_ble_eq_true rfl, Nat.le_of_ble_eq_true rfl⟩ rfl (by decide) (hq1.2.2).1.1 h rfl rfl (Nat.le_of_ble_eq_true rfl) dX9_hitsOf_9)) ⟨rfl, rfl⟩ rfl (fun J3 hw => ?_)
  refine r_iconst hC (v := (0 : Int32)) dX9_hitsOf_12 rfl (by decide) ?_
  refine r_istore hC (lv' := [(4, .int (0 : Int32)), (3, .ref (gA g (30 + x1.toNatClampNeg))), (0, .ref (gA g 0)), (1, .int x1), (2, .int x2)]) dX9_hitsOf_13 rfl (by decide) rfl ?_
  refine r_iconst hC (v := (0 : Int32)) dX9_hitsOf_15 rfl (by decide) ?_
  refine r_istore hC (lv' := [(5, .int (0 : Int32)), (4, .int (0 : Int32)), (3, .ref (gA g (30 + x1.toNatClampNeg))), (0, .ref (gA g 0)), (1, .int x1), (2, .int x2)]) dX9_hitsOf_16 rfl (by decide) rfl ?_
  obtain ⟨nn18, hw⟩ := hw
  exact r_sub (lv' := [(0, .ref (gA g 0)), (3, .ref (gA g (30 + x1.toNatClampNeg))), (4, .int (0 : Int32)), (5, .int (0 : Int32))]) [3, 2, 1, 0] rfl ((t_X9_hitsOf_18 hC hG hR nn18 _ _ _ _ hq1.2.2 hw))
set_option maxRecDepth 100000 in
theorem c_X9_hitsOf {l : Launch} {x : Gx} {g : Gm} {nd : Nat} {x1 : Int32} {x2 : Int32} {I : Mm} {Post : Int32 → Mm → Prop} (hG : shP g nd) (hw : wp_X9_hitsOf (gK g) nd x1 x2 I Post) : KI l x yX9_hitsOf wsX9_hitsOf rm_X9_hitsOf g I [.ref (gA g 0), .int x1, .int x2] (fun r u => u.1 = g ∧ Post r u.2) := KI_of (by decide) rfl rfl (Nat.le_of_ble_eq_true rfl) (fun f hC _ _ hR => t_X9_hitsOf_0 hC hG hR hw)

/-! X9_missesBy -/
abbrev rm_X9_missesBy : Room := { frames := 4, cells := 0, slots := 0, locals := 91 }
theorem ci_X9_missesBy : CI yX9_missesBy wsX9_missesBy cX9_missesBy 3 (some .int) 2 := ⟨⟨_, rfl⟩, by decide, by decide, by decide +kernel⟩
def wp_X9_missesBy (ki : Nat → Nat) (nd : Nat) (x1 : Int32) (x2 : Int32) (I : Mm) (Post : Int32 → Mm → Prop) : Prop := vp_in x1 nd ∧ (wpv_kind ki (40 + x1.toNatClampNeg) I (fun r2 J3 => wp_X9_hitsOf ki nd r2 x2 J3 (fun r4 J5 => wp_J6_bitCount_0f7a4 r4 J5 (fun r6 J7 => Post ((I 8 1) - r6) J7))))
set_option maxRecDepth 20000 in
theorem uw_X9_missesBy_9 : ∀ w ∈ u_ws RX9 TX9 11, w ∈ wsX9_missesBy := by decide +kernel
set_option maxRecDepth 20000 in
theorem ffg_X9_missesBy_36 : ∀ k ∈ ([9] : List Nat), FF wsX9_missesBy RX9 36 k 4 ∧ fR k 4 = true := List.forall_mem_cons.mpr ⟨⟨⟨RX9, TX9, 11, "PageDesks", rfl, rfl, by decide, by decide, uw_X9_missesBy_9, (List.mem_of_getElem? (i := 1) rfl), Or.inl rfl⟩, rfl⟩, fun _ h => absurd h List.not_mem_nil⟩
set_option maxRecDepth 20000 in
theorem uw_X9_missesBy_2 : ∀ w ∈ u_ws RX2 TX2 2, w ∈ wsX9_missesBy := by decide +kernel
set_option maxRecDepth 20000 in
theorem ffg_X9_missesBy_149 : ∀ k ∈ ([2] : List Nat), FF wsX9_missesBy RX9 149 k 1 ∧ fR k 1 = false := List.forall_mem_cons.mpr ⟨⟨⟨RX2, TX2, 2, "PageDesks$Line", rfl, rfl, by decide, by decide, uw_X9_missesBy_2, (List.mem_of_getElem? (i := 2) rfl), Or.inl rfl⟩, rfl⟩, fun _ h => absurd h List.not_mem_nil⟩
set_option maxRecDepth 20000 in
theorem ffg_X9_missesBy_26 : ∀ k ∈ ([9] : List Nat), FF wsX9_missesBy RX9 26 k 2 ∧ fR k 2 = true := List.forall_mem_cons.mpr ⟨⟨⟨RX9, TX9, 11, "PageDesks", rfl, rfl, by decide, by decide, uw_X9_missesBy_9, (List.mem_of_getElem? (i := 3) rfl), Or.inl rfl⟩, rfl⟩, fun _ h => absurd h List.not_mem_nil⟩
set_option maxRecDepth 100000 in
set_option maxHeartbeats 4000000 in
theorem t_X9_missesBy_0 {f : Fx} {g : Gm} {nd : Nat} {Post : Int32 → Mm → Prop} {x1 : Int32} {x2 : Int32} {I : Mm} (hC : Cx f cX9_missesBy 3 RX9 wsX9_missesBy rm_X9_missesBy) (hG : shP g nd) (hR : RtI f cX9_missesBy (fun r u => u.1 = g ∧ Post r u.2)) (hw : wp_X9_missesBy (gK g) nd x1 x2 I Post) : PW f 0 0 g I 0 [(0, .ref (gA g 0)), (1, .int x1), (2, .int x2)] [] := by
  unfold wp_X9_missesBy at hw
  refine r_aload_n hC dX9_missesBy_0 rfl rfl (j := 0) rfl ?_
  refine r_getR hC dX9_missesBy_1 rfl hG.o.1 hG.o.2 ffg_X9_missesBy_36 hG.r4 ?_
  refine r_getI hC dX9_missesBy_4 rfl (hG.n).1.1 (hG.n).1.2 ffg_X9_missesBy_149 ?_
  refine r_aload_n hC dX9_missesBy_7 rfl rfl (j := 0) rfl ?_
  refine r_aload_n hC dX9_missesBy_8 rfl rfl (j := 0) rfl ?_
  refine r_getR hC dX9_missesBy_9 rfl hG.o.1 hG.o.2 ffg_X9_missesBy_26 hG.r2 ?_
  refine r_iload_n hC dX9_missesBy_12 rfl rfl (j := 1) rfl ?_
  obtain ⟨hi, hw⟩ := hw
  have hq1 := hG.desk hi
  refine r_aald hC dX9_missesBy_13 rfl hq1.1.1 hq1.1.2.1 hq1.1.2.2 hq1.2.1 ?_
  refine r_callI hC (rmc := rm_X3_kind) (a_K hq1.2.2 (fun h => a_O hC (k := 0) (rmc := rm_X0_kind) (c_X0_kind (shD.of hq1.2.2 h (by decide)) (wpv_kind_0 h hw)) ci_X0_kind gX9_missesBy_X0_kind_u105X0 (List.mem_of_getElem? (i := 11) rfl) ⟨by decide, by decide⟩ rfl ⟨Nat.le_of_ble_eq_true rfl, Nat.le_of_ble_eq_true rfl⟩ ⟨Nat.le_of_ble_eq_true rfl, Nat.le_of_ble_eq_true rfl⟩ rfl (by decide) (hq1.2.2).1.1 h rfl rfl (Nat.le_of_ble_eq_true rfl) dX9_missesBy_14) (fun h => a_V hC (k := 3) (c_X3_kind hq1.2.2 (wpv_kind_3 h hw)) ci_X3_kind gX9_missesBy_X3_kind rfl ⟨Nat.le_of_ble_eq_true rfl, Nat.le_of_ble_eq_true rfl⟩ ⟨Nat.le_of_ble_eq_true rfl, Nat.le_of_ble_eq_true rfl⟩ rfl (by decide) (hq1.2.2).1.1 h rfl rfl (Nat.le_of_ble_eq_true rfl) dX9_missesBy_14) (fun h => a_O hC (k := 5) (rmc := rm_X5_kind) (c_X5_kind (shD.of hq1.2.2 h (by decide)) (wpv_kind_5 h hw)) ci_X5_kind gX9_missesBy_X5_kind_u105X5 (List.mem_of_getElem? (i := 11) rfl) ⟨by decide, by decide⟩ rfl ⟨Nat.le_of_ble_eq_true rfl, Nat.le_of_ble_eq_true rfl⟩ ⟨Nat.le_of_ble_eq_true rfl, Nat.le_of_ble_eq_true rfl⟩ rfl (by decide) (hq1.2.2).1.1 h rfl rfl (Nat.le_of_ble_eq_true rfl) dX9_missesBy_14)) ⟨rfl, rfl⟩ rfl (fun r2 J3 hw => ?_)
  refine r_iload_n hC dX9_missesBy_17 rfl rfl (j := 2) rfl ?_
  refine r_callI hC (a_V hC (k := 9) (c_X9_hitsOf hG hw) ci_X9_hitsOf gX9_missesBy_X9_hitsOf rfl ⟨Nat.le_of_ble_eq_true rfl, Nat.le_of_ble_eq_true rfl⟩ ⟨Nat.le_of_ble_eq_true rfl, Nat.le_of_ble_eq_true rfl⟩ rfl (by decide) hG.o.1 (List.mem_singleton.mp hG.o.2) rfl rfl (Nat.le_of_ble_eq_true rfl) dX9_missesBy_18) ⟨rfl, rfl⟩ rfl (fun r4 J5 hw => ?_)
  refine r_callI hC (a_S hC (c_J6_bitCount_0f7a4  hw) ci_J6_bitCount_0f7a4 gX9_missesBy_J6_bitCount_0f7a4 ⟨Nat.le_of_ble_eq_true rfl, Nat.le_of_ble_eq_true rfl⟩ ⟨Nat.le_of_ble_eq_true rfl, Nat.le_of_ble_eq_true rfl⟩ rfl rfl (Nat.le_of_ble_eq_true rfl) dX9_missesBy_21) ⟨rfl, rfl⟩ rfl (fun r6 J7 hw => ?_)
  refine r_isub hC dX9_missesBy_24 rfl ?_
  exact r_retI hC hR ⟨rfl, rfl⟩ dX9_missesBy_25 hw
set_option maxRecDepth 100000 in
theorem c_X9_missesBy {l : Launch} {x : Gx} {g : Gm} {nd : Nat} {x1 : Int32} {x2 : Int32} {I : Mm} {Post : Int32 → Mm → Prop} (hG : shP g nd) (hw : wp_X9_missesBy (gK g) nd x1 x2 I Post) : KI l x yX9_missesBy wsX9_missesBy rm_X9_missesBy g I [.ref (gA g 0), .int x1, .int x2] (fun r u => u.1 = g ∧ Post r u.2) := KI_of (by decide) rfl rfl (Nat.le_of_ble_eq_true rfl) (fun f hC _ _ hR => t_X9_missesBy_0 hC hG hR hw)

/-! X9_misses -/
abbrev rm_X9_misses : Room := { frames := 5, cells := 0, slots := 0, locals := 113 }
theorem ci_X9_misses : CI yX9_misses wsX9_misses cX9_misses 3 (some .int) 2 := ⟨⟨_, rfl⟩, by decide, by decide, by decide +kernel⟩
def wp_X9_misses (ki : Nat → Nat) (nd : Nat) (x1 : Int32) (x2 : Int32) (I : Mm) (Post : Int32 → Mm → Prop) : Prop := wp_X9_isDesk ki nd x1 I (fun r1 J2 => if r1 = 0 then (Post (-1 : Int32) J2) else (wp_X9_isWithin x2 (1 : Int32) (8 : Int32) J2 (fun r3 J4 => if r3 = 0 then (Post (-2 : Int32) J4) else (wp_X9_missesBy ki nd x1 x2 J4 (fun r5 J6 => Post r5 J6)))))

set_option maxRecDepth 100000 in
set_option maxHeartbeats 4000000 in
theorem t_X9_misses_0 {f : Fx} {g : Gm} {nd : Nat} {Post : Int32 → Mm → Prop} {x1 : Int32} {x2 : Int32} {I : Mm} (hC : Cx f cX9_misses 3 RX9 wsX9_misses rm_X9_misses) (hG : shP g nd) (hR : RtI f cX9_misses (fun r u => u.1 = g ∧ Post r u.2)) (hw : wp_X9_misses (gK g) nd x1 x2 I Post) : PW f 0 0 g I 0 [(0, .ref (gA g 0)), (1, .int x1), (2, .int x2)] [] := by
  unfold wp_X9_misses at hw
  refine r_aload_n hC dX9_misses_0 rfl rfl (j := 0) rfl ?_
  refine r_iload_n hC dX9_misses_1 rfl rfl (j := 1) rfl ?_
  refine r_callI hC (a_V hC (k := 9) (c_X9_isDesk hG hw) ci_X9_isDesk gX9_misses_X9_isDesk rfl ⟨Nat.le_of_ble_eq_true rfl, Nat.le_of_ble_eq_true rfl⟩ ⟨Nat.le_of_ble_eq_true rfl, Nat.le_of_ble_eq_true rfl⟩ rfl (by decide) hG.o.1 (List.mem_singleton.mp hG.o.2) rfl rfl (Nat.le_of_ble_eq_true rfl) dX9_misses_2) ⟨rfl, rfl⟩ rfl (fun r1 J2 hw => ?_)
  refine r_if_ne hC (tgt := 10) dX9_misses_5 rfl (by decide) hw (fun hw => ?_) (fun hw => ?_)
  · refine r_iload_n hC dX9_misses_10 rfl rfl (j := 2) rfl ?_
    refine r_iconst hC (v := (1 : Int32)) dX9_misses_11 rfl (by decide) ?_
    refine r_bipush hC (v := (8 : Int32)) dX9_misses_12 rfl (by decide) ?_
    refine r_callI hC (a_S hC (c_X9_isWithin  hw) ci_X9_isWithin gX9_misses_X9_isWithin ⟨Nat.le_of_ble_eq_true rfl, Nat.le_of_ble_eq_true rfl⟩ ⟨Nat.le_of_ble_eq_true rfl, Nat.le_of_ble_eq_true rfl⟩ rfl rfl (Nat.le_of_ble_eq_true rfl) dX9_misses_14) ⟨rfl, rfl⟩ rfl (fun r3 J4 hw => ?_)
    refine r_if_eq hC (tgt := 29) dX9_misses_17 rfl (by decide) hw (fun hw => ?_) (fun hw => ?_)
    · refine r_bipush hC (v := (-2 : Int32)) dX9_misses_29 rfl (by decide) ?_
      exact r_retI hC hR ⟨rfl, rfl⟩ dX9_misses_31 hw
    · refine r_aload_n hC dX9_misses_20 rfl rfl (j := 0) rfl ?_
      refine r_iload_n hC dX9_misses_21 rfl rfl (j := 1) rfl ?_
      refine r_iload_n hC dX9_misses_22 rfl rfl (j := 2) rfl ?_
      refine r_callI hC (a_V hC (k := 9) (c_X9_missesBy hG hw) ci_X9_missesBy gX9_misses_X9_missesBy rfl ⟨Nat.le_of_ble_eq_true rfl, Nat.le_of_ble_eq_true rfl⟩ ⟨Nat.le_of_ble_eq_true rfl, Nat.le_of_ble_eq_true rfl⟩ rfl (by decide) hG.o.1 (List.mem_singleton.mp hG.o.2) rfl rfl (Nat.le_of_ble_eq_true rfl) dX9_misses_23) ⟨rfl, rfl⟩ rfl (fun r5 J6 hw => ?_)
      refine r_goto hC (tgt := 31) dX9_misses_26 (by decide) ?_
      exact r_retI hC hR ⟨rfl, rfl⟩ dX9_misses_31 hw
  · refine r_iconst hC (v := (-1 : Int32)) dX9_misses_8 rfl (by decide) ?_
    exact r_retI hC hR ⟨rfl, rfl⟩ dX9_misses_9 hw
set_option maxRecDepth 100000 in
theorem c_X9_misses {l : Launch} {x : Gx} {g : Gm} {nd : Nat} {x1 : Int32} {x2 : Int32} {I : Mm} {Post : Int32 → Mm → Prop} (hG : shP g nd) (hw : wp_X9_misses (gK g) nd x1 x2 I Post) : KI l x yX9_misses wsX9_misses rm_X9_misses g I [.ref (gA g 0), .int x1, .int x2] (fun r u => u.1 = g ∧ Post r u.2) := KI_of (by decide) rfl rfl (Nat.le_of_ble_eq_true rfl) (fun f hC _ _ hR => t_X9_misses_0 hC hG hR hw)

/-! X9_odd -/
abbrev rm_X9_odd : Room := { frames := 5, cells := 0, slots := 0, locals := 113 }
theorem ci_X9_odd : CI yX9_odd wsX9_odd cX9_odd 5 (some .int) 1 := ⟨⟨_, rfl⟩, by decide, by decide, by decide +kernel⟩
def wp_X9_odd_19 (ki : Nat → Nat) (nd : Nat)  (Post : Int32 → Mm → Prop) : Nat → Int32 → Int32 → Int32 → Mm → Prop
  | 0, _, _, _, _ => False
  | nn19 + 1, x1, x2, x3, I => if (8 : Int32) ≤ x3 then (Post (-9 : Int32) I) else (wp_X9_missesBy ki nd x1 (x3 + (1 : Int32)) I (fun r5 J6 => if r5 ≤ x2 then (wp_X9_odd_19 ki nd Post nn19 x1 r5 (x3 + 1) J6) else (Post x3 J6)))
def wp_X9_odd (ki : Nat → Nat) (nd : Nat) (x1 : Int32) (I : Mm) (Post : Int32 → Mm → Prop) : Prop := wp_X9_isDesk ki nd x1 I (fun r1 J2 => if r1 = 0 then (Post (-1 : Int32) J2) else (wp_X9_missesBy ki nd x1 (1 : Int32) J2 (fun r3 J4 => ∃ nn19, wp_X9_odd_19 ki nd Post nn19 x1 r3 (1 : Int32) J4)))

set_option maxRecDepth 100000 in
set_option maxHeartbeats 4000000 in
theorem t_X9_odd_19 {f : Fx} {g : Gm} {nd : Nat} {Post : Int32 → Mm → Prop}  (hC : Cx f cX9_odd 5 RX9 wsX9_odd rm_X9_odd) (hG : shP g nd) (hR : RtI f cX9_odd (fun r u => u.1 = g ∧ Post r u.2))  : ∀ (nn19 : Nat) (x1 : Int32) (x2 : Int32) (x3 : Int32) (I : Mm) , wp_X9_odd_19 (gK g) nd  Post nn19 x1 x2 x3 I → PW f 0 0 g I 19 [(0, .ref (gA g 0)), (1, .int x1), (2, .int x2), (3, .int x3)] [] := by
  intro nn19
  induction nn19 with
  | zero =>
    intro x1 x2 x3 I  hw
    exact absurd hw id
  | succ nn19 ih =>
    intro x1 x2 x3 I  hw
    unfold wp_X9_odd_19 at hw
    refine r_iload_n hC dX9_odd_19 rfl rfl (j := 3) rfl ?_
    refine r_bipush hC (v := (8 : Int32)) dX9_odd_20 rfl (by decide) ?_
    refine r_icmp_ge hC (tgt := 52) dX9_odd_22 rfl (by decide) hw (fun hw => ?_) (fun hw => ?_)
    · refine r_bipush hC (v := (-9 : Int32)) dX9_odd_52 rfl (by decide) ?_
      exact r_retI hC hR ⟨rfl, rfl⟩ dX9_odd_54 hw
    · refine r_aload_n hC dX9_odd_25 rfl rfl (j := 0) rfl ?_
      refine r_iload_n hC dX9_odd_26 rfl rfl (j := 1) rfl ?_
      refine r_iload_n hC dX9_odd_27 rfl rfl (j := 3) rfl ?_
      refine r_iconst hC (v := (1 : Int32)) dX9_odd_28 rfl (by decide) ?_
      refine r_iadd hC dX9_odd_29 rfl ?_
      refine r_callI hC (a_V hC (k := 9) (c_X9_missesBy hG hw) ci_X9_missesBy gX9_odd_X9_missesBy rfl ⟨Nat.le_of_ble_eq_true rfl, Nat.le_of_ble_eq_true rfl⟩ ⟨Nat.le_of_ble_eq_true rfl, Nat.le_of_ble_eq_true rfl⟩ rfl (by decide) hG.o.1 (List.mem_singleton.mp hG.o.2) rfl rfl (Nat.le_of_ble_eq_true rfl) dX9_odd_30) ⟨rfl, rfl⟩ rfl (fun r5 J6 hw => ?_)
      refine r_istore hC (lv' := [(4, .int r5), (0, .ref (gA g 0)), (1, .int x1), (2, .int x2), (3, .int x3)]) dX9_odd_33 rfl (by decide) rfl ?_
      refine r_iload_n hC dX9_odd_35 rfl rfl (j := 3) rfl ?_
      refine r_iload hC dX9_odd_36 rfl (j := 0) rfl ?_
      refine r_icmp_ge hC (tgt := 43) dX9_odd_38 rfl (by decide) hw (fun hw => ?_) (fun hw => ?_)
      · refine r_iload hC dX9_odd_43 rfl (j := 0) rfl ?_
        refine r_istore_n hC (lv' := [(2, .int r5), (4, .int r5), (0, .ref (gA g 0)), (1, .int x1), (3, .int x3)]) dX9_odd_45 rfl rfl (by decide) rfl ?_
        refine r_iinc hC (k := 1) (lv' := [(3, .int (x3 + 1)), (2, .int r5), (4, .int r5), (0, .ref (gA g 0)), (1, .int x1)]) dX9_odd_46 rfl (j := 4) rfl (by decide) (by decide) rfl ?_
        refine r_goto hC (tgt := 19) dX9_odd_49 (by decide) ?_
        exact r_sub (lv' := [(0, .ref (gA g 0)), (1, .int x1), (2, .int r5), (3, .int (x3 + 1))]) [3, 4, 1, 0] rfl (ih _ _ _ _ hw)
      · refine r_iload_n hC dX9_odd_41 rfl rfl (j := 4) rfl ?_
        exact r_retI hC hR ⟨rfl, rfl⟩ dX9_odd_42 hw
set_option maxRecDepth 100000 in
set_option maxHeartbeats 4000000 in
theorem t_X9_odd_0 {f : Fx} {g : Gm} {nd : Nat} {Post : Int32 → Mm → Prop} {x1 : Int32} {I : Mm} (hC : Cx f cX9_odd 5 RX9 wsX9_odd rm_X9_odd) (hG : shP g nd) (hR : RtI f cX9_odd (fun r u => u.1 = g ∧ Post r u.2)) (hw : wp_X9_odd (gK g) nd x1 I Post) : PW f 0 0 g I 0 [(0, .ref (gA g 0)), (1, .int x1)] [] := by
  unfold wp_X9_odd at hw
  refine r_aload_n hC dX9_odd_0 rfl rfl (j := 0) rfl ?_
  refine r_iload_n hC dX9_odd_1 rfl rfl (j := 1) rfl ?_
  refine r_callI hC (a_V hC (k := 9) (c_X9_isDesk hG hw) ci_X9_isDesk gX9_odd_X9_isDesk rfl ⟨Nat.le_of_ble_eq_true rfl, Nat.le_of_ble_eq_true rfl⟩ ⟨Nat.le_of_ble_eq_true rfl, Nat.le_of_ble_eq_true rfl⟩ rfl (by decide) hG.o.1 (List.mem_singleton.mp hG.o.2) rfl rfl (Nat.le_of_ble_eq_true rfl) dX9_odd_2) ⟨rfl, rfl⟩ rfl (fun r1 J2 hw => ?_)
  refine r_if_ne hC (tgt := 10) dX9_odd_5 rfl (by decide) hw (fun hw => ?_) (fun hw => ?_)
  · refine r_aload_n hC dX9_odd_10 rfl rfl (j := 0) rfl ?_
    refine r_iload_n hC dX9_odd_11 rfl rfl (j := 1) rfl ?_
    refine r_iconst hC (v := (1 : Int32)) dX9_odd_12 rfl (by decide) ?_
    refine r_callI hC (a_V hC (k := 9) (c_X9_missesBy hG hw) ci_X9_missesBy gX9_odd_X9_missesBy rfl ⟨Nat.le_of_ble_eq_true rfl, Nat.le_of_ble_eq_true rfl⟩ ⟨Nat.le_of_ble_eq_true rfl, Nat.le_of_ble_eq_true rfl⟩ rfl (by decide) hG.o.1 (List.mem_singleton.mp hG.o.2) rfl rfl (Nat.le_of_ble_eq_true rfl) dX9_odd_13) ⟨rfl, rfl⟩ rfl (fun r3 J4 hw => ?_)
    refine r_istore_n hC (lv' := [(2, .int r3), (0, .ref (gA g 0)), (1, .int x1)]) dX9_odd_16 rfl rfl (by decide) rfl ?_
    refine r_iconst hC (v := (1 : Int32)) dX9_odd_17 rfl (by decide) ?_
    refine r_istore_n hC (lv' := [(3, .int (1 : Int32)), (2, .int r3), (0, .ref (gA g 0)), (1, .int x1)]) dX9_odd_18 rfl rfl (by decide) rfl ?_
    obtain ⟨nn19, hw⟩ := hw
    exact r_sub (lv' := [(0, .ref (gA g 0)), (1, .int x1), (2, .int r3), (3, .int (1 : Int32))]) [2, 3, 1, 0] rfl ((t_X9_odd_19 hC hG hR nn19 _ _ _ _ hw))
  · refine r_iconst hC (v := (-1 : Int32)) dX9_odd_8 rfl (by decide) ?_
    exact r_retI hC hR ⟨rfl, rfl⟩ dX9_odd_9 hw
set_option maxRecDepth 100000 in
theorem c_X9_odd {l : Launch} {x : Gx} {g : Gm} {nd : Nat} {x1 : Int32} {I : Mm} {Post : Int32 → Mm → Prop} (hG : shP g nd) (hw : wp_X9_odd (gK g) nd x1 I Post) : KI l x yX9_odd wsX9_odd rm_X9_odd g I [.ref (gA g 0), .int x1] (fun r u => u.1 = g ∧ Post r u.2) := KI_of (by decide) rfl rfl (Nat.le_of_ble_eq_true rfl) (fun f hC _ _ hR => t_X9_odd_0 hC hG hR hw)

/-! X9_need -/
abbrev rm_X9_need : Room := { frames := 5, cells := 0, slots := 0, locals := 113 }
theorem ci_X9_need : CI yX9_need wsX9_need cX9_need 4 (some .int) 2 := ⟨⟨_, rfl⟩, by decide, by decide, by decide +kernel⟩
def wp_X9_need_25 (ki : Nat → Nat) (nd : Nat)  (Post : Int32 → Mm → Prop) : Nat → Int32 → Int32 → Int32 → Mm → Prop
  | 0, _, _, _, _ => False
  | nn25 + 1, x1, x2, x3, I => if (8 : Int32) < x3 then (Post (-9 : Int32) I) else (wp_X9_missesBy ki nd x1 x3 I (fun r5 J6 => if x2 < r5 then (wp_X9_need_25 ki nd Post nn25 x1 x2 (x3 + 1) J6) else (Post x3 J6)))
def wp_X9_need (ki : Nat → Nat) (nd : Nat) (x1 : Int32) (x2 : Int32) (I : Mm) (Post : Int32 → Mm → Prop) : Prop := wp_X9_isDesk ki nd x1 I (fun r1 J2 => if r1 = 0 then (Post (-1 : Int32) J2) else (wp_X9_isWithin x2 (0 : Int32) (24 : Int32) J2 (fun r3 J4 => if r3 = 0 then (Post (-2 : Int32) J4) else (∃ nn25, wp_X9_need_25 ki nd Post nn25 x1 x2 (1 : Int32) J4))))

set_option maxRecDepth 100000 in
set_option maxHeartbeats 4000000 in
theorem t_X9_need_25 {f : Fx} {g : Gm} {nd : Nat} {Post : Int32 → Mm → Prop}  (hC : Cx f cX9_need 4 RX9 wsX9_need rm_X9_need) (hG : shP g nd) (hR : RtI f cX9_need (fun r u => u.1 = g ∧ Post r u.2))  : ∀ (nn25 : Nat) (x1 : Int32) (x2 : Int32) (x3 : Int32) (I : Mm) , wp_X9_need_25 (gK g) nd  Post nn25 x1 x2 x3 I → PW f 0 0 g I 25 [(0, .ref (gA g 0)), (1, .int x1), (2, .int x2), (3, .int x3)] [] := by
  intro nn25
  induction nn25 with
  | zero =>
    intro x1 x2 x3 I  hw
    exact absurd hw id
  | succ nn25 ih =>
    intro x1 x2 x3 I  hw
    unfold wp_X9_need_25 at hw
    refine r_iload_n hC dX9_need_25 rfl rfl (j := 3) rfl ?_
    refine r_bipush hC (v := (8 : Int32)) dX9_need_26 rfl (by decide) ?_
    refine r_icmp_gt hC (tgt := 49) dX9_need_28 rfl (by decide) hw (fun hw => ?_) (fun hw => ?_)
    · refine r_bipush hC (v := (-9 : Int32)) dX9_need_49 rfl (by decide) ?_
      exact r_retI hC hR ⟨rfl, rfl⟩ dX9_need_51 hw
    · refine r_aload_n hC dX9_need_31 rfl rfl (j := 0) rfl ?_
      refine r_iload_n hC dX9_need_32 rfl rfl (j := 1) rfl ?_
      refine r_iload_n hC dX9_need_33 rfl rfl (j := 3) rfl ?_
      refine r_callI hC (a_V hC (k := 9) (c_X9_missesBy hG hw) ci_X9_missesBy gX9_need_X9_missesBy rfl ⟨Nat.le_of_ble_eq_true rfl, Nat.le_of_ble_eq_true rfl⟩ ⟨Nat.le_of_ble_eq_true rfl, Nat.le_of_ble_eq_true rfl⟩ rfl (by decide) hG.o.1 (List.mem_singleton.mp hG.o.2) rfl rfl (Nat.le_of_ble_eq_true rfl) dX9_need_34) ⟨rfl, rfl⟩ rfl (fun r5 J6 hw => ?_)
      refine r_iload_n hC dX9_need_37 rfl rfl (j := 2) rfl ?_
      refine r_icmp_gt hC (tgt := 43) dX9_need_38 rfl (by decide) hw (fun hw => ?_) (fun hw => ?_)
      · refine r_iinc hC (k := 1) (lv' := [(3, .int (x3 + 1)), (0, .ref (gA g 0)), (1, .int x1), (2, .int x2)]) dX9_need_43 rfl (j := 3) rfl (by decide) (by decide) rfl ?_
        refine r_goto hC (tgt := 25) dX9_need_46 (by decide) ?_
        exact r_sub (lv' := [(0, .ref (gA g 0)), (1, .int x1), (2, .int x2), (3, .int (x3 + 1))]) [1, 2, 3, 0] rfl (ih _ _ _ _ hw)
      · refine r_iload_n hC dX9_need_41 rfl rfl (j := 3) rfl ?_
        exact r_retI hC hR ⟨rfl, rfl⟩ dX9_need_42 hw
set_option maxRecDepth 100000 in
set_option maxHeartbeats 4000000 in
theorem t_X9_need_0 {f : Fx} {g : Gm} {nd : Nat} {Post : Int32 → Mm → Prop} {x1 : Int32} {x2 : Int32} {I : Mm} (hC : Cx f cX9_need 4 RX9 wsX9_need rm_X9_need) (hG : shP g nd) (hR : RtI f cX9_need (fun r u => u.1 = g ∧ Post r u.2)) (hw : wp_X9_need (gK g) nd x1 x2 I Post) : PW f 0 0 g I 0 [(0, .ref (gA g 0)), (1, .int x1), (2, .int x2)] [] := by
  unfold wp_X9_need at hw
  refine r_aload_n hC dX9_need_0 rfl rfl (j := 0) rfl ?_
  refine r_iload_n hC dX9_need_1 rfl rfl (j := 1) rfl ?_
  refine r_callI hC (a_V hC (k := 9) (c_X9_isDesk hG hw) ci_X9_isDesk gX9_need_X9_isDesk rfl ⟨Nat.le_of_ble_eq_true rfl, Nat.le_of_ble_eq_true rfl⟩ ⟨Nat.le_of_ble_eq_true rfl, Nat.le_of_ble_eq_true rfl⟩ rfl (by decide) hG.o.1 (List.mem_singleton.mp hG.o.2) rfl rfl (Nat.le_of_ble_eq_true rfl) dX9_need_2) ⟨rfl, rfl⟩ rfl (fun r1 J2 hw => ?_)
  refine r_if_ne hC (tgt := 10) dX9_need_5 rfl (by decide) hw (fun hw => ?_) (fun hw => ?_)
  · refine r_iload_n hC dX9_need_10 rfl rfl (j := 2) rfl ?_
    refine r_iconst hC (v := (0 : Int32)) dX9_need_11 rfl (by decide) ?_
    refine r_bipush hC (v := (24 : Int32)) dX9_need_12 rfl (by decide) ?_
    refine r_callI hC (a_S hC (c_X9_isWithin  hw) ci_X9_isWithin gX9_need_X9_isWithin ⟨Nat.le_of_ble_eq_true rfl, Nat.le_of_ble_eq_true rfl⟩ ⟨Nat.le_of_ble_eq_true rfl, Nat.le_of_ble_eq_true rfl⟩ rfl rfl (Nat.le_of_ble_eq_true rfl) dX9_need_14) ⟨rfl, rfl⟩ rfl (fun r3 J4 hw => ?_)
    refine r_if_ne hC (tgt := 23) dX9_need_17 rfl (by decide) hw (fun hw => ?_) (fun hw => ?_)
    · refine r_iconst hC (v := (1 : Int32)) dX9_need_23 rfl (by decide) ?_
      refine r_istore_n hC (lv' := [(3, .int (1 : Int32)), (0, .ref (gA g 0)), (1, .int x1), (2, .int x2)]) dX9_need_24 rfl rfl (by decide) rfl ?_
      obtain ⟨nn25, hw⟩ := hw
      exact r_sub (lv' := [(0, .ref (gA g 0)), (1, .int x1), (2, .int x2), (3, .int (1 : Int32))]) [1, 2, 3, 0] rfl ((t_X9_need_25 hC hG hR nn25 _ _ _ _ hw))
    · refine r_bipush hC (v := (-2 : Int32)) dX9_need_20 rfl (by decide) ?_
      exact r_retI hC hR ⟨rfl, rfl⟩ dX9_need_22 hw
  · refine r_iconst hC (v := (-1 : Int32)) dX9_need_8 rfl (by decide) ?_
    exact r_retI hC hR ⟨rfl, rfl⟩ dX9_need_9 hw
set_option maxRecDepth 100000 in
theorem c_X9_need {l : Launch} {x : Gx} {g : Gm} {nd : Nat} {x1 : Int32} {x2 : Int32} {I : Mm} {Post : Int32 → Mm → Prop} (hG : shP g nd) (hw : wp_X9_need (gK g) nd x1 x2 I Post) : KI l x yX9_need wsX9_need rm_X9_need g I [.ref (gA g 0), .int x1, .int x2] (fun r u => u.1 = g ∧ Post r u.2) := KI_of (by decide) rfl rfl (Nat.le_of_ble_eq_true rfl) (fun f hC _ _ hR => t_X9_need_0 hC hG hR hw)

/-! X9_fewest -/
abbrev rm_X9_fewest : Room := { frames := 3, cells := 0, slots := 0, locals := 74 }
theorem ci_X9_fewest : CI yX9_fewest wsX9_fewest cX9_fewest 2 (some .int) 1 := ⟨⟨_, rfl⟩, by decide, by decide, by decide +kernel⟩
def wp_X9_fewest (ki : Nat → Nat) (nd : Nat) (x1 : Int32) (I : Mm) (Post : Int32 → Mm → Prop) : Prop := wp_X9_hasRoom ki nd I (fun r1 J2 => if r1 = 0 then (Post (-3 : Int32) J2) else (wp_X9_isWithin x1 (1 : Int32) (8 : Int32) J2 (fun r3 J4 => if r3 = 0 then (Post (-2 : Int32) J4) else (wp_X1_follow x1 J4 (fun J6 => Post (J6 10 1) J6)))))
set_option maxRecDepth 20000 in
theorem uw_X9_fewest_9 : ∀ w ∈ u_ws RX9 TX9 11, w ∈ wsX9_fewest := by decide +kernel
set_option maxRecDepth 20000 in
theorem ffg_X9_fewest_43 : ∀ k ∈ ([9] : List Nat), FF wsX9_fewest RX9 43 k 5 ∧ fR k 5 = true := List.forall_mem_cons.mpr ⟨⟨⟨RX9, TX9, 11, "PageDesks", rfl, rfl, by decide, by decide, uw_X9_fewest_9, (List.mem_of_getElem? (i := 1) rfl), Or.inl rfl⟩, rfl⟩, fun _ h => absurd h List.not_mem_nil⟩
set_option maxRecDepth 20000 in
theorem ffg_X9_fewest_36 : ∀ k ∈ ([9] : List Nat), FF wsX9_fewest RX9 36 k 4 ∧ fR k 4 = true := List.forall_mem_cons.mpr ⟨⟨⟨RX9, TX9, 11, "PageDesks", rfl, rfl, by decide, by decide, uw_X9_fewest_9, (List.mem_of_getElem? (i := 2) rfl), Or.inl rfl⟩, rfl⟩, fun _ h => absurd h List.not_mem_nil⟩
set_option maxRecDepth 20000 in
theorem uw_X9_fewest_1 : ∀ w ∈ u_ws RX1 TX1 2, w ∈ wsX9_fewest := by decide +kernel
set_option maxRecDepth 20000 in
theorem ffg_X9_fewest_177 : ∀ k ∈ ([1] : List Nat), FF wsX9_fewest RX9 177 k 1 ∧ fR k 1 = false := List.forall_mem_cons.mpr ⟨⟨⟨RX1, TX1, 2, "PageDesks$Latest", rfl, rfl, by decide, by decide, uw_X9_fewest_1, (List.mem_of_getElem? (i := 3) rfl), Or.inl rfl⟩, rfl⟩, fun _ h => absurd h List.not_mem_nil⟩
set_option maxRecDepth 100000 in
set_option maxHeartbeats 4000000 in
theorem t_X9_fewest_0 {f : Fx} {g : Gm} {nd : Nat} {Post : Int32 → Mm → Prop} {x1 : Int32} {I : Mm} (hC : Cx f cX9_fewest 2 RX9 wsX9_fewest rm_X9_fewest) (hG : shP g nd) (hR : RtI f cX9_fewest (fun r u => u.1 = g ∧ Post r u.2)) (hw : wp_X9_fewest (gK g) nd x1 I Post) : PW f 0 0 g I 0 [(0, .ref (gA g 0)), (1, .int x1)] [] := by
  unfold wp_X9_fewest at hw
  refine r_aload_n hC dX9_fewest_0 rfl rfl (j := 0) rfl ?_
  refine r_callI hC (a_V hC (k := 9) (c_X9_hasRoom hG hw) ci_X9_hasRoom gX9_fewest_X9_hasRoom rfl ⟨Nat.le_of_ble_eq_true rfl, Nat.le_of_ble_eq_true rfl⟩ ⟨Nat.le_of_ble_eq_true rfl, Nat.le_of_ble_eq_true rfl⟩ rfl (by decide) hG.o.1 (List.mem_singleton.mp hG.o.2) rfl rfl (Nat.le_of_ble_eq_true rfl) dX9_fewest_1) ⟨rfl, rfl⟩ rfl (fun r1 J2 hw => ?_)
  refine r_if_ne hC (tgt := 10) dX9_fewest_4 rfl (by decide) hw (fun hw => ?_) (fun hw => ?_)
  · refine r_iload_n hC dX9_fewest_10 rfl rfl (j := 1) rfl ?_
    refine r_iconst hC (v := (1 : Int32)) dX9_fewest_11 rfl (by decide) ?_
    refine r_bipush hC (v := (8 : Int32)) dX9_fewest_12 rfl (by decide) ?_
    refine r_callI hC (a_S hC (c_X9_isWithin  hw) ci_X9_isWithin gX9_fewest_X9_isWithin ⟨Nat.le_of_ble_eq_true rfl, Nat.le_of_ble_eq_true rfl⟩ ⟨Nat.le_of_ble_eq_true rfl, Nat.le_of_ble_eq_true rfl⟩ rfl rfl (Nat.le_of_ble_eq_true rfl) dX9_fewest_14) ⟨rfl, rfl⟩ rfl (fun r3 J4 hw => ?_)
    refine r_if_ne hC (tgt := 23) dX9_fewest_17 rfl (by decide) hw (fun hw => ?_) (fun hw => ?_)
    · refine r_aload_n hC dX9_fewest_23 rfl rfl (j := 0) rfl ?_
      refine r_getR hC dX9_fewest_24 rfl hG.o.1 hG.o.2 ffg_X9_fewest_43 hG.r5 ?_
      refine r_aload_n hC dX9_fewest_27 rfl rfl (j := 0) rfl ?_
      refine r_getR hC dX9_fewest_28 rfl hG.o.1 hG.o.2 ffg_X9_fewest_36 hG.r4 ?_
      refine r_iload_n hC dX9_fewest_31 rfl rfl (j := 1) rfl ?_
      refine r_callV hC (a_V hC (k := 1) (c_X1_follow hG.e hG.n hw) ci_X1_follow gX9_fewest_X1_follow rfl ⟨Nat.le_of_ble_eq_true rfl, Nat.le_of_ble_eq_true rfl⟩ ⟨Nat.le_of_ble_eq_true rfl, Nat.le_of_ble_eq_true rfl⟩ rfl (by decide) (hG.e).1.1 (List.mem_singleton.mp (hG.e).1.2) rfl rfl (Nat.le_of_ble_eq_true rfl) dX9_fewest_32) ⟨rfl, rfl⟩ rfl (fun J6 hw => ?_)
      refine r_aload_n hC dX9_fewest_35 rfl rfl (j := 0) rfl ?_
      refine r_getR hC dX9_fewest_36 rfl hG.o.1 hG.o.2 ffg_X9_fewest_43 hG.r5 ?_
      refine r_getI hC dX9_fewest_39 rfl (hG.e).1.1 (hG.e).1.2 ffg_X9_fewest_177 ?_
      exact r_retI hC hR ⟨rfl, rfl⟩ dX9_fewest_42 hw
    · refine r_bipush hC (v := (-2 : Int32)) dX9_fewest_20 rfl (by decide) ?_
      exact r_retI hC hR ⟨rfl, rfl⟩ dX9_fewest_22 hw
  · refine r_bipush hC (v := (-3 : Int32)) dX9_fewest_7 rfl (by decide) ?_
    exact r_retI hC hR ⟨rfl, rfl⟩ dX9_fewest_9 hw
set_option maxRecDepth 100000 in
theorem c_X9_fewest {l : Launch} {x : Gx} {g : Gm} {nd : Nat} {x1 : Int32} {I : Mm} {Post : Int32 → Mm → Prop} (hG : shP g nd) (hw : wp_X9_fewest (gK g) nd x1 I Post) : KI l x yX9_fewest wsX9_fewest rm_X9_fewest g I [.ref (gA g 0), .int x1] (fun r u => u.1 = g ∧ Post r u.2) := KI_of (by decide) rfl rfl (Nat.le_of_ble_eq_true rfl) (fun f hC _ _ hR => t_X9_fewest_0 hC hG hR hw)

/-! X9_latest -/
abbrev rm_X9_latest : Room := { frames := 3, cells := 0, slots := 0, locals := 74 }
theorem ci_X9_latest : CI yX9_latest wsX9_latest cX9_latest 3 (some .int) 2 := ⟨⟨_, rfl⟩, by decide, by decide, by decide +kernel⟩
def wp_X9_latest (ki : Nat → Nat) (nd : Nat) (x1 : Int32) (x2 : Int32) (I : Mm) (Post : Int32 → Mm → Prop) : Prop := wp_X2_has x2 I (fun r1 J2 => if r1 = 0 then (Post (-1 : Int32) J2) else (wp_X9_isWithin x1 (1 : Int32) (8 : Int32) J2 (fun r3 J4 => if r3 = 0 then (Post (-2 : Int32) J4) else (wp_X1_follow x1 J4 (fun J6 => vp_in x2 24 ∧ (Post (J6 11 x2.toNatClampNeg) J6))))))
set_option maxRecDepth 20000 in
theorem uw_X9_latest_9 : ∀ w ∈ u_ws RX9 TX9 11, w ∈ wsX9_latest := by decide +kernel
set_option maxRecDepth 20000 in
theorem ffg_X9_latest_36 : ∀ k ∈ ([9] : List Nat), FF wsX9_latest RX9 36 k 4 ∧ fR k 4 = true := List.forall_mem_cons.mpr ⟨⟨⟨RX9, TX9, 11, "PageDesks", rfl, rfl, by decide, by decide, uw_X9_latest_9, (List.mem_of_getElem? (i := 1) rfl), Or.inl rfl⟩, rfl⟩, fun _ h => absurd h List.not_mem_nil⟩
set_option maxRecDepth 20000 in
theorem ffg_X9_latest_43 : ∀ k ∈ ([9] : List Nat), FF wsX9_latest RX9 43 k 5 ∧ fR k 5 = true := List.forall_mem_cons.mpr ⟨⟨⟨RX9, TX9, 11, "PageDesks", rfl, rfl, by decide, by decide, uw_X9_latest_9, (List.mem_of_getElem? (i := 2) rfl), Or.inl rfl⟩, rfl⟩, fun _ h => absurd h List.not_mem_nil⟩
set_option maxRecDepth 20000 in
theorem uw_X9_latest_1 : ∀ w ∈ u_ws RX1 TX1 2, w ∈ wsX9_latest := by decide +kernel
set_option maxRecDepth 20000 in
theorem ffg_X9_latest_178 : ∀ k ∈ ([1] : List Nat), FF wsX9_latest RX9 178 k 0 ∧ fR k 0 = true := List.forall_mem_cons.mpr ⟨⟨⟨RX1, TX1, 2, "PageDesks$Latest", rfl, rfl, by decide, by decide, uw_X9_latest_1, (List.mem_of_getElem? (i := 3) rfl), Or.inl rfl⟩, rfl⟩, fun _ h => absurd h List.not_mem_nil⟩
set_option maxRecDepth 100000 in
set_option maxHeartbeats 4000000 in
theorem t_X9_latest_0 {f : Fx} {g : Gm} {nd : Nat} {Post : Int32 → Mm → Prop} {x1 : Int32} {x2 : Int32} {I : Mm} (hC : Cx f cX9_latest 3 RX9 wsX9_latest rm_X9_latest) (hG : shP g nd) (hR : RtI f cX9_latest (fun r u => u.1 = g ∧ Post r u.2)) (hw : wp_X9_latest (gK g) nd x1 x2 I Post) : PW f 0 0 g I 0 [(0, .ref (gA g 0)), (1, .int x1), (2, .int x2)] [] := by
  unfold wp_X9_latest at hw
  refine r_aload_n hC dX9_latest_0 rfl rfl (j := 0) rfl ?_
  refine r_getR hC dX9_latest_1 rfl hG.o.1 hG.o.2 ffg_X9_latest_36 hG.r4 ?_
  refine r_iload_n hC dX9_latest_4 rfl rfl (j := 2) rfl ?_
  refine r_callI hC (a_V hC (k := 2) (c_X2_has hG.n hw) ci_X2_has gX9_latest_X2_has rfl ⟨Nat.le_of_ble_eq_true rfl, Nat.le_of_ble_eq_true rfl⟩ ⟨Nat.le_of_ble_eq_true rfl, Nat.le_of_ble_eq_true rfl⟩ rfl (by decide) (hG.n).1.1 (List.mem_singleton.mp (hG.n).1.2) rfl rfl (Nat.le_of_ble_eq_true rfl) dX9_latest_5) ⟨rfl, rfl⟩ rfl (fun r1 J2 hw => ?_)
  refine r_if_ne hC (tgt := 13) dX9_latest_8 rfl (by decide) hw (fun hw => ?_) (fun hw => ?_)
  · refine r_iload_n hC dX9_latest_13 rfl rfl (j := 1) rfl ?_
    refine r_iconst hC (v := (1 : Int32)) dX9_latest_14 rfl (by decide) ?_
    refine r_bipush hC (v := (8 : Int32)) dX9_latest_15 rfl (by decide) ?_
    refine r_callI hC (a_S hC (c_X9_isWithin  hw) ci_X9_isWithin gX9_latest_X9_isWithin ⟨Nat.le_of_ble_eq_true rfl, Nat.le_of_ble_eq_true rfl⟩ ⟨Nat.le_of_ble_eq_true rfl, Nat.le_of_ble_eq_true rfl⟩ rfl rfl (Nat.le_of_ble_eq_true rfl) dX9_latest_17) ⟨rfl, rfl⟩ rfl (fun r3 J4 hw => ?_)
    refine r_if_ne hC (tgt := 26) dX9_latest_20 rfl (by decide) hw (fun hw => ?_) (fun hw => ?_)
    · refine r_aload_n hC dX9_latest_26 rfl rfl (j := 0) rfl ?_
      refine r_getR hC dX9_latest_27 rfl hG.o.1 hG.o.2 ffg_X9_latest_43 hG.r5 ?_
      refine r_aload_n hC dX9_latest_30 rfl rfl (j := 0) rfl ?_
      refine r_getR hC dX9_latest_31 rfl hG.o.1 hG.o.2 ffg_X9_latest_36 hG.r4 ?_
      refine r_iload_n hC dX9_latest_34 rfl rfl (j := 1) rfl ?_
      refine r_callV hC (a_V hC (k := 1) (c_X1_follow hG.e hG.n hw) ci_X1_follow gX9_latest_X1_follow rfl ⟨Nat.le_of_ble_eq_true rfl, Nat.le_of_ble_eq_true rfl⟩ ⟨Nat.le_of_ble_eq_true rfl, Nat.le_of_ble_eq_true rfl⟩ rfl (by decide) (hG.e).1.1 (List.mem_singleton.mp (hG.e).1.2) rfl rfl (Nat.le_of_ble_eq_true rfl) dX9_latest_35) ⟨rfl, rfl⟩ rfl (fun J6 hw => ?_)
      refine r_aload_n hC dX9_latest_38 rfl rfl (j := 0) rfl ?_
      refine r_getR hC dX9_latest_39 rfl hG.o.1 hG.o.2 ffg_X9_latest_43 hG.r5 ?_
      refine r_getR hC dX9_latest_42 rfl (hG.e).1.1 (hG.e).1.2 ffg_X9_latest_178 (hG.e).2.2 ?_
      refine r_iload_n hC dX9_latest_45 rfl rfl (j := 2) rfl ?_
      obtain ⟨hi, hw⟩ := hw
      refine r_iald hC dX9_latest_46 rfl ((hG.e).2.1).1 ((hG.e).2.1).2.1 (by rw [((hG.e).2.1).2.2]; exact hi) ?_
      exact r_retI hC hR ⟨rfl, rfl⟩ dX9_latest_47 hw
    · refine r_bipush hC (v := (-2 : Int32)) dX9_latest_23 rfl (by decide) ?_
      exact r_retI hC hR ⟨rfl, rfl⟩ dX9_latest_25 hw
  · refine r_iconst hC (v := (-1 : Int32)) dX9_latest_11 rfl (by decide) ?_
    exact r_retI hC hR ⟨rfl, rfl⟩ dX9_latest_12 hw
set_option maxRecDepth 100000 in
theorem c_X9_latest {l : Launch} {x : Gx} {g : Gm} {nd : Nat} {x1 : Int32} {x2 : Int32} {I : Mm} {Post : Int32 → Mm → Prop} (hG : shP g nd) (hw : wp_X9_latest (gK g) nd x1 x2 I Post) : KI l x yX9_latest wsX9_latest rm_X9_latest g I [.ref (gA g 0), .int x1, .int x2] (fun r u => u.1 = g ∧ Post r u.2) := KI_of (by decide) rfl rfl (Nat.le_of_ble_eq_true rfl) (fun f hC _ _ hR => t_X9_latest_0 hC hG hR hw)
