/-! X9_depth -/
abbrev rm_X9_depth : Room := { frames := 2, cells := 0, slots := 0, locals := 43 }
theorem ci_X9_depth : CI yX9_depth wsX9_depth cX9_depth 3 (some .int) 1 := ⟨⟨_, rfl⟩, by decide, by decide, by decide +kernel⟩
def wp_X9_depth (ki : Nat → Nat) (nd : Nat) (x1 : Int32) (I : Mm) (Post : Int32 → Mm → Prop) : Prop := wp_X2_has x1 I (fun r1 J2 => if r1 = 0 then (Post (-1 : Int32) J2) else (wp_X2_sameAhead x1 J2 (fun r3 J4 => if r3 = (-9 : Int32) then (Post (-9 : Int32) J4) else (wp_X2_pagesOf r3 x1 J4 (fun r5 J6 => wp_J6_bitCount_0f7a4 r5 J6 (fun r7 J8 => Post r7 J8))))))
set_option maxRecDepth 20000 in
theorem uw_X9_depth_9 : ∀ w ∈ u_ws RX9 TX9 11, w ∈ wsX9_depth := by decide +kernel
set_option maxRecDepth 20000 in
theorem ffg_X9_depth_36 : ∀ k ∈ ([9] : List Nat), FF wsX9_depth RX9 36 k 4 ∧ fR k 4 = true := List.forall_mem_cons.mpr ⟨⟨⟨RX9, TX9, 11, "PageDesks", rfl, rfl, by decide, by decide, uw_X9_depth_9, (List.mem_of_getElem? (i := 1) rfl), Or.inl rfl⟩, rfl⟩, fun _ h => absurd h List.not_mem_nil⟩
set_option maxRecDepth 100000 in
set_option maxHeartbeats 4000000 in
theorem t_X9_depth_0 {f : Fx} {g : Gm} {nd : Nat} {Post : Int32 → Mm → Prop} {x1 : Int32} {I : Mm} (hC : Cx f cX9_depth 3 RX9 wsX9_depth rm_X9_depth) (hG : shP g nd) (hR : RtI f cX9_depth (fun r u => u.1 = g ∧ Post r u.2)) (hw : wp_X9_depth (gK g) nd x1 I Post) : PW f 0 0 g I 0 [(0, .ref (gA g 0)), (1, .int x1)] [] := by
  unfold wp_X9_depth at hw
  refine r_aload_n hC dX9_depth_0 rfl rfl (j := 0) rfl ?_
  refine r_getR hC dX9_depth_1 rfl hG.o.1 hG.o.2 ffg_X9_depth_36 hG.r4 ?_
  refine r_iload_n hC dX9_depth_4 rfl rfl (j := 1) rfl ?_
  refine r_callI hC (a_V hC (k := 2) (c_X2_has hG.n hw) ci_X2_has gX9_depth_X2_has rfl ⟨Nat.le_of_ble_eq_true rfl, Nat.le_of_ble_eq_true rfl⟩ ⟨Nat.le_of_ble_eq_true rfl, Nat.le_of_ble_eq_true rfl⟩ rfl (by decide) (hG.n).1.1 (List.mem_singleton.mp (hG.n).1.2) rfl rfl (Nat.le_of_ble_eq_true rfl) dX9_depth_5) ⟨rfl, rfl⟩ rfl (fun r1 J2 hw => ?_)
  refine r_if_ne hC (tgt := 13) dX9_depth_8 rfl (by decide) hw (fun hw => ?_) (fun hw => ?_)
  · refine r_aload_n hC dX9_depth_13 rfl rfl (j := 0) rfl ?_
    refine r_getR hC dX9_depth_14 rfl hG.o.1 hG.o.2 ffg_X9_depth_36 hG.r4 ?_
    refine r_iload_n hC dX9_depth_17 rfl rfl (j := 1) rfl ?_
    refine r_callI hC (a_V hC (k := 2) (c_X2_sameAhead hG.n hw) ci_X2_sameAhead gX9_depth_X2_sameAhead rfl ⟨Nat.le_of_ble_eq_true rfl, Nat.le_of_ble_eq_true rfl⟩ ⟨Nat.le_of_ble_eq_true rfl, Nat.le_of_ble_eq_true rfl⟩ rfl (by decide) (hG.n).1.1 (List.mem_singleton.mp (hG.n).1.2) rfl rfl (Nat.le_of_ble_eq_true rfl) dX9_depth_18) ⟨rfl, rfl⟩ rfl (fun r3 J4 hw => ?_)
    refine r_istore_n hC (lv' := [(2, .int r3), (0, .ref (gA g 0)), (1, .int x1)]) dX9_depth_21 rfl rfl (by decide) rfl ?_
    refine r_iload_n hC dX9_depth_22 rfl rfl (j := 0) rfl ?_
    refine r_bipush hC (v := (-9 : Int32)) dX9_depth_23 rfl (by decide) ?_
    refine r_icmp_ne hC (tgt := 33) dX9_depth_25 rfl (by decide) hw (fun hw => ?_) (fun hw => ?_)
    · refine r_aload_n hC dX9_depth_33 rfl rfl (j := 1) rfl ?_
      refine r_getR hC dX9_depth_34 rfl hG.o.1 hG.o.2 ffg_X9_depth_36 hG.r4 ?_
      refine r_iload_n hC dX9_depth_37 rfl rfl (j := 0) rfl ?_
      refine r_iload_n hC dX9_depth_38 rfl rfl (j := 2) rfl ?_
      refine r_callI hC (a_V hC (k := 2) (c_X2_pagesOf hG.n hw) ci_X2_pagesOf gX9_depth_X2_pagesOf rfl ⟨Nat.le_of_ble_eq_true rfl, Nat.le_of_ble_eq_true rfl⟩ ⟨Nat.le_of_ble_eq_true rfl, Nat.le_of_ble_eq_true rfl⟩ rfl (by decide) (hG.n).1.1 (List.mem_singleton.mp (hG.n).1.2) rfl rfl (Nat.le_of_ble_eq_true rfl) dX9_depth_39) ⟨rfl, rfl⟩ rfl (fun r5 J6 hw => ?_)
      refine r_callI hC (a_S hC (c_J6_bitCount_0f7a4  hw) ci_J6_bitCount_0f7a4 gX9_depth_J6_bitCount_0f7a4 ⟨Nat.le_of_ble_eq_true rfl, Nat.le_of_ble_eq_true rfl⟩ ⟨Nat.le_of_ble_eq_true rfl, Nat.le_of_ble_eq_true rfl⟩ rfl rfl (Nat.le_of_ble_eq_true rfl) dX9_depth_42) ⟨rfl, rfl⟩ rfl (fun r7 J8 hw => ?_)
      exact r_retI hC hR ⟨rfl, rfl⟩ dX9_depth_45 hw
    · refine r_bipush hC (v := (-9 : Int32)) dX9_depth_28 rfl (by decide) ?_
      refine r_goto hC (tgt := 45) dX9_depth_30 (by decide) ?_
      exact r_retI hC hR ⟨rfl, rfl⟩ dX9_depth_45 hw
  · refine r_iconst hC (v := (-1 : Int32)) dX9_depth_11 rfl (by decide) ?_
    exact r_retI hC hR ⟨rfl, rfl⟩ dX9_depth_12 hw
set_option maxRecDepth 100000 in
theorem c_X9_depth {l : Launch} {x : Gx} {g : Gm} {nd : Nat} {x1 : Int32} {I : Mm} {Post : Int32 → Mm → Prop} (hG : shP g nd) (hw : wp_X9_depth (gK g) nd x1 I Post) : KI l x yX9_depth wsX9_depth rm_X9_depth g I [.ref (gA g 0), .int x1] (fun r u => u.1 = g ∧ Post r u.2) := KI_of (by decide) rfl rfl (Nat.le_of_ble_eq_true rfl) (fun f hC _ _ hR => t_X9_depth_0 hC hG hR hw)

/-! X9_work -/
abbrev rm_X9_work : Room := { frames := 2, cells := 0, slots := 0, locals := 48 }
theorem ci_X9_work : CI yX9_work wsX9_work cX9_work 3 (some .int) 2 := ⟨⟨_, rfl⟩, by decide, by decide, by decide +kernel⟩
def wp_X9_work (ki : Nat → Nat) (nd : Nat) (x1 : Int32) (x2 : Int32) (I : Mm) (Post : Int32 → Mm → Prop) : Prop := wp_X2_has x1 I (fun r1 J2 => if r1 = 0 then (Post (-1 : Int32) J2) else (wp_X9_isWithin x2 (1 : Int32) (24 : Int32) J2 (fun r3 J4 => if r3 = 0 then (Post (-2 : Int32) J4) else (wp_X2_pagesOf (if (0 : Int32) < ((x1 - x2) + (1 : Int32)) then ((x1 - x2) + (1 : Int32)) else (0 : Int32)) x1 J4 (fun r5 J6 => Post r5 J6)))))
set_option maxRecDepth 20000 in
theorem uw_X9_work_9 : ∀ w ∈ u_ws RX9 TX9 11, w ∈ wsX9_work := by decide +kernel
set_option maxRecDepth 20000 in
theorem ffg_X9_work_36 : ∀ k ∈ ([9] : List Nat), FF wsX9_work RX9 36 k 4 ∧ fR k 4 = true := List.forall_mem_cons.mpr ⟨⟨⟨RX9, TX9, 11, "PageDesks", rfl, rfl, by decide, by decide, uw_X9_work_9, (List.mem_of_getElem? (i := 1) rfl), Or.inl rfl⟩, rfl⟩, fun _ h => absurd h List.not_mem_nil⟩
set_option maxRecDepth 100000 in
set_option maxHeartbeats 4000000 in
theorem t_X9_work_0 {f : Fx} {g : Gm} {nd : Nat} {Post : Int32 → Mm → Prop} {x1 : Int32} {x2 : Int32} {I : Mm} (hC : Cx f cX9_work 3 RX9 wsX9_work rm_X9_work) (hG : shP g nd) (hR : RtI f cX9_work (fun r u => u.1 = g ∧ Post r u.2)) (hw : wp_X9_work (gK g) nd x1 x2 I Post) : PW f 0 0 g I 0 [(0, .ref (gA g 0)), (1, .int x1), (2, .int x2)] [] := by
  unfold wp_X9_work at hw
  refine r_aload_n hC dX9_work_0 rfl rfl (j := 0) rfl ?_
  refine r_getR hC dX9_work_1 rfl hG.o.1 hG.o.2 ffg_X9_work_36 hG.r4 ?_
  refine r_iload_n hC dX9_work_4 rfl rfl (j := 1) rfl ?_
  refine r_callI hC (a_V hC (k := 2) (c_X2_has hG.n hw) ci_X2_has gX9_work_X2_has rfl ⟨Nat.le_of_ble_eq_true rfl, Nat.le_of_ble_eq_true rfl⟩ ⟨Nat.le_of_ble_eq_true rfl, Nat.le_of_ble_eq_true rfl⟩ rfl (by decide) (hG.n).1.1 (List.mem_singleton.mp (hG.n).1.2) rfl rfl (Nat.le_of_ble_eq_true rfl) dX9_work_5) ⟨rfl, rfl⟩ rfl (fun r1 J2 hw => ?_)
  refine r_if_ne hC (tgt := 13) dX9_work_8 rfl (by decide) hw (fun hw => ?_) (fun hw => ?_)
  · refine r_iload_n hC dX9_work_13 rfl rfl (j := 2) rfl ?_
    refine r_iconst hC (v := (1 : Int32)) dX9_work_14 rfl (by decide) ?_
    refine r_bipush hC (v := (24 : Int32)) dX9_work_15 rfl (by decide) ?_
    refine r_callI hC (a_S hC (c_X9_isWithin  hw) ci_X9_isWithin gX9_work_X9_isWithin ⟨Nat.le_of_ble_eq_true rfl, Nat.le_of_ble_eq_true rfl⟩ ⟨Nat.le_of_ble_eq_true rfl, Nat.le_of_ble_eq_true rfl⟩ rfl rfl (Nat.le_of_ble_eq_true rfl) dX9_work_17) ⟨rfl, rfl⟩ rfl (fun r3 J4 hw => ?_)
    refine r_if_ne hC (tgt := 26) dX9_work_20 rfl (by decide) hw (fun hw => ?_) (fun hw => ?_)
    · refine r_aload_n hC dX9_work_26 rfl rfl (j := 0) rfl ?_
      refine r_getR hC dX9_work_27 rfl hG.o.1 hG.o.2 ffg_X9_work_36 hG.r4 ?_
      refine r_iconst hC (v := (0 : Int32)) dX9_work_30 rfl (by decide) ?_
      refine r_iload_n hC dX9_work_31 rfl rfl (j := 1) rfl ?_
      refine r_iload_n hC dX9_work_32 rfl rfl (j := 2) rfl ?_
      refine r_isub hC dX9_work_33 rfl ?_
      refine r_iconst hC (v := (1 : Int32)) dX9_work_34 rfl (by decide) ?_
      refine r_iadd hC dX9_work_35 rfl ?_
      refine r_mmax hC dX9_work_36 rfl (List.mem_of_getElem? (i := 2) rfl) (List.mem_of_getElem? (i := 3) rfl) (List.mem_of_getElem? (i := 4) rfl) (List.mem_of_getElem? (i := 5) rfl) (by decide) (Nat.le_of_ble_eq_true rfl) ⟨Nat.le_of_ble_eq_true rfl, Nat.le_of_ble_eq_true rfl⟩ ?_
      refine r_iload_n hC dX9_work_39 rfl rfl (j := 1) rfl ?_
      refine r_callI hC (a_V hC (k := 2) (c_X2_pagesOf hG.n hw) ci_X2_pagesOf gX9_work_X2_pagesOf rfl ⟨Nat.le_of_ble_eq_true rfl, Nat.le_of_ble_eq_true rfl⟩ ⟨Nat.le_of_ble_eq_true rfl, Nat.le_of_ble_eq_true rfl⟩ rfl (by decide) (hG.n).1.1 (List.mem_singleton.mp (hG.n).1.2) rfl rfl (Nat.le_of_ble_eq_true rfl) dX9_work_40) ⟨rfl, rfl⟩ rfl (fun r5 J6 hw => ?_)
      exact r_retI hC hR ⟨rfl, rfl⟩ dX9_work_43 hw
    · refine r_bipush hC (v := (-2 : Int32)) dX9_work_23 rfl (by decide) ?_
      exact r_retI hC hR ⟨rfl, rfl⟩ dX9_work_25 hw
  · refine r_iconst hC (v := (-1 : Int32)) dX9_work_11 rfl (by decide) ?_
    exact r_retI hC hR ⟨rfl, rfl⟩ dX9_work_12 hw
set_option maxRecDepth 100000 in
theorem c_X9_work {l : Launch} {x : Gx} {g : Gm} {nd : Nat} {x1 : Int32} {x2 : Int32} {I : Mm} {Post : Int32 → Mm → Prop} (hG : shP g nd) (hw : wp_X9_work (gK g) nd x1 x2 I Post) : KI l x yX9_work wsX9_work rm_X9_work g I [.ref (gA g 0), .int x1, .int x2] (fun r u => u.1 = g ∧ Post r u.2) := KI_of (by decide) rfl rfl (Nat.le_of_ble_eq_true rfl) (fun f hC _ _ hR => t_X9_work_0 hC hG hR hw)

/-! X9_reading -/
abbrev rm_X9_reading : Room := { frames := 2, cells := 0, slots := 0, locals := 43 }
theorem ci_X9_reading : CI yX9_reading wsX9_reading cX9_reading 4 (some .int) 3 := ⟨⟨_, rfl⟩, by decide, by decide, by decide +kernel⟩
def wp_X9_reading (ki : Nat → Nat) (nd : Nat) (x1 : Int32) (x2 : Int32) (x3 : Int32) (I : Mm) (Post : Int32 → Mm → Prop) : Prop := wp_X9_isDesk ki nd x1 I (fun r1 J2 => if r1 = 0 then (Post (-1 : Int32) J2) else (wp_X2_has x2 J2 (fun r3 J4 => if r3 = 0 then (Post (-1 : Int32) J4) else (wp_X9_isWithin x3 (0 : Int32) (1 : Int32) J4 (fun r5 J6 => if r5 = 0 then (Post (-2 : Int32) J6) else (if (J6 12 3) < (8 : Int32) then (wp_X4_append x1 x2 x3 J6 (fun J8 => Post ((J8 12 3) - (1 : Int32)) J8)) else (Post (-4 : Int32) J6)))))))
set_option maxRecDepth 20000 in
theorem uw_X9_reading_9 : ∀ w ∈ u_ws RX9 TX9 11, w ∈ wsX9_reading := by decide +kernel
set_option maxRecDepth 20000 in
theorem ffg_X9_reading_36 : ∀ k ∈ ([9] : List Nat), FF wsX9_reading RX9 36 k 4 ∧ fR k 4 = true := List.forall_mem_cons.mpr ⟨⟨⟨RX9, TX9, 11, "PageDesks", rfl, rfl, by decide, by decide, uw_X9_reading_9, (List.mem_of_getElem? (i := 1) rfl), Or.inl rfl⟩, rfl⟩, fun _ h => absurd h List.not_mem_nil⟩
set_option maxRecDepth 20000 in
theorem ffg_X9_reading_50 : ∀ k ∈ ([9] : List Nat), FF wsX9_reading RX9 50 k 6 ∧ fR k 6 = true := List.forall_mem_cons.mpr ⟨⟨⟨RX9, TX9, 11, "PageDesks", rfl, rfl, by decide, by decide, uw_X9_reading_9, (List.mem_of_getElem? (i := 2) rfl), Or.inl rfl⟩, rfl⟩, fun _ h => absurd h List.not_mem_nil⟩
set_option maxRecDepth 20000 in
theorem uw_X9_reading_4 : ∀ w ∈ u_ws RX4 TX4 4, w ∈ wsX9_reading := by decide +kernel
set_option maxRecDepth 20000 in
theorem ffg_X9_reading_161 : ∀ k ∈ ([4] : List Nat), FF wsX9_reading RX9 161 k 3 ∧ fR k 3 = false := List.forall_mem_cons.mpr ⟨⟨⟨RX4, TX4, 4, "PageDesks$Readings", rfl, rfl, by decide, by decide, uw_X9_reading_4, (List.mem_of_getElem? (i := 3) rfl), Or.inl rfl⟩, rfl⟩, fun _ h => absurd h List.not_mem_nil⟩
set_option maxRecDepth 100000 in
set_option maxHeartbeats 4000000 in
theorem t_X9_reading_0 {f : Fx} {g : Gm} {nd : Nat} {Post : Int32 → Mm → Prop} {x1 : Int32} {x2 : Int32} {x3 : Int32} {I : Mm} (hC : Cx f cX9_reading 4 RX9 wsX9_reading rm_X9_reading) (hG : shP g nd) (hR : RtI f cX9_reading (fun r u => u.1 = g ∧ Post r u.2)) (hw : wp_X9_reading (gK g) nd x1 x2 x3 I Post) : PW f 0 0 g I 0 [(0, .ref (gA g 0)), (1, .int x1), (2, .int x2), (3, .int x3)] [] := by
  unfold wp_X9_reading at hw
  refine r_aload_n hC dX9_reading_0 rfl rfl (j := 0) rfl ?_
  refine r_iload_n hC dX9_reading_1 rfl rfl (j := 1) rfl ?_
  refine r_callI hC (a_V hC (k := 9) (c_X9_isDesk hG hw) ci_X9_isDesk gX9_reading_X9_isDesk rfl ⟨Nat.le_of_ble_eq_true rfl, Nat.le_of_ble_eq_true rfl⟩ ⟨Nat.le_of_ble_eq_true rfl, Nat.le_of_ble_eq_true rfl⟩ rfl (by decide) hG.o.1 (List.mem_singleton.mp hG.o.2) rfl rfl (Nat.le_of_ble_eq_true rfl) dX9_reading_2) ⟨rfl, rfl⟩ rfl (fun r1 J2 hw => ?_)
  refine r_if_eq hC (tgt := 19) dX9_reading_5 rfl (by decide) hw (fun hw => ?_) (fun hw => ?_)
  · refine r_iconst hC (v := (-1 : Int32)) dX9_reading_19 rfl (by decide) ?_
    exact r_retI hC hR ⟨rfl, rfl⟩ dX9_reading_20 hw
  · refine r_aload_n hC dX9_reading_8 rfl rfl (j := 0) rfl ?_
    refine r_getR hC dX9_reading_9 rfl hG.o.1 hG.o.2 ffg_X9_reading_36 hG.r4 ?_
    refine r_iload_n hC dX9_reading_12 rfl rfl (j := 2) rfl ?_
    refine r_callI hC (a_V hC (k := 2) (c_X2_has hG.n hw) ci_X2_has gX9_reading_X2_has rfl ⟨Nat.le_of_ble_eq_true rfl, Nat.le_of_ble_eq_true rfl⟩ ⟨Nat.le_of_ble_eq_true rfl, Nat.le_of_ble_eq_true rfl⟩ rfl (by decide) (hG.n).1.1 (List.mem_singleton.mp (hG.n).1.2) rfl rfl (Nat.le_of_ble_eq_true rfl) dX9_reading_13) ⟨rfl, rfl⟩ rfl (fun r3 J4 hw => ?_)
    refine r_if_ne hC (tgt := 21) dX9_reading_16 rfl (by decide) hw (fun hw => ?_) (fun hw => ?_)
    · refine r_iload_n hC dX9_reading_21 rfl rfl (j := 3) rfl ?_
      refine r_iconst hC (v := (0 : Int32)) dX9_reading_22 rfl (by decide) ?_
      refine r_iconst hC (v := (1 : Int32)) dX9_reading_23 rfl (by decide) ?_
      refine r_callI hC (a_S hC (c_X9_isWithin  hw) ci_X9_isWithin gX9_reading_X9_isWithin ⟨Nat.le_of_ble_eq_true rfl, Nat.le_of_ble_eq_true rfl⟩ ⟨Nat.le_of_ble_eq_true rfl, Nat.le_of_ble_eq_true rfl⟩ rfl rfl (Nat.le_of_ble_eq_true rfl) dX9_reading_24) ⟨rfl, rfl⟩ rfl (fun r5 J6 hw => ?_)
      refine r_if_ne hC (tgt := 33) dX9_reading_27 rfl (by decide) hw (fun hw => ?_) (fun hw => ?_)
      · refine r_aload_n hC dX9_reading_33 rfl rfl (j := 0) rfl ?_
        refine r_getR hC dX9_reading_34 rfl hG.o.1 hG.o.2 ffg_X9_reading_50 hG.r6 ?_
        refine r_getI hC dX9_reading_37 rfl (hG.g).1.1 (hG.g).1.2 ffg_X9_reading_161 ?_
        refine r_bipush hC (v := (8 : Int32)) dX9_reading_40 rfl (by decide) ?_
        refine r_icmp_lt hC (tgt := 48) dX9_reading_42 rfl (by decide) hw (fun hw => ?_) (fun hw => ?_)
        · refine r_aload_n hC dX9_reading_48 rfl rfl (j := 0) rfl ?_
          refine r_getR hC dX9_reading_49 rfl hG.o.1 hG.o.2 ffg_X9_reading_50 hG.r6 ?_
          refine r_iload_n hC dX9_reading_52 rfl rfl (j := 1) rfl ?_
          refine r_iload_n hC dX9_reading_53 rfl rfl (j := 2) rfl ?_
          refine r_iload_n hC dX9_reading_54 rfl rfl (j := 3) rfl ?_
          refine r_callV hC (a_V hC (k := 4) (c_X4_append hG.g hw) ci_X4_append gX9_reading_X4_append rfl ⟨Nat.le_of_ble_eq_true rfl, Nat.le_of_ble_eq_true rfl⟩ ⟨Nat.le_of_ble_eq_true rfl, Nat.le_of_ble_eq_true rfl⟩ rfl (by decide) (hG.g).1.1 (List.mem_singleton.mp (hG.g).1.2) rfl rfl (Nat.le_of_ble_eq_true rfl) dX9_reading_55) ⟨rfl, rfl⟩ rfl (fun J8 hw => ?_)
          refine r_aload_n hC dX9_reading_58 rfl rfl (j := 0) rfl ?_
          refine r_getR hC dX9_reading_59 rfl hG.o.1 hG.o.2 ffg_X9_reading_50 hG.r6 ?_
          refine r_getI hC dX9_reading_62 rfl (hG.g).1.1 (hG.g).1.2 ffg_X9_reading_161 ?_
          refine r_iconst hC (v := (1 : Int32)) dX9_reading_65 rfl (by decide) ?_
          refine r_isub hC dX9_reading_66 rfl ?_
          exact r_retI hC hR ⟨rfl, rfl⟩ dX9_reading_67 hw
        · refine r_bipush hC (v := (-4 : Int32)) dX9_reading_45 rfl (by decide) ?_
          exact r_retI hC hR ⟨rfl, rfl⟩ dX9_reading_47 hw
      · refine r_bipush hC (v := (-2 : Int32)) dX9_reading_30 rfl (by decide) ?_
        exact r_retI hC hR ⟨rfl, rfl⟩ dX9_reading_32 hw
    · refine r_iconst hC (v := (-1 : Int32)) dX9_reading_19 rfl (by decide) ?_
      exact r_retI hC hR ⟨rfl, rfl⟩ dX9_reading_20 hw
set_option maxRecDepth 100000 in
theorem c_X9_reading {l : Launch} {x : Gx} {g : Gm} {nd : Nat} {x1 : Int32} {x2 : Int32} {x3 : Int32} {I : Mm} {Post : Int32 → Mm → Prop} (hG : shP g nd) (hw : wp_X9_reading (gK g) nd x1 x2 x3 I Post) : KI l x yX9_reading wsX9_reading rm_X9_reading g I [.ref (gA g 0), .int x1, .int x2, .int x3] (fun r u => u.1 = g ∧ Post r u.2) := KI_of (by decide) rfl rfl (Nat.le_of_ble_eq_true rfl) (fun f hC _ _ hR => t_X9_reading_0 hC hG hR hw)

/-! X9_back -/
abbrev rm_X9_back : Room := { frames := 1, cells := 0, slots := 0, locals := 22 }
theorem ci_X9_back : CI yX9_back wsX9_back cX9_back 2 (some .int) 1 := ⟨⟨_, rfl⟩, by decide, by decide, by decide +kernel⟩
def wp_X9_back (ki : Nat → Nat) (nd : Nat) (x1 : Int32) (I : Mm) (Post : Int32 → Mm → Prop) : Prop := wp_X9_isWithin x1 (0 : Int32) (I 12 3) I (fun r1 J2 => if r1 = 0 then (Post (-2 : Int32) J2) else (Post ((up2 J2 12 3 ((J2 12 3) - x1)) 12 3) (up2 J2 12 3 ((J2 12 3) - x1))))
set_option maxRecDepth 20000 in
theorem uw_X9_back_9 : ∀ w ∈ u_ws RX9 TX9 11, w ∈ wsX9_back := by decide +kernel
set_option maxRecDepth 20000 in
theorem ffg_X9_back_50 : ∀ k ∈ ([9] : List Nat), FF wsX9_back RX9 50 k 6 ∧ fR k 6 = true := List.forall_mem_cons.mpr ⟨⟨⟨RX9, TX9, 11, "PageDesks", rfl, rfl, by decide, by decide, uw_X9_back_9, (List.mem_of_getElem? (i := 1) rfl), Or.inl rfl⟩, rfl⟩, fun _ h => absurd h List.not_mem_nil⟩
set_option maxRecDepth 20000 in
theorem uw_X9_back_4 : ∀ w ∈ u_ws RX4 TX4 4, w ∈ wsX9_back := by decide +kernel
set_option maxRecDepth 20000 in
theorem ffg_X9_back_161 : ∀ k ∈ ([4] : List Nat), FF wsX9_back RX9 161 k 3 ∧ fR k 3 = false := List.forall_mem_cons.mpr ⟨⟨⟨RX4, TX4, 4, "PageDesks$Readings", rfl, rfl, by decide, by decide, uw_X9_back_4, (List.mem_of_getElem? (i := 2) rfl), Or.inl rfl⟩, rfl⟩, fun _ h => absurd h List.not_mem_nil⟩
set_option maxRecDepth 20000 in
theorem ffp_X9_back_161 : ∀ k ∈ ([4] : List Nat), FF wsX9_back RX9 161 k 3 ∧ fR k 3 = false ∧ FP k 3 := List.forall_mem_cons.mpr ⟨⟨⟨RX4, TX4, 4, "PageDesks$Readings", rfl, rfl, by decide, by decide, uw_X9_back_4, (List.mem_of_getElem? (i := 2) rfl), Or.inl rfl⟩, rfl, ⟨RX4, TX4, 4, tyX4, rfl, tyX4_ok, nmX4, rfl, rfl⟩⟩, fun _ h => absurd h List.not_mem_nil⟩
set_option maxRecDepth 100000 in
set_option maxHeartbeats 4000000 in
theorem t_X9_back_0 {f : Fx} {g : Gm} {nd : Nat} {Post : Int32 → Mm → Prop} {x1 : Int32} {I : Mm} (hC : Cx f cX9_back 2 RX9 wsX9_back rm_X9_back) (hG : shP g nd) (hR : RtI f cX9_back (fun r u => u.1 = g ∧ Post r u.2)) (hw : wp_X9_back (gK g) nd x1 I Post) : PW f 0 0 g I 0 [(0, .ref (gA g 0)), (1, .int x1)] [] := by
  unfold wp_X9_back at hw
  refine r_iload_n hC dX9_back_0 rfl rfl (j := 1) rfl ?_
  refine r_iconst hC (v := (0 : Int32)) dX9_back_1 rfl (by decide) ?_
  refine r_aload_n hC dX9_back_2 rfl rfl (j := 0) rfl ?_
  refine r_getR hC dX9_back_3 rfl hG.o.1 hG.o.2 ffg_X9_back_50 hG.r6 ?_
  refine r_getI hC dX9_back_6 rfl (hG.g).1.1 (hG.g).1.2 ffg_X9_back_161 ?_
  refine r_callI hC (a_S hC (c_X9_isWithin  hw) ci_X9_isWithin gX9_back_X9_isWithin ⟨Nat.le_of_ble_eq_true rfl, Nat.le_of_ble_eq_true rfl⟩ ⟨Nat.le_of_ble_eq_true rfl, Nat.le_of_ble_eq_true rfl⟩ rfl rfl (Nat.le_of_ble_eq_true rfl) dX9_back_9) ⟨rfl, rfl⟩ rfl (fun r1 J2 hw => ?_)
  refine r_if_ne hC (tgt := 18) dX9_back_12 rfl (by decide) hw (fun hw => ?_) (fun hw => ?_)
  · refine r_aload_n hC dX9_back_18 rfl rfl (j := 0) rfl ?_
    refine r_getR hC dX9_back_19 rfl hG.o.1 hG.o.2 ffg_X9_back_50 hG.r6 ?_
    refine r_dup hC dX9_back_22 rfl rfl ?_
    refine r_getI hC dX9_back_23 rfl (hG.g).1.1 (hG.g).1.2 ffg_X9_back_161 ?_
    refine r_iload_n hC dX9_back_26 rfl rfl (j := 1) rfl ?_
    refine r_isub hC dX9_back_27 rfl ?_
    refine r_putI hC dX9_back_28 rfl (hG.g).1.1 (hG.g).1.2 ffp_X9_back_161 ?_
    refine r_aload_n hC dX9_back_31 rfl rfl (j := 0) rfl ?_
    refine r_getR hC dX9_back_32 rfl hG.o.1 hG.o.2 ffg_X9_back_50 hG.r6 ?_
    refine r_getI hC dX9_back_35 rfl (hG.g).1.1 (hG.g).1.2 ffg_X9_back_161 ?_
    exact r_retI hC hR ⟨rfl, rfl⟩ dX9_back_38 hw
  · refine r_bipush hC (v := (-2 : Int32)) dX9_back_15 rfl (by decide) ?_
    exact r_retI hC hR ⟨rfl, rfl⟩ dX9_back_17 hw
set_option maxRecDepth 100000 in
theorem c_X9_back {l : Launch} {x : Gx} {g : Gm} {nd : Nat} {x1 : Int32} {I : Mm} {Post : Int32 → Mm → Prop} (hG : shP g nd) (hw : wp_X9_back (gK g) nd x1 I Post) : KI l x yX9_back wsX9_back rm_X9_back g I [.ref (gA g 0), .int x1] (fun r u => u.1 = g ∧ Post r u.2) := KI_of (by decide) rfl rfl (Nat.le_of_ble_eq_true rfl) (fun f hC _ _ hR => t_X9_back_0 hC hG hR hw)

/-! X9_othersAgree -/
abbrev rm_X9_othersAgree : Room := { frames := 4, cells := 0, slots := 0, locals := 91 }
theorem ci_X9_othersAgree : CI yX9_othersAgree wsX9_othersAgree cX9_othersAgree 5 (some .boolean) 1 := ⟨⟨_, rfl⟩, by decide, by decide, by decide +kernel⟩
def wp_X9_othersAgree_59 (ki : Nat → Nat) (nd : Nat) (Kb : Int32 → Int32 → Int32 → Mm → Prop) (Post : Int32 → Mm → Prop) (x1 : Int32) (x3 : Int32) (s0 : Int32) (I : Mm) : Prop := Kb x1 s0 (x3 + 1) I
def wp_X9_othersAgree_54 (ki : Nat → Nat) (nd : Nat) (Kb : Int32 → Int32 → Int32 → Mm → Prop) (Post : Int32 → Mm → Prop) (x1 : Int32) (x3 : Int32) (I : Mm) : Prop := wp_X9_othersAgree_59 ki nd Kb Post x1 x3 (1 : Int32) I
def wp_X9_othersAgree_4 (ki : Nat → Nat) (nd : Nat)  (Post : Int32 → Mm → Prop) : Nat → Int32 → Int32 → Int32 → Mm → Prop
  | 0, _, _, _, _ => False
  | nn4 + 1, x1, x2, x3, I => if (I 0 8) ≤ x3 then ((x2 = 0 ∨ x2 = 1) ∧ Post x2 I) else (if x2 = 0 then ((x2 = 0 ∨ x2 = 1) ∧ Post x2 I) else (vp_in x3 nd ∧ (if x3 = x1 then (wp_X9_othersAgree_54 ki nd (fun x1 x2 x3 I => wp_X9_othersAgree_4 ki nd Post nn4 x1 x2 x3 I) Post x1 x3 I) else (wpv_kind ki (40 + x3.toNatClampNeg) I (fun r2 J3 => wp_X9_hitsOf ki nd r2 (J3 (40 + x3.toNatClampNeg) 1) J3 (fun r4 J5 => wp_X4_agree x3 r4 J5 (fun r6 J7 => if r6 = 0 then (wp_X9_othersAgree_59 ki nd (fun x1 x2 x3 I => wp_X9_othersAgree_4 ki nd Post nn4 x1 x2 x3 I) Post x1 x3 (0 : Int32) J7) else (wp_X9_othersAgree_54 ki nd (fun x1 x2 x3 I => wp_X9_othersAgree_4 ki nd Post nn4 x1 x2 x3 I) Post x1 x3 J7))))))))
def wp_X9_othersAgree (ki : Nat → Nat) (nd : Nat) (x1 : Int32) (I : Mm) (Post : Int32 → Mm → Prop) : Prop := ∃ nn4, wp_X9_othersAgree_4 ki nd Post nn4 x1 (1 : Int32) (0 : Int32) I
set_option maxRecDepth 20000 in
theorem uw_X9_othersAgree_9 : ∀ w ∈ u_ws RX9 TX9 11, w ∈ wsX9_othersAgree := by decide +kernel
set_option maxRecDepth 20000 in
theorem ffg_X9_othersAgree_99 : ∀ k ∈ ([9] : List Nat), FF wsX9_othersAgree RX9 99 k 8 ∧ fR k 8 = false := List.forall_mem_cons.mpr ⟨⟨⟨RX9, TX9, 11, "PageDesks", rfl, rfl, by decide, by decide, uw_X9_othersAgree_9, (List.mem_of_getElem? (i := 1) rfl), Or.inl rfl⟩, rfl⟩, fun _ h => absurd h List.not_mem_nil⟩
set_option maxRecDepth 20000 in
theorem ffg_X9_othersAgree_26 : ∀ k ∈ ([9] : List Nat), FF wsX9_othersAgree RX9 26 k 2 ∧ fR k 2 = true := List.forall_mem_cons.mpr ⟨⟨⟨RX9, TX9, 11, "PageDesks", rfl, rfl, by decide, by decide, uw_X9_othersAgree_9, (List.mem_of_getElem? (i := 2) rfl), Or.inl rfl⟩, rfl⟩, fun _ h => absurd h List.not_mem_nil⟩
set_option maxRecDepth 20000 in
theorem ffg_X9_othersAgree_50 : ∀ k ∈ ([9] : List Nat), FF wsX9_othersAgree RX9 50 k 6 ∧ fR k 6 = true := List.forall_mem_cons.mpr ⟨⟨⟨RX9, TX9, 11, "PageDesks", rfl, rfl, by decide, by decide, uw_X9_othersAgree_9, (List.mem_of_getElem? (i := 3) rfl), Or.inl rfl⟩, rfl⟩, fun _ h => absurd h List.not_mem_nil⟩
set_option maxRecDepth 20000 in
theorem uw_X9_othersAgree_0 : ∀ w ∈ u_ws RX0 TX0 5, w ∈ wsX9_othersAgree := by decide +kernel
set_option maxRecDepth 20000 in
theorem uw_X9_othersAgree_3 : ∀ w ∈ u_ws RX3 TX3 5, w ∈ wsX9_othersAgree := by decide +kernel
set_option maxRecDepth 20000 in
theorem uw_X9_othersAgree_5 : ∀ w ∈ u_ws RX5 TX5 5, w ∈ wsX9_othersAgree := by decide +kernel
set_option maxRecDepth 20000 in
theorem ffg_X9_othersAgree_109 : ∀ k ∈ ([0, 3, 5] : List Nat), FF wsX9_othersAgree RX9 109 k 1 ∧ fR k 1 = false := List.forall_mem_cons.mpr ⟨⟨⟨RX0, TX0, 5, "PageDesks$Queue", rfl, rfl, by decide, by decide, uw_X9_othersAgree_0, (List.mem_of_getElem? (i := 4) rfl), Or.inl rfl⟩, rfl⟩, List.forall_mem_cons.mpr ⟨⟨⟨RX3, TX3, 5, "PageDesks$Queue", rfl, rfl, by decide, by decide, uw_X9_othersAgree_3, (List.mem_of_getElem? (i := 4) rfl), Or.inl rfl⟩, rfl⟩, List.forall_mem_cons.mpr ⟨⟨⟨RX5, TX5, 5, "PageDesks$Queue", rfl, rfl, by decide, by decide, uw_X9_othersAgree_5, (List.mem_of_getElem? (i := 4) rfl), Or.inl rfl⟩, rfl⟩, fun _ h => absurd h List.not_mem_nil⟩⟩⟩
set_option maxRecDepth 100000 in
set_option maxHeartbeats 4000000 in
theorem t_X9_othersAgree_59 {f : Fx} {g : Gm} {nd : Nat} {Post : Int32 → Mm → Prop} {Kb : Int32 → Int32 → Int32 → Mm → Prop} (hC : Cx f cX9_othersAgree 5 RX9 wsX9_othersAgree rm_X9_othersAgree) (hG : shP g nd) (hR : RtZ f cX9_othersAgree (fun r u => u.1 = g ∧ Post r u.2)) (hKb : ∀ (x1 : Int32) (x2 : Int32) (x3 : Int32) (I : Mm) , Kb x1 x2 x3 I → PW f 0 0 g I 4 [(0, .ref (gA g 0)), (1, .int x1), (2, .int x2), (3, .int x3)] []) : ∀ (x1 : Int32) (x3 : Int32) (s0 : Int32) (I : Mm) , wp_X9_othersAgree_59 (gK g) nd Kb Post x1 x3 s0 I → PW f 0 0 g I 59 [(0, .ref (gA g 0)), (1, .int x1), (3, .int x3)] [.int s0] := by
  intro x1 x3 s0 I  hw
  unfold wp_X9_othersAgree_59 at hw
  refine r_istore_n hC (lv' := [(2, .int s0), (0, .ref (gA g 0)), (1, .int x1), (3, .int x3)]) dX9_othersAgree_59 rfl rfl (by decide) rfl ?_
  refine r_iinc hC (k := 1) (lv' := [(3, .int (x3 + 1)), (2, .int s0), (0, .ref (gA g 0)), (1, .int x1)]) dX9_othersAgree_60 rfl (j := 3) rfl (by decide) (by decide) rfl ?_
  refine r_goto hC (tgt := 4) dX9_othersAgree_63 (by decide) ?_
  exact r_sub (lv' := [(0, .ref (gA g 0)), (1, .int x1), (2, .int s0), (3, .int (x3 + 1))]) [2, 3, 1, 0] rfl (hKb _ _ _ _ hw)
set_option maxRecDepth 100000 in
set_option maxHeartbeats 4000000 in
theorem t_X9_othersAgree_54 {f : Fx} {g : Gm} {nd : Nat} {Post : Int32 → Mm → Prop} {Kb : Int32 → Int32 → Int32 → Mm → Prop} (hC : Cx f cX9_othersAgree 5 RX9 wsX9_othersAgree rm_X9_othersAgree) (hG : shP g nd) (hR : RtZ f cX9_othersAgree (fun r u => u.1 = g ∧ Post r u.2)) (hKb : ∀ (x1 : Int32) (x2 : Int32) (x3 : Int32) (I : Mm) , Kb x1 x2 x3 I → PW f 0 0 g I 4 [(0, .ref (gA g 0)), (1, .int x1), (2, .int x2), (3, .int x3)] []) : ∀ (x1 : Int32) (x3 : Int32) (I : Mm) , wp_X9_othersAgree_54 (gK g) nd Kb Post x1 x3 I → PW f 0 0 g I 54 [(0, .ref (gA g 0)), (1, .int x1), (3, .int x3)] [] := by
  intro x1 x3 I  hw
  unfold wp_X9_othersAgree_54 at hw
  refine r_iconst hC (v := (1 : Int32)) dX9_othersAgree_54 rfl (by decide) ?_
  refine r_goto hC (tgt := 59) dX9_othersAgree_55 (by decide) ?_
  exact r_sub (lv' := [(0, .ref (gA g 0)), (1, .int x1), (3, .int x3)]) [0, 1, 2] rfl (t_X9_othersAgree_59 hC hG hR hKb _ _ _ _ hw)
set_option maxRecDepth 100000 in
set_option maxHeartbeats 4000000 in
theorem t_X9_othersAgree_4 {f : Fx} {g : Gm} {nd : Nat} {Post : Int32 → Mm → Prop}  (hC : Cx f cX9_othersAgree 5 RX9 wsX9_othersAgree rm_X9_othersAgree) (hG : shP g nd) (hR : RtZ f cX9_othersAgree (fun r u => u.1 = g ∧ Post r u.2))  : ∀ (nn4 : Nat) (x1 : Int32) (x2 : Int32) (x3 : Int32) (I : Mm) , wp_X9_othersAgree_4 (gK g) nd  Post nn4 x1 x2 x3 I → PW f 0 0 g I 4 [(0, .ref (gA g 0)), (1, .int x1), (2, .int x2), (3, .int x3)] [] := by
  intro nn4
  induction nn4 with
  | zero =>
    intro x1 x2 x3 I  hw
    exact absurd hw id
  | succ nn4 ih =>
    intro x1 x2 x3 I  hw
    unfold wp_X9_othersAgree_4 at hw
    refine r_iload_n hC dX9_othersAgree_4 rfl rfl (j := 3) rfl ?_
    refine r_aload_n hC dX9_othersAgree_5 rfl rfl (j := 0) rfl ?_
    refine r_getI hC dX9_othersAgree_6 rfl hG.o.1 hG.o.2 ffg_X9_othersAgree_99 ?_
    refine r_icmp_ge hC (tgt := 66) dX9_othersAgree_9 rfl (by decide) hw (fun hw => ?_) (fun hw => ?_)
    · refine r_iload_n hC dX9_othersAgree_66 rfl rfl (j := 2) rfl ?_
      exact r_retZ hC hR ⟨rfl, rfl⟩ dX9_othersAgree_67 (zb_of hw.1) hw.2
    · refine r_iload_n hC dX9_othersAgree_12 rfl rfl (j := 2) rfl ?_
      refine r_if_eq hC (tgt := 66) dX9_othersAgree_13 rfl (by decide) hw (fun hw => ?_) (fun hw => ?_)
      · refine r_iload_n hC dX9_othersAgree_66 rfl rfl (j := 2) rfl ?_
        exact r_retZ hC hR ⟨rfl, rfl⟩ dX9_othersAgree_67 (zb_of hw.1) hw.2
      · refine r_aload_n hC dX9_othersAgree_16 rfl rfl (j := 0) rfl ?_
        refine r_getR hC dX9_othersAgree_17 rfl hG.o.1 hG.o.2 ffg_X9_othersAgree_26 hG.r2 ?_
        refine r_iload_n hC dX9_othersAgree_20 rfl rfl (j := 3) rfl ?_
        obtain ⟨hi, hw⟩ := hw
        have hq1 := hG.desk hi
        refine r_aald hC dX9_othersAgree_21 rfl hq1.1.1 hq1.1.2.1 hq1.1.2.2 hq1.2.1 ?_
        refine r_astore hC (lv' := [(4, .ref (gA g (40 + x3.toNatClampNeg))), (0, .ref (gA g 0)), (1, .int x1), (2, .int x2), (3, .int x3)]) dX9_othersAgree_22 rfl (by decide) rfl ?_
        refine r_iload_n hC dX9_othersAgree_24 rfl rfl (j := 4) rfl ?_
        refine r_iload_n hC dX9_othersAgree_25 rfl rfl (j := 2) rfl ?_
        refine r_icmp_eq hC (tgt := 54) dX9_othersAgree_26 rfl (by decide) hw (fun hw => ?_) (fun hw => ?_)
        · exact r_sub (lv' := [(0, .ref (gA g 0)), (1, .int x1), (3, .int x3)]) [1, 2, 4] rfl (t_X9_othersAgree_54 hC hG hR (fun x1 x2 x3 I  hw => ih x1 x2 x3 I  hw) _ _ _ hw)
        · refine r_aload_n hC dX9_othersAgree_29 rfl rfl (j := 1) rfl ?_
          refine r_getR hC dX9_othersAgree_30 rfl hG.o.1 hG.o.2 ffg_X9_othersAgree_50 hG.r6 ?_
          refine r_iload_n hC dX9_othersAgree_33 rfl rfl (j := 4) rfl ?_
          refine r_aload_n hC dX9_othersAgree_34 rfl rfl (j := 1) rfl ?_
          refine r_aload hC dX9_othersAgree_35 rfl (j := 0) rfl ?_
          refine r_callI hC (rmc := rm_X3_kind) (a_K hq1.2.2 (fun h => a_O hC (k := 0) (rmc := rm_X0_kind) (c_X0_kind (shD.of hq1.2.2 h (by decide)) (wpv_kind_0 h hw)) ci_X0_kind gX9_othersAgree_X0_kind_u105X0 (List.mem_of_getElem? (i := 12) rfl) ⟨by decide, by decide⟩ rfl ⟨Nat.le_of_ble_eq_true rfl, Nat.le_of_ble_eq_true rfl⟩ ⟨Nat.le_of_ble_eq_true rfl, Nat.le_of_ble_eq_true rfl⟩ rfl (by decide) (hq1.2.2).1.1 h rfl rfl (Nat.le_of_ble_eq_true rfl) dX9_othersAgree_37) (fun h => a_V hC (k := 3) (c_X3_kind hq1.2.2 (wpv_kind_3 h hw)) ci_X3_kind gX9_othersAgree_X3_kind rfl ⟨Nat.le_of_ble_eq_true rfl, Nat.le_of_ble_eq_true rfl⟩ ⟨Nat.le_of_ble_eq_true rfl, Nat.le_of_ble_eq_true rfl⟩ rfl (by decide) (hq1.2.2).1.1 h rfl rfl (Nat.le_of_ble_eq_true rfl) dX9_othersAgree_37) (fun h => a_O hC (k := 5) (rmc := rm_X5_kind) (c_X5_kind (shD.of hq1.2.2 h (by decide)) (wpv_kind_5 h hw)) ci_X5_kind gX9_othersAgree_X5_kind_u105X5 (List.mem_of_getElem? (i := 12) rfl) ⟨by decide, by decide⟩ rfl ⟨Nat.le_of_ble_eq_true rfl, Nat.le_of_ble_eq_true rfl⟩ ⟨Nat.le_of_ble_eq_true rfl, Nat.le_of_ble_eq_true rfl⟩ rfl (by decide) (hq1.2.2).1.1 h rfl rfl (Nat.le_of_ble_eq_true rfl) dX9_othersAgree_37)) ⟨rfl, rfl⟩ rfl (fun r2 J3 hw => ?_)
          refine r_aload hC dX9_othersAgree_40 rfl (j := 0) rfl ?_
          refine r_getI hC dX9_othersAgree_42 rfl (hq1.2.2).1.1 (hq1.2.2).1.2 ffg_X9_othersAgree_109 ?_
          refine r_callI hC (a_V hC (k := 9) (c_X9_hitsOf hG hw) ci_X9_hitsOf gX9_othersAgree_X9_hitsOf rfl ⟨Nat.le_of_ble_eq_true rfl, Nat.le_of_ble_eq_true rfl⟩ ⟨Nat.le_of_ble_eq_true rfl, Nat.le_of_ble_eq_true rfl⟩ rfl (by decide) hG.o.1 (List.mem_singleton.mp hG.o.2) rfl rfl (Nat.le_of_ble_eq_true rfl) dX9_othersAgree_45) ⟨rfl, rfl⟩ rfl (fun r4 J5 hw => ?_)
          refine r_callI hC (a_V hC (k := 4) (c_X4_agree hG.g hw) ci_X4_agree gX9_othersAgree_X4_agree rfl ⟨Nat.le_of_ble_eq_true rfl, Nat.le_of_ble_eq_true rfl⟩ ⟨Nat.le_of_ble_eq_true rfl, Nat.le_of_ble_eq_true rfl⟩ rfl (by decide) (hG.g).1.1 (List.mem_singleton.mp (hG.g).1.2) rfl rfl (Nat.le_of_ble_eq_true rfl) dX9_othersAgree_48) ⟨rfl, rfl⟩ rfl (fun r6 J7 hw => ?_)
          refine r_if_eq hC (tgt := 58) dX9_othersAgree_51 rfl (by decide) hw (fun hw => ?_) (fun hw => ?_)
          · refine r_iconst hC (v := (0 : Int32)) dX9_othersAgree_58 rfl (by decide) ?_
            exact r_sub (lv' := [(0, .ref (gA g 0)), (1, .int x1), (3, .int x3)]) [1, 2, 4] rfl (t_X9_othersAgree_59 hC hG hR (fun x1 x2 x3 I  hw => ih x1 x2 x3 I  hw) _ _ _ _ hw)
          · exact r_sub (lv' := [(0, .ref (gA g 0)), (1, .int x1), (3, .int x3)]) [1, 2, 4] rfl (t_X9_othersAgree_54 hC hG hR (fun x1 x2 x3 I  hw => ih x1 x2 x3 I  hw) _ _ _ hw)
set_option maxRecDepth 100000 in
set_option maxHeartbeats 4000000 in
theorem t_X9_othersAgree_0 {f : Fx} {g : Gm} {nd : Nat} {Post : Int32 → Mm → Prop} {x1 : Int32} {I : Mm} (hC : Cx f cX9_othersAgree 5 RX9 wsX9_othersAgree rm_X9_othersAgree) (hG : shP g nd) (hR : RtZ f cX9_othersAgree (fun r u => u.1 = g ∧ Post r u.2)) (hw : wp_X9_othersAgree (gK g) nd x1 I Post) : PW f 0 0 g I 0 [(0, .ref (gA g 0)), (1, .int x1)] [] := by
  unfold wp_X9_othersAgree at hw
  refine r_iconst hC (v := (1 : Int32)) dX9_othersAgree_0 rfl (by decide) ?_
  refine r_istore_n hC (lv' := [(2, .int (1 : Int32)), (0, .ref (gA g 0)), (1, .int x1)]) dX9_othersAgree_1 rfl rfl (by decide) rfl ?_
  refine r_iconst hC (v := (0 : Int32)) dX9_othersAgree_2 rfl (by decide) ?_
  refine r_istore_n hC (lv' := [(3, .int (0 : Int32)), (2, .int (1 : Int32)), (0, .ref (gA g 0)), (1, .int x1)]) dX9_othersAgree_3 rfl rfl (by decide) rfl ?_
  obtain ⟨nn4, hw⟩ := hw
  exact r_sub (lv' := [(0, .ref (gA g 0)), (1, .int x1), (2, .int (1 : Int32)), (3, .int (0 : Int32))]) [2, 3, 1, 0] rfl ((t_X9_othersAgree_4 hC hG hR nn4 _ _ _ _ hw))
set_option maxRecDepth 100000 in
theorem c_X9_othersAgree {l : Launch} {x : Gx} {g : Gm} {nd : Nat} {x1 : Int32} {I : Mm} {Post : Int32 → Mm → Prop} (hG : shP g nd) (hw : wp_X9_othersAgree (gK g) nd x1 I Post) : KI l x yX9_othersAgree wsX9_othersAgree rm_X9_othersAgree g I [.ref (gA g 0), .int x1] (fun r u => u.1 = g ∧ Post r u.2) := KZ_of (by decide) rfl rfl (Nat.le_of_ble_eq_true rfl) (fun f hC _ _ hR => t_X9_othersAgree_0 hC hG hR hw)

/-! X9_sizes -/
abbrev rm_X9_sizes : Room := { frames := 5, cells := 0, slots := 0, locals := 115 }
theorem ci_X9_sizes : CI yX9_sizes wsX9_sizes cX9_sizes 4 (some .int) 1 := ⟨⟨_, rfl⟩, by decide, by decide, by decide +kernel⟩
def wp_X9_sizes_60 (ki : Nat → Nat) (nd : Nat) (Kb : Int32 → Int32 → Int32 → Mm → Prop) (Post : Int32 → Mm → Prop) (x1 : Int32) (x3 : Int32) (s0 : Int32) (s1 : Int32) (I : Mm) : Prop := Kb x1 (s1 ||| s0) (x3 + 1) I
def wp_X9_sizes_22 (ki : Nat → Nat) (nd : Nat)  (Post : Int32 → Mm → Prop) : Nat → Int32 → Int32 → Int32 → Mm → Prop
  | 0, _, _, _, _ => False
  | nn22 + 1, x1, x2, x3, I => if (5 : Int32) < x3 then (Post x2 I) else (vp_in x1 nd ∧ (wpv_kind ki (40 + x1.toNatClampNeg) I (fun r6 J7 => wp_X9_hitsOf ki nd r6 x3 J7 (fun r8 J9 => wp_X4_agree x1 r8 J9 (fun r10 J11 => if r10 = 0 then (wp_X9_sizes_60 ki nd (fun x1 x2 x3 I => wp_X9_sizes_22 ki nd Post nn22 x1 x2 x3 I) Post x1 x3 (0 : Int32) x2 J11) else (wp_X9_sizes_60 ki nd (fun x1 x2 x3 I => wp_X9_sizes_22 ki nd Post nn22 x1 x2 x3 I) Post x1 x3 ((1 : Int32) <<< (x3 &&& 31)) x2 J11))))))
def wp_X9_sizes (ki : Nat → Nat) (nd : Nat) (x1 : Int32) (I : Mm) (Post : Int32 → Mm → Prop) : Prop := wp_X9_isDesk ki nd x1 I (fun r1 J2 => if r1 = 0 then (Post (-1 : Int32) J2) else (wp_X9_othersAgree ki nd x1 J2 (fun r3 J4 => if r3 = 0 then (Post (0 : Int32) J4) else (∃ nn22, wp_X9_sizes_22 ki nd Post nn22 x1 (0 : Int32) (1 : Int32) J4))))
set_option maxRecDepth 20000 in
theorem uw_X9_sizes_9 : ∀ w ∈ u_ws RX9 TX9 11, w ∈ wsX9_sizes := by decide +kernel
set_option maxRecDepth 20000 in
theorem ffg_X9_sizes_50 : ∀ k ∈ ([9] : List Nat), FF wsX9_sizes RX9 50 k 6 ∧ fR k 6 = true := List.forall_mem_cons.mpr ⟨⟨⟨RX9, TX9, 11, "PageDesks", rfl, rfl, by decide, by decide, uw_X9_sizes_9, (List.mem_of_getElem? (i := 1) rfl), Or.inl rfl⟩, rfl⟩, fun _ h => absurd h List.not_mem_nil⟩
set_option maxRecDepth 20000 in
theorem ffg_X9_sizes_26 : ∀ k ∈ ([9] : List Nat), FF wsX9_sizes RX9 26 k 2 ∧ fR k 2 = true := List.forall_mem_cons.mpr ⟨⟨⟨RX9, TX9, 11, "PageDesks", rfl, rfl, by decide, by decide, uw_X9_sizes_9, (List.mem_of_getElem? (i := 2) rfl), Or.inl rfl⟩, rfl⟩, fun _ h => absurd h List.not_mem_nil⟩
set_option maxRecDepth 100000 in
set_option maxHeartbeats 4000000 in
theorem t_X9_sizes_60 {f : Fx} {g : Gm} {nd : Nat} {Post : Int32 → Mm → Prop} {Kb : Int32 → Int32 → Int32 → Mm → Prop} (hC : Cx f cX9_sizes 4 RX9 wsX9_sizes rm_X9_sizes) (hG : shP g nd) (hR : RtI f cX9_sizes (fun r u => u.1 = g ∧ Post r u.2)) (hKb : ∀ (x1 : Int32) (x2 : Int32) (x3 : Int32) (I : Mm) , Kb x1 x2 x3 I → PW f 0 0 g I 22 [(0, .ref (gA g 0)), (1, .int x1), (2, .int x2), (3, .int x3)] []) : ∀ (x1 : Int32) (x3 : Int32) (s0 : Int32) (s1 : Int32) (I : Mm) , wp_X9_sizes_60 (gK g) nd Kb Post x1 x3 s0 s1 I → PW f 0 0 g I 60 [(0, .ref (gA g 0)), (1, .int x1), (3, .int x3)] [.int s0, .int s1] := by
  intro x1 x3 s0 s1 I  hw
  unfold wp_X9_sizes_60 at hw
  refine r_ior hC dX9_sizes_60 rfl ?_
  refine r_istore_n hC (lv' := [(2, .int (s1 ||| s0)), (0, .ref (gA g 0)), (1, .int x1), (3, .int x3)]) dX9_sizes_61 rfl rfl (by decide) rfl ?_
  refine r_iinc hC (k := 1) (lv' := [(3, .int (x3 + 1)), (2, .int (s1 ||| s0)), (0, .ref (gA g 0)), (1, .int x1)]) dX9_sizes_62 rfl (j := 3) rfl (by decide) (by decide) rfl ?_
  refine r_goto hC (tgt := 22) dX9_sizes_65 (by decide) ?_
  exact r_sub (lv' := [(0, .ref (gA g 0)), (1, .int x1), (2, .int (s1 ||| s0)), (3, .int (x3 + 1))]) [2, 3, 1, 0] rfl (hKb _ _ _ _ hw)
set_option maxRecDepth 100000 in
set_option maxHeartbeats 4000000 in
theorem t_X9_sizes_22 {f : Fx} {g : Gm} {nd : Nat} {Post : Int32 → Mm → Prop}  (hC : Cx f cX9_sizes 4 RX9 wsX9_sizes rm_X9_sizes) (hG : shP g nd) (hR : RtI f cX9_sizes (fun r u => u.1 = g ∧ Post r u.2))  : ∀ (nn22 : Nat) (x1 : Int32) (x2 : Int32) (x3 : Int32) (I : Mm) , wp_X9_sizes_22 (gK g) nd  Post nn22 x1 x2 x3 I → PW f 0 0 g I 22 [(0, .ref (gA g 0)), (1, .int x1), (2, .int x2), (3, .int x3)] [] := by
  intro nn22
  induction nn22 with
  | zero =>
    intro x1 x2 x3 I  hw
    exact absurd hw id
  | succ nn22 ih =>
    intro x1 x2 x3 I  hw
    unfold wp_X9_sizes_22 at hw
    refine r_iload_n hC dX9_sizes_22 rfl rfl (j := 3) rfl ?_
    refine r_iconst hC (v := (5 : Int32)) dX9_sizes_23 rfl (by decide) ?_
    refine r_icmp_gt hC (tgt := 68) dX9_sizes_24 rfl (by decide) hw (fun hw => ?_) (fun hw => ?_)
    · refine r_iload_n hC dX9_sizes_68 rfl rfl (j := 2) rfl ?_
      exact r_retI hC hR ⟨rfl, rfl⟩ dX9_sizes_69 hw
    · refine r_iload_n hC dX9_sizes_27 rfl rfl (j := 2) rfl ?_
      refine r_aload_n hC dX9_sizes_28 rfl rfl (j := 0) rfl ?_
      refine r_getR hC dX9_sizes_29 rfl hG.o.1 hG.o.2 ffg_X9_sizes_50 hG.r6 ?_
      refine r_iload_n hC dX9_sizes_32 rfl rfl (j := 1) rfl ?_
      refine r_aload_n hC dX9_sizes_33 rfl rfl (j := 0) rfl ?_
      refine r_aload_n hC dX9_sizes_34 rfl rfl (j := 0) rfl ?_
      refine r_getR hC dX9_sizes_35 rfl hG.o.1 hG.o.2 ffg_X9_sizes_26 hG.r2 ?_
      refine r_iload_n hC dX9_sizes_38 rfl rfl (j := 1) rfl ?_
      obtain ⟨hi, hw⟩ := hw
      have hq5 := hG.desk hi
      refine r_aald hC dX9_sizes_39 rfl hq5.1.1 hq5.1.2.1 hq5.1.2.2 hq5.2.1 ?_
      refine r_callI hC (rmc := rm_X3_kind) (a_K hq5.2.2 (fun h => a_O hC (k := 0) (rmc := rm_X0_kind) (c_X0_kind (shD.of hq5.2.2 h (by decide)) (wpv_kind_0 h hw)) ci_X0_kind gX9_sizes_X0_kind_u105X0 (List.mem_of_getElem? (i := 24) rfl) ⟨by decide, by decide⟩ rfl ⟨Nat.le_of_ble_eq_true rfl, Nat.le_of_ble_eq_true rfl⟩ ⟨Nat.le_of_ble_eq_true rfl, Nat.le_of_ble_eq_true rfl⟩ rfl (by decide) (hq5.2.2).1.1 h rfl rfl (Nat.le_of_ble_eq_true rfl) dX9_sizes_40) (fun h => a_V hC (k := 3) (c_X3_kind hq5.2.2 (wpv_kind_3 h hw)) ci_X3_kind gX9_sizes_X3_kind rfl ⟨Nat.le_of_ble_eq_true rfl, Nat.le_of_ble_eq_true rfl⟩ ⟨Nat.le_of_ble_eq_true rfl, Nat.le_of_ble_eq_true rfl⟩ rfl (by decide) (hq5.2.2).1.1 h rfl rfl (Nat.le_of_ble_eq_true rfl) dX9_sizes_40) (fun h => a_O hC (k := 5) (rmc := rm_X5_kind) (c_X5_kind (shD.of hq5.2.2 h (by decide)) (wpv_kind_5 h hw)) ci_X5_kind gX9_sizes_X5_kind_u105X5 (List.mem_of_getElem? (i := 24) rfl) ⟨by decide, by decide⟩ rfl ⟨Nat.le_of_ble_eq_true rfl, Nat.le_of_ble_eq_true rfl⟩ ⟨Nat.le_of_ble_eq_true rfl, Nat.le_of_ble_eq_true rfl⟩ rfl (by decide) (hq5.2.2).1.1 h rfl rfl (Nat.le_of_ble_eq_true rfl) dX9_sizes_40)) ⟨rfl, rfl⟩ rfl (fun r6 J7 hw => ?_)
      refine r_iload_n hC dX9_sizes_43 rfl rfl (j := 3) rfl ?_
      refine r_callI hC (a_V hC (k := 9) (c_X9_hitsOf hG hw) ci_X9_hitsOf gX9_sizes_X9_hitsOf rfl ⟨Nat.le_of_ble_eq_true rfl, Nat.le_of_ble_eq_true rfl⟩ ⟨Nat.le_of_ble_eq_true rfl, Nat.le_of_ble_eq_true rfl⟩ rfl (by decide) hG.o.1 (List.mem_singleton.mp hG.o.2) rfl rfl (Nat.le_of_ble_eq_true rfl) dX9_sizes_44) ⟨rfl, rfl⟩ rfl (fun r8 J9 hw => ?_)
      refine r_callI hC (a_V hC (k := 4) (c_X4_agree hG.g hw) ci_X4_agree gX9_sizes_X4_agree rfl ⟨Nat.le_of_ble_eq_true rfl, Nat.le_of_ble_eq_true rfl⟩ ⟨Nat.le_of_ble_eq_true rfl, Nat.le_of_ble_eq_true rfl⟩ rfl (by decide) (hG.g).1.1 (List.mem_singleton.mp (hG.g).1.2) rfl rfl (Nat.le_of_ble_eq_true rfl) dX9_sizes_47) ⟨rfl, rfl⟩ rfl (fun r10 J11 hw => ?_)
      refine r_if_eq hC (tgt := 59) dX9_sizes_50 rfl (by decide) hw (fun hw => ?_) (fun hw => ?_)
      · refine r_iconst hC (v := (0 : Int32)) dX9_sizes_59 rfl (by decide) ?_
        exact r_sub (lv' := [(0, .ref (gA g 0)), (1, .int x1), (3, .int x3)]) [0, 1, 3] rfl (t_X9_sizes_60 hC hG hR (fun x1 x2 x3 I  hw => ih x1 x2 x3 I  hw) _ _ _ _ _ hw)
      · refine r_iconst hC (v := (1 : Int32)) dX9_sizes_53 rfl (by decide) ?_
        refine r_iload_n hC dX9_sizes_54 rfl rfl (j := 3) rfl ?_
        refine r_ishl hC dX9_sizes_55 rfl ?_
        refine r_goto hC (tgt := 60) dX9_sizes_56 (by decide) ?_
        exact r_sub (lv' := [(0, .ref (gA g 0)), (1, .int x1), (3, .int x3)]) [0, 1, 3] rfl (t_X9_sizes_60 hC hG hR (fun x1 x2 x3 I  hw => ih x1 x2 x3 I  hw) _ _ _ _ _ hw)
set_option maxRecDepth 100000 in
set_option maxHeartbeats 4000000 in
theorem t_X9_sizes_0 {f : Fx} {g : Gm} {nd : Nat} {Post : Int32 → Mm → Prop} {x1 : Int32} {I : Mm} (hC : Cx f cX9_sizes 4 RX9 wsX9_sizes rm_X9_sizes) (hG : shP g nd) (hR : RtI f cX9_sizes (fun r u => u.1 = g ∧ Post r u.2)) (hw : wp_X9_sizes (gK g) nd x1 I Post) : PW f 0 0 g I 0 [(0, .ref (gA g 0)), (1, .int x1)] [] := by
  unfold wp_X9_sizes at hw
  refine r_aload_n hC dX9_sizes_0 rfl rfl (j := 0) rfl ?_
  refine r_iload_n hC dX9_sizes_1 rfl rfl (j := 1) rfl ?_
  refine r_callI hC (a_V hC (k := 9) (c_X9_isDesk hG hw) ci_X9_isDesk gX9_sizes_X9_isDesk rfl ⟨Nat.le_of_ble_eq_true rfl, Nat.le_of_ble_eq_true rfl⟩ ⟨Nat.le_of_ble_eq_true rfl, Nat.le_of_ble_eq_true rfl⟩ rfl (by decide) hG.o.1 (List.mem_singleton.mp hG.o.2) rfl rfl (Nat.le_of_ble_eq_true rfl) dX9_sizes_2) ⟨rfl, rfl⟩ rfl (fun r1 J2 hw => ?_)
  refine r_if_ne hC (tgt := 10) dX9_sizes_5 rfl (by decide) hw (fun hw => ?_) (fun hw => ?_)
  · refine r_iconst hC (v := (0 : Int32)) dX9_sizes_10 rfl (by decide) ?_
    refine r_istore_n hC (lv' := [(2, .int (0 : Int32)), (0, .ref (gA g 0)), (1, .int x1)]) dX9_sizes_11 rfl rfl (by decide) rfl ?_
    refine r_aload_n hC dX9_sizes_12 rfl rfl (j := 1) rfl ?_
    refine r_iload_n hC dX9_sizes_13 rfl rfl (j := 2) rfl ?_
    refine r_callI hC (a_V hC (k := 9) (c_X9_othersAgree hG hw) ci_X9_othersAgree gX9_sizes_X9_othersAgree rfl ⟨Nat.le_of_ble_eq_true rfl, Nat.le_of_ble_eq_true rfl⟩ ⟨Nat.le_of_ble_eq_true rfl, Nat.le_of_ble_eq_true rfl⟩ rfl (by decide) hG.o.1 (List.mem_singleton.mp hG.o.2) rfl rfl (Nat.le_of_ble_eq_true rfl) dX9_sizes_14) ⟨rfl, rfl⟩ rfl (fun r3 J4 hw => ?_)
    refine r_if_eq hC (tgt := 68) dX9_sizes_17 rfl (by decide) hw (fun hw => ?_) (fun hw => ?_)
    · refine r_iload_n hC dX9_sizes_68 rfl rfl (j := 0) rfl ?_
      exact r_retI hC hR ⟨rfl, rfl⟩ dX9_sizes_69 hw
    · refine r_iconst hC (v := (1 : Int32)) dX9_sizes_20 rfl (by decide) ?_
      refine r_istore_n hC (lv' := [(3, .int (1 : Int32)), (2, .int (0 : Int32)), (0, .ref (gA g 0)), (1, .int x1)]) dX9_sizes_21 rfl rfl (by decide) rfl ?_
      obtain ⟨nn22, hw⟩ := hw
      exact r_sub (lv' := [(0, .ref (gA g 0)), (1, .int x1), (2, .int (0 : Int32)), (3, .int (1 : Int32))]) [2, 3, 1, 0] rfl ((t_X9_sizes_22 hC hG hR nn22 _ _ _ _ hw))
  · refine r_iconst hC (v := (-1 : Int32)) dX9_sizes_8 rfl (by decide) ?_
    exact r_retI hC hR ⟨rfl, rfl⟩ dX9_sizes_9 hw
set_option maxRecDepth 100000 in
theorem c_X9_sizes {l : Launch} {x : Gx} {g : Gm} {nd : Nat} {x1 : Int32} {I : Mm} {Post : Int32 → Mm → Prop} (hG : shP g nd) (hw : wp_X9_sizes (gK g) nd x1 I Post) : KI l x yX9_sizes wsX9_sizes rm_X9_sizes g I [.ref (gA g 0), .int x1] (fun r u => u.1 = g ∧ Post r u.2) := KI_of (by decide) rfl rfl (Nat.le_of_ble_eq_true rfl) (fun f hC _ _ hR => t_X9_sizes_0 hC hG hR hw)

/-! X9_kinds -/
abbrev rm_X9_kinds : Room := { frames := 5, cells := 0, slots := 0, locals := 115 }
theorem ci_X9_kinds : CI yX9_kinds wsX9_kinds cX9_kinds 4 (some .int) 1 := ⟨⟨_, rfl⟩, by decide, by decide, by decide +kernel⟩
def wp_X9_kinds_60 (ki : Nat → Nat) (nd : Nat) (Kb : Int32 → Int32 → Int32 → Mm → Prop) (Post : Int32 → Mm → Prop) (x1 : Int32) (x3 : Int32) (s0 : Int32) (s1 : Int32) (I : Mm) : Prop := Kb x1 (s1 ||| s0) (x3 + 1) I
def wp_X9_kinds_22 (ki : Nat → Nat) (nd : Nat)  (Post : Int32 → Mm → Prop) : Nat → Int32 → Int32 → Int32 → Mm → Prop
  | 0, _, _, _, _ => False
  | nn22 + 1, x1, x2, x3, I => if (3 : Int32) ≤ x3 then (Post x2 I) else (vp_in x1 nd ∧ (wp_X9_hitsOf ki nd x3 (I (40 + x1.toNatClampNeg) 1) I (fun r6 J7 => wp_X4_agree x1 r6 J7 (fun r8 J9 => if r8 = 0 then (wp_X9_kinds_60 ki nd (fun x1 x2 x3 I => wp_X9_kinds_22 ki nd Post nn22 x1 x2 x3 I) Post x1 x3 (0 : Int32) x2 J9) else (wp_X9_kinds_60 ki nd (fun x1 x2 x3 I => wp_X9_kinds_22 ki nd Post nn22 x1 x2 x3 I) Post x1 x3 ((1 : Int32) <<< (x3 &&& 31)) x2 J9)))))
def wp_X9_kinds (ki : Nat → Nat) (nd : Nat) (x1 : Int32) (I : Mm) (Post : Int32 → Mm → Prop) : Prop := wp_X9_isDesk ki nd x1 I (fun r1 J2 => if r1 = 0 then (Post (-1 : Int32) J2) else (wp_X9_othersAgree ki nd x1 J2 (fun r3 J4 => if r3 = 0 then (Post (0 : Int32) J4) else (∃ nn22, wp_X9_kinds_22 ki nd Post nn22 x1 (0 : Int32) (0 : Int32) J4))))
set_option maxRecDepth 20000 in
theorem uw_X9_kinds_9 : ∀ w ∈ u_ws RX9 TX9 11, w ∈ wsX9_kinds := by decide +kernel
set_option maxRecDepth 20000 in
theorem ffg_X9_kinds_50 : ∀ k ∈ ([9] : List Nat), FF wsX9_kinds RX9 50 k 6 ∧ fR k 6 = true := List.forall_mem_cons.mpr ⟨⟨⟨RX9, TX9, 11, "PageDesks", rfl, rfl, by decide, by decide, uw_X9_kinds_9, (List.mem_of_getElem? (i := 1) rfl), Or.inl rfl⟩, rfl⟩, fun _ h => absurd h List.not_mem_nil⟩
set_option maxRecDepth 20000 in
theorem ffg_X9_kinds_26 : ∀ k ∈ ([9] : List Nat), FF wsX9_kinds RX9 26 k 2 ∧ fR k 2 = true := List.forall_mem_cons.mpr ⟨⟨⟨RX9, TX9, 11, "PageDesks", rfl, rfl, by decide, by decide, uw_X9_kinds_9, (List.mem_of_getElem? (i := 2) rfl), Or.inl rfl⟩, rfl⟩, fun _ h => absurd h List.not_mem_nil⟩
set_option maxRecDepth 20000 in
theorem uw_X9_kinds_0 : ∀ w ∈ u_ws RX0 TX0 5, w ∈ wsX9_kinds := by decide +kernel
set_option maxRecDepth 20000 in
theorem uw_X9_kinds_3 : ∀ w ∈ u_ws RX3 TX3 5, w ∈ wsX9_kinds := by decide +kernel
set_option maxRecDepth 20000 in
theorem uw_X9_kinds_5 : ∀ w ∈ u_ws RX5 TX5 5, w ∈ wsX9_kinds := by decide +kernel
set_option maxRecDepth 20000 in
theorem ffg_X9_kinds_109 : ∀ k ∈ ([0, 3, 5] : List Nat), FF wsX9_kinds RX9 109 k 1 ∧ fR k 1 = false := List.forall_mem_cons.mpr ⟨⟨⟨RX0, TX0, 5, "PageDesks$Queue", rfl, rfl, by decide, by decide, uw_X9_kinds_0, (List.mem_of_getElem? (i := 3) rfl), Or.inl rfl⟩, rfl⟩, List.forall_mem_cons.mpr ⟨⟨⟨RX3, TX3, 5, "PageDesks$Queue", rfl, rfl, by decide, by decide, uw_X9_kinds_3, (List.mem_of_getElem? (i := 3) rfl), Or.inl rfl⟩, rfl⟩, List.forall_mem_cons.mpr ⟨⟨⟨RX5, TX5, 5, "PageDesks$Queue", rfl, rfl, by decide, by decide, uw_X9_kinds_5, (List.mem_of_getElem? (i := 3) rfl), Or.inl rfl⟩, rfl⟩, fun _ h => absurd h List.not_mem_nil⟩⟩⟩
set_option maxRecDepth 100000 in
set_option maxHeartbeats 4000000 in
theorem t_X9_kinds_60 {f : Fx} {g : Gm} {nd : Nat} {Post : Int32 → Mm → Prop} {Kb : Int32 → Int32 → Int32 → Mm → Prop} (hC : Cx f cX9_kinds 4 RX9 wsX9_kinds rm_X9_kinds) (hG : shP g nd) (hR : RtI f cX9_kinds (fun r u => u.1 = g ∧ Post r u.2)) (hKb : ∀ (x1 : Int32) (x2 : Int32) (x3 : Int32) (I : Mm) , Kb x1 x2 x3 I → PW f 0 0 g I 22 [(0, .ref (gA g 0)), (1, .int x1), (2, .int x2), (3, .int x3)] []) : ∀ (x1 : Int32) (x3 : Int32) (s0 : Int32) (s1 : Int32) (I : Mm) , wp_X9_kinds_60 (gK g) nd Kb Post x1 x3 s0 s1 I → PW f 0 0 g I 60 [(0, .ref (gA g 0)), (1, .int x1), (3, .int x3)] [.int s0, .int s1] := by
  intro x1 x3 s0 s1 I  hw
  unfold wp_X9_kinds_60 at hw
  refine r_ior hC dX9_kinds_60 rfl ?_
  refine r_istore_n hC (lv' := [(2, .int (s1 ||| s0)), (0, .ref (gA g 0)), (1, .int x1), (3, .int x3)]) dX9_kinds_61 rfl rfl (by decide) rfl ?_
  refine r_iinc hC (k := 1) (lv' := [(3, .int (x3 + 1)), (2, .int (s1 ||| s0)), (0, .ref (gA g 0)), (1, .int x1)]) dX9_kinds_62 rfl (j := 3) rfl (by decide) (by decide) rfl ?_
  refine r_goto hC (tgt := 22) dX9_kinds_65 (by decide) ?_
  exact r_sub (lv' := [(0, .ref (gA g 0)), (1, .int x1), (2, .int (s1 ||| s0)), (3, .int (x3 + 1))]) [2, 3, 1, 0] rfl (hKb _ _ _ _ hw)
set_option maxRecDepth 100000 in
set_option maxHeartbeats 4000000 in
theorem t_X9_kinds_22 {f : Fx} {g : Gm} {nd : Nat} {Post : Int32 → Mm → Prop}  (hC : Cx f cX9_kinds 4 RX9 wsX9_kinds rm_X9_kinds) (hG : shP g nd) (hR : RtI f cX9_kinds (fun r u => u.1 = g ∧ Post r u.2))  : ∀ (nn22 : Nat) (x1 : Int32) (x2 : Int32) (x3 : Int32) (I : Mm) , wp_X9_kinds_22 (gK g) nd  Post nn22 x1 x2 x3 I → PW f 0 0 g I 22 [(0, .ref (gA g 0)), (1, .int x1), (2, .int x2), (3, .int x3)] [] := by
  intro nn22
  induction nn22 with
  | zero =>
    intro x1 x2 x3 I  hw
    exact absurd hw id
  | succ nn22 ih =>
    intro x1 x2 x3 I  hw
    unfold wp_X9_kinds_22 at hw
    refine r_iload_n hC dX9_kinds_22 rfl rfl (j := 3) rfl ?_
    refine r_iconst hC (v := (3 : Int32)) dX9_kinds_23 rfl (by decide) ?_
    refine r_icmp_ge hC (tgt := 68) dX9_kinds_24 rfl (by decide) hw (fun hw => ?_) (fun hw => ?_)
    · refine r_iload_n hC dX9_kinds_68 rfl rfl (j := 2) rfl ?_
      exact r_retI hC hR ⟨rfl, rfl⟩ dX9_kinds_69 hw
    · refine r_iload_n hC dX9_kinds_27 rfl rfl (j := 2) rfl ?_
      refine r_aload_n hC dX9_kinds_28 rfl rfl (j := 0) rfl ?_
      refine r_getR hC dX9_kinds_29 rfl hG.o.1 hG.o.2 ffg_X9_kinds_50 hG.r6 ?_
      refine r_iload_n hC dX9_kinds_32 rfl rfl (j := 1) rfl ?_
      refine r_aload_n hC dX9_kinds_33 rfl rfl (j := 0) rfl ?_
      refine r_iload_n hC dX9_kinds_34 rfl rfl (j := 3) rfl ?_
      refine r_aload_n hC dX9_kinds_35 rfl rfl (j := 0) rfl ?_
      refine r_getR hC dX9_kinds_36 rfl hG.o.1 hG.o.2 ffg_X9_kinds_26 hG.r2 ?_
      refine r_iload_n hC dX9_kinds_39 rfl rfl (j := 1) rfl ?_
      obtain ⟨hi, hw⟩ := hw
      have hq5 := hG.desk hi
      refine r_aald hC dX9_kinds_40 rfl hq5.1.1 hq5.1.2.1 hq5.1.2.2 hq5.2.1 ?_
      refine r_getI hC dX9_kinds_41 rfl (hq5.2.2).1.1 (hq5.2.2).1.2 ffg_X9_kinds_109 ?_
      refine r_callI hC (a_V hC (k := 9) (c_X9_hitsOf hG hw) ci_X9_hitsOf gX9_kinds_X9_hitsOf rfl ⟨Nat.le_of_ble_eq_true rfl, Nat.le_of_ble_eq_true rfl⟩ ⟨Nat.le_of_ble_eq_true rfl, Nat.le_of_ble_eq_true rfl⟩ rfl (by decide) hG.o.1 (List.mem_singleton.mp hG.o.2) rfl rfl (Nat.le_of_ble_eq_true rfl) dX9_kinds_44) ⟨rfl, rfl⟩ rfl (fun r6 J7 hw => ?_)
      refine r_callI hC (a_V hC (k := 4) (c_X4_agree hG.g hw) ci_X4_agree gX9_kinds_X4_agree rfl ⟨Nat.le_of_ble_eq_true rfl, Nat.le_of_ble_eq_true rfl⟩ ⟨Nat.le_of_ble_eq_true rfl, Nat.le_of_ble_eq_true rfl⟩ rfl (by decide) (hG.g).1.1 (List.mem_singleton.mp (hG.g).1.2) rfl rfl (Nat.le_of_ble_eq_true rfl) dX9_kinds_47) ⟨rfl, rfl⟩ rfl (fun r8 J9 hw => ?_)
      refine r_if_eq hC (tgt := 59) dX9_kinds_50 rfl (by decide) hw (fun hw => ?_) (fun hw => ?_)
      · refine r_iconst hC (v := (0 : Int32)) dX9_kinds_59 rfl (by decide) ?_
        exact r_sub (lv' := [(0, .ref (gA g 0)), (1, .int x1), (3, .int x3)]) [0, 1, 3] rfl (t_X9_kinds_60 hC hG hR (fun x1 x2 x3 I  hw => ih x1 x2 x3 I  hw) _ _ _ _ _ hw)
      · refine r_iconst hC (v := (1 : Int32)) dX9_kinds_53 rfl (by decide) ?_
        refine r_iload_n hC dX9_kinds_54 rfl rfl (j := 3) rfl ?_
        refine r_ishl hC dX9_kinds_55 rfl ?_
        refine r_goto hC (tgt := 60) dX9_kinds_56 (by decide) ?_
        exact r_sub (lv' := [(0, .ref (gA g 0)), (1, .int x1), (3, .int x3)]) [0, 1, 3] rfl (t_X9_kinds_60 hC hG hR (fun x1 x2 x3 I  hw => ih x1 x2 x3 I  hw) _ _ _ _ _ hw)
set_option maxRecDepth 100000 in
set_option maxHeartbeats 4000000 in
theorem t_X9_kinds_0 {f : Fx} {g : Gm} {nd : Nat} {Post : Int32 → Mm → Prop} {x1 : Int32} {I : Mm} (hC : Cx f cX9_kinds 4 RX9 wsX9_kinds rm_X9_kinds) (hG : shP g nd) (hR : RtI f cX9_kinds (fun r u => u.1 = g ∧ Post r u.2)) (hw : wp_X9_kinds (gK g) nd x1 I Post) : PW f 0 0 g I 0 [(0, .ref (gA g 0)), (1, .int x1)] [] := by
  unfold wp_X9_kinds at hw
  refine r_aload_n hC dX9_kinds_0 rfl rfl (j := 0) rfl ?_
  refine r_iload_n hC dX9_kinds_1 rfl rfl (j := 1) rfl ?_
  refine r_callI hC (a_V hC (k := 9) (c_X9_isDesk hG hw) ci_X9_isDesk gX9_kinds_X9_isDesk rfl ⟨Nat.le_of_ble_eq_true rfl, Nat.le_of_ble_eq_true rfl⟩ ⟨Nat.le_of_ble_eq_true rfl, Nat.le_of_ble_eq_true rfl⟩ rfl (by decide) hG.o.1 (List.mem_singleton.mp hG.o.2) rfl rfl (Nat.le_of_ble_eq_true rfl) dX9_kinds_2) ⟨rfl, rfl⟩ rfl (fun r1 J2 hw => ?_)
  refine r_if_ne hC (tgt := 10) dX9_kinds_5 rfl (by decide) hw (fun hw => ?_) (fun hw => ?_)
  · refine r_iconst hC (v := (0 : Int32)) dX9_kinds_10 rfl (by decide) ?_
    refine r_istore_n hC (lv' := [(2, .int (0 : Int32)), (0, .ref (gA g 0)), (1, .int x1)]) dX9_kinds_11 rfl rfl (by decide) rfl ?_
    refine r_aload_n hC dX9_kinds_12 rfl rfl (j := 1) rfl ?_
    refine r_iload_n hC dX9_kinds_13 rfl rfl (j := 2) rfl ?_
    refine r_callI hC (a_V hC (k := 9) (c_X9_othersAgree hG hw) ci_X9_othersAgree gX9_kinds_X9_othersAgree rfl ⟨Nat.le_of_ble_eq_true rfl, Nat.le_of_ble_eq_true rfl⟩ ⟨Nat.le_of_ble_eq_true rfl, Nat.le_of_ble_eq_true rfl⟩ rfl (by decide) hG.o.1 (List.mem_singleton.mp hG.o.2) rfl rfl (Nat.le_of_ble_eq_true rfl) dX9_kinds_14) ⟨rfl, rfl⟩ rfl (fun r3 J4 hw => ?_)
    refine r_if_eq hC (tgt := 68) dX9_kinds_17 rfl (by decide) hw (fun hw => ?_) (fun hw => ?_)
    · refine r_iload_n hC dX9_kinds_68 rfl rfl (j := 0) rfl ?_
      exact r_retI hC hR ⟨rfl, rfl⟩ dX9_kinds_69 hw
    · refine r_iconst hC (v := (0 : Int32)) dX9_kinds_20 rfl (by decide) ?_
      refine r_istore_n hC (lv' := [(3, .int (0 : Int32)), (2, .int (0 : Int32)), (0, .ref (gA g 0)), (1, .int x1)]) dX9_kinds_21 rfl rfl (by decide) rfl ?_
      obtain ⟨nn22, hw⟩ := hw
      exact r_sub (lv' := [(0, .ref (gA g 0)), (1, .int x1), (2, .int (0 : Int32)), (3, .int (0 : Int32))]) [2, 3, 1, 0] rfl ((t_X9_kinds_22 hC hG hR nn22 _ _ _ _ hw))
  · refine r_iconst hC (v := (-1 : Int32)) dX9_kinds_8 rfl (by decide) ?_
    exact r_retI hC hR ⟨rfl, rfl⟩ dX9_kinds_9 hw
set_option maxRecDepth 100000 in
theorem c_X9_kinds {l : Launch} {x : Gx} {g : Gm} {nd : Nat} {x1 : Int32} {I : Mm} {Post : Int32 → Mm → Prop} (hG : shP g nd) (hw : wp_X9_kinds (gK g) nd x1 I Post) : KI l x yX9_kinds wsX9_kinds rm_X9_kinds g I [.ref (gA g 0), .int x1] (fun r u => u.1 = g ∧ Post r u.2) := KI_of (by decide) rfl rfl (Nat.le_of_ble_eq_true rfl) (fun f hC _ _ hR => t_X9_kinds_0 hC hG hR hw)

/-! X9_commonMeasure -/
abbrev rm_X9_commonMeasure : Room := { frames := 1, cells := 0, slots := 0, locals := 48 }
theorem ci_X9_commonMeasure : CI yX9_commonMeasure wsX9_commonMeasure cX9_commonMeasure 11 (some .long) 2 := ⟨⟨_, rfl⟩, by decide, by decide, by decide +kernel⟩
def wp_X9_commonMeasure_9  (K44 : Int64 → Mm → Prop) (Post : Int64 → Mm → Prop) : Nat → Int64 → Int64 → Int32 → Mm → Prop
  | 0, _, _, _, _ => False
  | nn9 + 1, y4, y6, x8, I => if (64 : Int32) ≤ x8 then (K44 y6 I) else (if (lg_cmp y4 (0 : Int64)) ≤ 0 then (K44 y6 I) else ((¬ y4 = 0) ∧ (wp_X9_commonMeasure_9 K44 Post nn9 (y6 - y6 / y4 * y4) y4 (x8 + 1) I)))
def wp_X9_commonMeasure_44   (Post : Int64 → Mm → Prop) (y6 : Int64) (I : Mm) : Prop := Post (if y6 < (1 : Int64) then (1 : Int64) else y6) I
def wp_X9_commonMeasure  (y0 : Int64) (y2 : Int64) (I : Mm) (Post : Int64 → Mm → Prop) : Prop := ∃ nn9, wp_X9_commonMeasure_9 (fun y6 I => wp_X9_commonMeasure_44  Post y6 I) Post nn9 y0 y2 (0 : Int32) I

set_option maxRecDepth 100000 in
set_option maxHeartbeats 4000000 in
theorem t_X9_commonMeasure_9 {f : Fx} {g : Gm}  {Post : Int64 → Mm → Prop} {K44 : Int64 → Mm → Prop} (hC : Cx f cX9_commonMeasure 11 RX9 wsX9_commonMeasure rm_X9_commonMeasure)  (hR : RtL f cX9_commonMeasure (fun r u => u.1 = g ∧ Post r u.2)) (hK44 : ∀ (y6 : Int64) (I : Mm) , K44 y6 I → PW f 0 0 g I 44 [(6, .long y6)] []) : ∀ (nn9 : Nat) (y4 : Int64) (y6 : Int64) (x8 : Int32) (I : Mm) , wp_X9_commonMeasure_9  K44 Post nn9 y4 y6 x8 I → PW f 0 0 g I 9 [(4, .long y4), (6, .long y6), (8, .int x8)] [] := by
  intro nn9
  induction nn9 with
  | zero =>
    intro y4 y6 x8 I  hw
    exact absurd hw id
  | succ nn9 ih =>
    intro y4 y6 x8 I  hw
    unfold wp_X9_commonMeasure_9 at hw
    refine r_iload hC dX9_commonMeasure_9 rfl (j := 2) rfl ?_
    refine r_bipush hC (v := (64 : Int32)) dX9_commonMeasure_11 rfl (by decide) ?_
    refine r_icmp_ge hC (tgt := 44) dX9_commonMeasure_13 rfl (by decide) hw (fun hw => ?_) (fun hw => ?_)
    · exact r_sub (lv' := [(6, .long y6)]) [1] rfl (hK44 _ _ hw)
    · refine r_lload hC dX9_commonMeasure_16 rfl (j := 0) rfl ?_
      refine r_lconst hC (v := (0 : Int64)) dX9_commonMeasure_18 rfl (by decide) ?_
      refine r_lcmp hC dX9_commonMeasure_19 rfl ?_
      refine r_if_le hC (tgt := 44) dX9_commonMeasure_20 rfl (by decide) hw (fun hw => ?_) (fun hw => ?_)
      · exact r_sub (lv' := [(6, .long y6)]) [1] rfl (hK44 _ _ hw)
      · refine r_lload hC dX9_commonMeasure_23 rfl (j := 1) rfl ?_
        refine r_lload hC dX9_commonMeasure_25 rfl (j := 0) rfl ?_
        obtain ⟨hne, hw⟩ := hw
        refine r_lrem hC dX9_commonMeasure_27 rfl hne ?_
        refine r_lstore hC (lv' := [(9, .long (y6 - y6 / y4 * y4)), (4, .long y4), (6, .long y6), (8, .int x8)]) dX9_commonMeasure_28 rfl (by decide) rfl ?_
        refine r_lload hC dX9_commonMeasure_30 rfl (j := 1) rfl ?_
        refine r_lstore hC (lv' := [(6, .long y4), (9, .long (y6 - y6 / y4 * y4)), (4, .long y4), (8, .int x8)]) dX9_commonMeasure_32 rfl (by decide) rfl ?_
        refine r_lload hC dX9_commonMeasure_34 rfl (j := 1) rfl ?_
        refine r_lstore hC (lv' := [(4, .long (y6 - y6 / y4 * y4)), (6, .long y4), (9, .long (y6 - y6 / y4 * y4)), (8, .int x8)]) dX9_commonMeasure_36 rfl (by decide) rfl ?_
        refine r_iinc hC (k := 1) (lv' := [(8, .int (x8 + 1)), (4, .long (y6 - y6 / y4 * y4)), (6, .long y4), (9, .long (y6 - y6 / y4 * y4))]) dX9_commonMeasure_38 rfl (j := 3) rfl (by decide) (by decide) rfl ?_
        refine r_goto hC (tgt := 9) dX9_commonMeasure_41 (by decide) ?_
        exact r_sub (lv' := [(4, .long (y6 - y6 / y4 * y4)), (6, .long y4), (8, .int (x8 + 1))]) [1, 2, 0] rfl (ih _ _ _ _ hw)
set_option maxRecDepth 100000 in
set_option maxHeartbeats 4000000 in
theorem t_X9_commonMeasure_44 {f : Fx} {g : Gm}  {Post : Int64 → Mm → Prop}  (hC : Cx f cX9_commonMeasure 11 RX9 wsX9_commonMeasure rm_X9_commonMeasure)  (hR : RtL f cX9_commonMeasure (fun r u => u.1 = g ∧ Post r u.2))  : ∀ (y6 : Int64) (I : Mm) , wp_X9_commonMeasure_44   Post y6 I → PW f 0 0 g I 44 [(6, .long y6)] [] := by
  intro y6 I  hw
  unfold wp_X9_commonMeasure_44 at hw
  refine r_lconst hC (v := (1 : Int64)) dX9_commonMeasure_44 rfl (by decide) ?_
  refine r_lload hC dX9_commonMeasure_45 rfl (j := 0) rfl ?_
  refine r_mmaxl hC dX9_commonMeasure_47 rfl (List.mem_of_getElem? (i := 1) rfl) (List.mem_of_getElem? (i := 2) rfl) (List.mem_of_getElem? (i := 3) rfl) (List.mem_of_getElem? (i := 4) rfl) (by decide) (Nat.le_of_ble_eq_true rfl) ⟨Nat.le_of_ble_eq_true rfl, Nat.le_of_ble_eq_true rfl⟩ ?_
  exact r_retL hC hR ⟨rfl, rfl⟩ dX9_commonMeasure_50 hw
set_option maxRecDepth 100000 in
set_option maxHeartbeats 4000000 in
theorem t_X9_commonMeasure_0 {f : Fx} {g : Gm}  {Post : Int64 → Mm → Prop} {y0 : Int64} {y2 : Int64} {I : Mm} (hC : Cx f cX9_commonMeasure 11 RX9 wsX9_commonMeasure rm_X9_commonMeasure)  (hR : RtL f cX9_commonMeasure (fun r u => u.1 = g ∧ Post r u.2)) (hw : wp_X9_commonMeasure  y0 y2 I Post) : PW f 0 0 g I 0 [(0, .long y0), (2, .long y2)] [] := by
  unfold wp_X9_commonMeasure at hw
  refine r_lload_n hC dX9_commonMeasure_0 rfl rfl (j := 0) rfl ?_
  refine r_lstore hC (lv' := [(4, .long y0), (0, .long y0), (2, .long y2)]) dX9_commonMeasure_1 rfl (by decide) rfl ?_
  refine r_lload_n hC dX9_commonMeasure_3 rfl rfl (j := 2) rfl ?_
  refine r_lstore hC (lv' := [(6, .long y2), (4, .long y0), (0, .long y0), (2, .long y2)]) dX9_commonMeasure_4 rfl (by decide) rfl ?_
  refine r_iconst hC (v := (0 : Int32)) dX9_commonMeasure_6 rfl (by decide) ?_
  refine r_istore hC (lv' := [(8, .int (0 : Int32)), (6, .long y2), (4, .long y0), (0, .long y0), (2, .long y2)]) dX9_commonMeasure_7 rfl (by decide) rfl ?_
  obtain ⟨nn9, hw⟩ := hw
  exact r_sub (lv' := [(4, .long y0), (6, .long y2), (8, .int (0 : Int32))]) [2, 1, 0] rfl ((t_X9_commonMeasure_9 hC hR (fun y6 I  hw => t_X9_commonMeasure_44 hC hR _ _ hw) nn9 _ _ _ _ hw))
set_option maxRecDepth 100000 in
theorem c_X9_commonMeasure {l : Launch} {x : Gx} {g : Gm}  {y0 : Int64} {y2 : Int64} {I : Mm} {Post : Int64 → Mm → Prop}  (hw : wp_X9_commonMeasure  y0 y2 I Post) : KL l x yX9_commonMeasure wsX9_commonMeasure rm_X9_commonMeasure g I [.long y0, .long y2] (fun r u => u.1 = g ∧ Post r u.2) := KL_of (by decide) rfl rfl (Nat.le_of_ble_eq_true rfl) (fun f hC _ _ hR => t_X9_commonMeasure_0 hC  hR hw)

/-! X9_odds -/
abbrev rm_X9_odds : Room := { frames := 2, cells := 0, slots := 0, locals := 78 }
theorem ci_X9_odds : CI yX9_odds wsX9_odds cX9_odds 10 (some .long) 3 := ⟨⟨_, rfl⟩, by decide, by decide, by decide +kernel⟩
def wp_X9_odds_39 (ki : Nat → Nat) (nd : Nat) (K74 : Int32 → Int64 → Int64 → Mm → Prop) (Post : Int64 → Mm → Prop) : Nat → Int32 → Int32 → Int32 → Int64 → Int64 → Int32 → Mm → Prop
  | 0, _, _, _, _, _, _, _ => False
  | nn39 + 1, x1, x2, x3, y4, y6, x8, I => if x2 ≤ x8 then (K74 x3 y4 y6 I) else (vp_in x1 nd ∧ (wp_X9_odds_39 ki nd K74 Post nn39 x1 x2 x3 (y4 * ((I (40 + x1.toNatClampNeg) 2).toInt64)) (y6 * (8 : Int64)) (x8 + 1) I))
def wp_X9_odds_74 (ki : Nat → Nat) (nd : Nat)  (Post : Int64 → Mm → Prop) (x3 : Int32) (y4 : Int64) (y6 : Int64) (I : Mm) : Prop := wp_X9_commonMeasure y4 y6 I (fun r7 J8 => if x3 = 0 then ((¬ r7 = 0) ∧ (Post (y4 / r7) J8)) else ((¬ r7 = 0) ∧ (Post (y6 / r7) J8)))
def wp_X9_odds (ki : Nat → Nat) (nd : Nat) (x1 : Int32) (x2 : Int32) (x3 : Int32) (I : Mm) (Post : Int64 → Mm → Prop) : Prop := wp_X9_isDesk ki nd x1 I (fun r1 J2 => if r1 = 0 then (Post (-9223372036854775808 : Int64) J2) else (wp_X9_isWithin x2 (0 : Int32) (3 : Int32) J2 (fun r3 J4 => if r3 = 0 then (Post (-9223372036854775808 : Int64) J4) else (wp_X9_isWithin x3 (0 : Int32) (1 : Int32) J4 (fun r5 J6 => if r5 = 0 then (Post (-9223372036854775808 : Int64) J6) else (∃ nn39, wp_X9_odds_39 ki nd (fun x3 y4 y6 I => wp_X9_odds_74 ki nd Post x3 y4 y6 I) Post nn39 x1 x2 x3 (1 : Int64) (1 : Int64) (0 : Int32) J6))))))
set_option maxRecDepth 20000 in
theorem uw_X9_odds_9 : ∀ w ∈ u_ws RX9 TX9 11, w ∈ wsX9_odds := by decide +kernel
set_option maxRecDepth 20000 in
theorem ffg_X9_odds_26 : ∀ k ∈ ([9] : List Nat), FF wsX9_odds RX9 26 k 2 ∧ fR k 2 = true := List.forall_mem_cons.mpr ⟨⟨⟨RX9, TX9, 11, "PageDesks", rfl, rfl, by decide, by decide, uw_X9_odds_9, (List.mem_of_getElem? (i := 2) rfl), Or.inl rfl⟩, rfl⟩, fun _ h => absurd h List.not_mem_nil⟩
set_option maxRecDepth 20000 in
theorem uw_X9_odds_0 : ∀ w ∈ u_ws RX0 TX0 5, w ∈ wsX9_odds := by decide +kernel
set_option maxRecDepth 20000 in
theorem uw_X9_odds_3 : ∀ w ∈ u_ws RX3 TX3 5, w ∈ wsX9_odds := by decide +kernel
set_option maxRecDepth 20000 in
theorem uw_X9_odds_5 : ∀ w ∈ u_ws RX5 TX5 5, w ∈ wsX9_odds := by decide +kernel
set_option maxRecDepth 20000 in
theorem ffg_X9_odds_124 : ∀ k ∈ ([0, 3, 5] : List Nat), FF wsX9_odds RX9 124 k 2 ∧ fR k 2 = false := List.forall_mem_cons.mpr ⟨⟨⟨RX0, TX0, 5, "PageDesks$Queue", rfl, rfl, by decide, by decide, uw_X9_odds_0, (List.mem_of_getElem? (i := 3) rfl), Or.inl rfl⟩, rfl⟩, List.forall_mem_cons.mpr ⟨⟨⟨RX3, TX3, 5, "PageDesks$Queue", rfl, rfl, by decide, by decide, uw_X9_odds_3, (List.mem_of_getElem? (i := 3) rfl), Or.inl rfl⟩, rfl⟩, List.forall_mem_cons.mpr ⟨⟨⟨RX5, TX5, 5, "PageDesks$Queue", rfl, rfl, by decide, by decide, uw_X9_odds_5, (List.mem_of_getElem? (i := 3) rfl), Or.inl rfl⟩, rfl⟩, fun _ h => absurd h List.not_mem_nil⟩⟩⟩
set_option maxRecDepth 100000 in
set_option maxHeartbeats 4000000 in
theorem t_X9_odds_39 {f : Fx} {g : Gm} {nd : Nat} {Post : Int64 → Mm → Prop} {K74 : Int32 → Int64 → Int64 → Mm → Prop} (hC : Cx f cX9_odds 10 RX9 wsX9_odds rm_X9_odds) (hG : shP g nd) (hR : RtL f cX9_odds (fun r u => u.1 = g ∧ Post r u.2)) (hK74 : ∀ (x3 : Int32) (y4 : Int64) (y6 : Int64) (I : Mm) , K74 x3 y4 y6 I → PW f 0 0 g I 74 [(3, .int x3), (4, .long y4), (6, .long y6)] []) : ∀ (nn39 : Nat) (x1 : Int32) (x2 : Int32) (x3 : Int32) (y4 : Int64) (y6 : Int64) (x8 : Int32) (I : Mm) , wp_X9_odds_39 (gK g) nd K74 Post nn39 x1 x2 x3 y4 y6 x8 I → PW f 0 0 g I 39 [(0, .ref (gA g 0)), (1, .int x1), (2, .int x2), (3, .int x3), (4, .long y4), (6, .long y6), (8, .int x8)] [] := by
  intro nn39
  induction nn39 with
  | zero =>
    intro x1 x2 x3 y4 y6 x8 I  hw
    exact absurd hw id
  | succ nn39 ih =>
    intro x1 x2 x3 y4 y6 x8 I  hw
    unfold wp_X9_odds_39 at hw
    refine r_iload hC dX9_odds_39 rfl (j := 6) rfl ?_
    refine r_iload_n hC dX9_odds_41 rfl rfl (j := 2) rfl ?_
    refine r_icmp_ge hC (tgt := 74) dX9_odds_42 rfl (by decide) hw (fun hw => ?_) (fun hw => ?_)
    · exact r_sub (lv' := [(3, .int x3), (4, .long y4), (6, .long y6)]) [3, 4, 5] rfl (hK74 _ _ _ _ hw)
    · refine r_lload hC dX9_odds_45 rfl (j := 4) rfl ?_
      refine r_aload_n hC dX9_odds_47 rfl rfl (j := 0) rfl ?_
      refine r_getR hC dX9_odds_48 rfl hG.o.1 hG.o.2 ffg_X9_odds_26 hG.r2 ?_
      refine r_iload_n hC dX9_odds_51 rfl rfl (j := 1) rfl ?_
      obtain ⟨hi, hw⟩ := hw
      have hq9 := hG.desk hi
      refine r_aald hC dX9_odds_52 rfl hq9.1.1 hq9.1.2.1 hq9.1.2.2 hq9.2.1 ?_
      refine r_getI hC dX9_odds_53 rfl (hq9.2.2).1.1 (hq9.2.2).1.2 ffg_X9_odds_124 ?_
      refine r_i2l hC dX9_odds_56 rfl ?_
      refine r_lmul hC dX9_odds_57 rfl ?_
      refine r_lstore hC (lv' := [(4, .long (y4 * ((I (40 + x1.toNatClampNeg) 2).toInt64))), (0, .ref (gA g 0)), (1, .int x1), (2, .int x2), (3, .int x3), (6, .long y6), (8, .int x8)]) dX9_odds_58 rfl (by decide) rfl ?_
      refine r_lload hC dX9_odds_60 rfl (j := 5) rfl ?_
      refine r_ldc2 hC (v := (8 : Int64)) dX9_odds_62 rfl (List.mem_of_getElem? (i := 4) rfl) ?_
      refine r_lmul hC dX9_odds_65 rfl ?_
      refine r_lstore hC (lv' := [(6, .long (y6 * (8 : Int64))), (4, .long (y4 * ((I (40 + x1.toNatClampNeg) 2).toInt64))), (0, .ref (gA g 0)), (1, .int x1), (2, .int x2), (3, .int x3), (8, .int x8)]) dX9_odds_66 rfl (by decide) rfl ?_
      refine r_iinc hC (k := 1) (lv' := [(8, .int (x8 + 1)), (6, .long (y6 * (8 : Int64))), (4, .long (y4 * ((I (40 + x1.toNatClampNeg) 2).toInt64))), (0, .ref (gA g 0)), (1, .int x1), (2, .int x2), (3, .int x3)]) dX9_odds_68 rfl (j := 6) rfl (by decide) (by decide) rfl ?_
      refine r_goto hC (tgt := 39) dX9_odds_71 (by decide) ?_
      exact r_sub (lv' := [(0, .ref (gA g 0)), (1, .int x1), (2, .int x2), (3, .int x3), (4, .long (y4 * ((I (40 + x1.toNatClampNeg) 2).toInt64))), (6, .long (y6 * (8 : Int64))), (8, .int (x8 + 1))]) [3, 4, 5, 6, 2, 1, 0] rfl (ih _ _ _ _ _ _ _ hw)
set_option maxRecDepth 100000 in
set_option maxHeartbeats 4000000 in
theorem t_X9_odds_74 {f : Fx} {g : Gm} {nd : Nat} {Post : Int64 → Mm → Prop}  (hC : Cx f cX9_odds 10 RX9 wsX9_odds rm_X9_odds) (hG : shP g nd) (hR : RtL f cX9_odds (fun r u => u.1 = g ∧ Post r u.2))  : ∀ (x3 : Int32) (y4 : Int64) (y6 : Int64) (I : Mm) , wp_X9_odds_74 (gK g) nd  Post x3 y4 y6 I → PW f 0 0 g I 74 [(3, .int x3), (4, .long y4), (6, .long y6)] [] := by
  intro x3 y4 y6 I  hw
  unfold wp_X9_odds_74 at hw
  refine r_lload hC dX9_odds_74 rfl (j := 1) rfl ?_
  refine r_lload hC dX9_odds_76 rfl (j := 2) rfl ?_
  refine r_callL hC (a_S hC (c_X9_commonMeasure  hw) ci_X9_commonMeasure gX9_odds_X9_commonMeasure ⟨Nat.le_of_ble_eq_true rfl, Nat.le_of_ble_eq_true rfl⟩ ⟨Nat.le_of_ble_eq_true rfl, Nat.le_of_ble_eq_true rfl⟩ rfl rfl (Nat.le_of_ble_eq_true rfl) dX9_odds_78) ⟨rfl, rfl⟩ rfl (fun r7 J8 hw => ?_)
  refine r_lstore hC (lv' := [(8, .long r7), (3, .int x3), (4, .long y4), (6, .long y6)]) dX9_odds_81 rfl (by decide) rfl ?_
  refine r_iload_n hC dX9_odds_83 rfl rfl (j := 1) rfl ?_
  refine r_if_ne hC (tgt := 92) dX9_odds_84 rfl (by decide) hw (fun hw => ?_) (fun hw => ?_)
  · refine r_lload hC dX9_odds_92 rfl (j := 3) rfl ?_
    refine r_lload hC dX9_odds_94 rfl (j := 0) rfl ?_
    obtain ⟨hne, hw⟩ := hw
    refine r_ldiv hC dX9_odds_96 rfl hne ?_
    exact r_retL hC hR ⟨rfl, rfl⟩ dX9_odds_97 hw
  · refine r_lload hC dX9_odds_87 rfl (j := 2) rfl ?_
    refine r_goto hC (tgt := 94) dX9_odds_89 (by decide) ?_
    refine r_lload hC dX9_odds_94 rfl (j := 0) rfl ?_
    obtain ⟨hne, hw⟩ := hw
    refine r_ldiv hC dX9_odds_96 rfl hne ?_
    exact r_retL hC hR ⟨rfl, rfl⟩ dX9_odds_97 hw
set_option maxRecDepth 100000 in
set_option maxHeartbeats 4000000 in
theorem t_X9_odds_0 {f : Fx} {g : Gm} {nd : Nat} {Post : Int64 → Mm → Prop} {x1 : Int32} {x2 : Int32} {x3 : Int32} {I : Mm} (hC : Cx f cX9_odds 10 RX9 wsX9_odds rm_X9_odds) (hG : shP g nd) (hR : RtL f cX9_odds (fun r u => u.1 = g ∧ Post r u.2)) (hw : wp_X9_odds (gK g) nd x1 x2 x3 I Post) : PW f 0 0 g I 0 [(0, .ref (gA g 0)), (1, .int x1), (2, .int x2), (3, .int x3)] [] := by
  unfold wp_X9_odds at hw
  refine r_aload_n hC dX9_odds_0 rfl rfl (j := 0) rfl ?_
  refine r_iload_n hC dX9_odds_1 rfl rfl (j := 1) rfl ?_
  refine r_callI hC (a_V hC (k := 9) (c_X9_isDesk hG hw) ci_X9_isDesk gX9_odds_X9_isDesk rfl ⟨Nat.le_of_ble_eq_true rfl, Nat.le_of_ble_eq_true rfl⟩ ⟨Nat.le_of_ble_eq_true rfl, Nat.le_of_ble_eq_true rfl⟩ rfl (by decide) hG.o.1 (List.mem_singleton.mp hG.o.2) rfl rfl (Nat.le_of_ble_eq_true rfl) dX9_odds_2) ⟨rfl, rfl⟩ rfl (fun r1 J2 hw => ?_)
  refine r_if_eq hC (tgt := 26) dX9_odds_5 rfl (by decide) hw (fun hw => ?_) (fun hw => ?_)
  · refine r_ldc2 hC (v := (-9223372036854775808 : Int64)) dX9_odds_26 rfl (List.mem_of_getElem? (i := 1) rfl) ?_
    exact r_retL hC hR ⟨rfl, rfl⟩ dX9_odds_29 hw
  · refine r_iload_n hC dX9_odds_8 rfl rfl (j := 2) rfl ?_
    refine r_iconst hC (v := (0 : Int32)) dX9_odds_9 rfl (by decide) ?_
    refine r_iconst hC (v := (3 : Int32)) dX9_odds_10 rfl (by decide) ?_
    refine r_callI hC (a_S hC (c_X9_isWithin  hw) ci_X9_isWithin gX9_odds_X9_isWithin ⟨Nat.le_of_ble_eq_true rfl, Nat.le_of_ble_eq_true rfl⟩ ⟨Nat.le_of_ble_eq_true rfl, Nat.le_of_ble_eq_true rfl⟩ rfl rfl (Nat.le_of_ble_eq_true rfl) dX9_odds_11) ⟨rfl, rfl⟩ rfl (fun r3 J4 hw => ?_)
    refine r_if_eq hC (tgt := 26) dX9_odds_14 rfl (by decide) hw (fun hw => ?_) (fun hw => ?_)
    · refine r_ldc2 hC (v := (-9223372036854775808 : Int64)) dX9_odds_26 rfl (List.mem_of_getElem? (i := 1) rfl) ?_
      exact r_retL hC hR ⟨rfl, rfl⟩ dX9_odds_29 hw
    · refine r_iload_n hC dX9_odds_17 rfl rfl (j := 3) rfl ?_
      refine r_iconst hC (v := (0 : Int32)) dX9_odds_18 rfl (by decide) ?_
      refine r_iconst hC (v := (1 : Int32)) dX9_odds_19 rfl (by decide) ?_
      refine r_callI hC (a_S hC (c_X9_isWithin  hw) ci_X9_isWithin gX9_odds_X9_isWithin ⟨Nat.le_of_ble_eq_true rfl, Nat.le_of_ble_eq_true rfl⟩ ⟨Nat.le_of_ble_eq_true rfl, Nat.le_of_ble_eq_true rfl⟩ rfl rfl (Nat.le_of_ble_eq_true rfl) dX9_odds_20) ⟨rfl, rfl⟩ rfl (fun r5 J6 hw => ?_)
      refine r_if_ne hC (tgt := 30) dX9_odds_23 rfl (by decide) hw (fun hw => ?_) (fun hw => ?_)
      · refine r_lconst hC (v := (1 : Int64)) dX9_odds_30 rfl (by decide) ?_
        refine r_lstore hC (lv' := [(4, .long (1 : Int64)), (0, .ref (gA g 0)), (1, .int x1), (2, .int x2), (3, .int x3)]) dX9_odds_31 rfl (by decide) rfl ?_
        refine r_lconst hC (v := (1 : Int64)) dX9_odds_33 rfl (by decide) ?_
        refine r_lstore hC (lv' := [(6, .long (1 : Int64)), (4, .long (1 : Int64)), (0, .ref (gA g 0)), (1, .int x1), (2, .int x2), (3, .int x3)]) dX9_odds_34 rfl (by decide) rfl ?_
        refine r_iconst hC (v := (0 : Int32)) dX9_odds_36 rfl (by decide) ?_
        refine r_istore hC (lv' := [(8, .int (0 : Int32)), (6, .long (1 : Int64)), (4, .long (1 : Int64)), (0, .ref (gA g 0)), (1, .int x1), (2, .int x2), (3, .int x3)]) dX9_odds_37 rfl (by decide) rfl ?_
        obtain ⟨nn39, hw⟩ := hw
        exact r_sub (lv' := [(0, .ref (gA g 0)), (1, .int x1), (2, .int x2), (3, .int x3), (4, .long (1 : Int64)), (6, .long (1 : Int64)), (8, .int (0 : Int32))]) [3, 4, 5, 6, 2, 1, 0] rfl ((t_X9_odds_39 hC hG hR (fun x3 y4 y6 I  hw => t_X9_odds_74 hC hG hR _ _ _ _ hw) nn39 _ _ _ _ _ _ _ hw))
      · refine r_ldc2 hC (v := (-9223372036854775808 : Int64)) dX9_odds_26 rfl (List.mem_of_getElem? (i := 1) rfl) ?_
        exact r_retL hC hR ⟨rfl, rfl⟩ dX9_odds_29 hw
set_option maxRecDepth 100000 in
theorem c_X9_odds {l : Launch} {x : Gx} {g : Gm} {nd : Nat} {x1 : Int32} {x2 : Int32} {x3 : Int32} {I : Mm} {Post : Int64 → Mm → Prop} (hG : shP g nd) (hw : wp_X9_odds (gK g) nd x1 x2 x3 I Post) : KL l x yX9_odds wsX9_odds rm_X9_odds g I [.ref (gA g 0), .int x1, .int x2, .int x3] (fun r u => u.1 = g ∧ Post r u.2) := KL_of (by decide) rfl rfl (Nat.le_of_ble_eq_true rfl) (fun f hC _ _ hR => t_X9_odds_0 hC hG hR hw)

/-! X9_sheet -/
abbrev rm_X9_sheet : Room := { frames := 2, cells := 0, slots := 0, locals := 42 }
theorem ci_X9_sheet : CI yX9_sheet wsX9_sheet cX9_sheet 4 (some .int) 3 := ⟨⟨_, rfl⟩, by decide, by decide, by decide +kernel⟩
def wp_X9_sheet_28 (ki : Nat → Nat) (nd : Nat)  (Post : Int32 → Mm → Prop)  (I : Mm) : Prop := wp_X9_refused ki nd (-2 : Int32) I (fun r12 J13 => Post r12 J13)
def wp_X9_sheet (ki : Nat → Nat) (nd : Nat) (x1 : Int32) (x2 : Int32) (x3 : Int32) (I : Mm) (Post : Int32 → Mm → Prop) : Prop := wp_X9_isSheet x1 I (fun r1 J2 => if r1 = 0 then (wp_X9_refused ki nd (-1 : Int32) J2 (fun r10 J11 => Post r10 J11)) else (wp_X9_isWithin x2 (0 : Int32) (2 : Int32) J2 (fun r3 J4 => if r3 = 0 then (wp_X9_sheet_28 ki nd Post  J4) else (if x3 ≤ (60 : Int32) then (if 0 ≤ x3 then (vp_in x1 4 ∧ (wp_X6_renew (20 + x1.toNatClampNeg) x2 x3 (up2 J4 0 10 (0 : Int32)) (fun J7 => Post (1 : Int32) J7))) else (wp_X9_faulted ki nd (4 : Int32) J4 (fun r8 J9 => Post r8 J9))) else (wp_X9_sheet_28 ki nd Post  J4)))))
set_option maxRecDepth 20000 in
theorem uw_X9_sheet_9 : ∀ w ∈ u_ws RX9 TX9 11, w ∈ wsX9_sheet := by decide +kernel
set_option maxRecDepth 20000 in
theorem ffp_X9_sheet_88 : ∀ k ∈ ([9] : List Nat), FF wsX9_sheet RX9 88 k 10 ∧ fR k 10 = false ∧ FP k 10 := List.forall_mem_cons.mpr ⟨⟨⟨RX9, TX9, 11, "PageDesks", rfl, rfl, by decide, by decide, uw_X9_sheet_9, (List.mem_of_getElem? (i := 1) rfl), Or.inl rfl⟩, rfl, ⟨RX9, TX9, 11, tyX9, rfl, tyX9_ok, nmX9, rfl, rfl⟩⟩, fun _ h => absurd h List.not_mem_nil⟩
set_option maxRecDepth 20000 in
theorem ffg_X9_sheet_13 : ∀ k ∈ ([9] : List Nat), FF wsX9_sheet RX9 13 k 0 ∧ fR k 0 = true := List.forall_mem_cons.mpr ⟨⟨⟨RX9, TX9, 11, "PageDesks", rfl, rfl, by decide, by decide, uw_X9_sheet_9, (List.mem_of_getElem? (i := 2) rfl), Or.inl rfl⟩, rfl⟩, fun _ h => absurd h List.not_mem_nil⟩
set_option maxRecDepth 100000 in
set_option maxHeartbeats 4000000 in
theorem t_X9_sheet_28 {f : Fx} {g : Gm} {nd : Nat} {Post : Int32 → Mm → Prop}  (hC : Cx f cX9_sheet 4 RX9 wsX9_sheet rm_X9_sheet) (hG : shP g nd) (hR : RtI f cX9_sheet (fun r u => u.1 = g ∧ Post r u.2))  : ∀  (I : Mm) , wp_X9_sheet_28 (gK g) nd  Post  I → PW f 0 0 g I 28 [(0, .ref (gA g 0))] [] := by
  intro  I  hw
  unfold wp_X9_sheet_28 at hw
  refine r_aload_n hC dX9_sheet_28 rfl rfl (j := 0) rfl ?_
  refine r_bipush hC (v := (-2 : Int32)) dX9_sheet_29 rfl (by decide) ?_
  refine r_callI hC (a_V hC (k := 9) (c_X9_refused hG hw) ci_X9_refused gX9_sheet_X9_refused rfl ⟨Nat.le_of_ble_eq_true rfl, Nat.le_of_ble_eq_true rfl⟩ ⟨Nat.le_of_ble_eq_true rfl, Nat.le_of_ble_eq_true rfl⟩ rfl (by decide) hG.o.1 (List.mem_singleton.mp hG.o.2) rfl rfl (Nat.le_of_ble_eq_true rfl) dX9_sheet_31) ⟨rfl, rfl⟩ rfl (fun r12 J13 hw => ?_)
  exact r_retI hC hR ⟨rfl, rfl⟩ dX9_sheet_34 hw
set_option maxRecDepth 100000 in
set_option maxHeartbeats 4000000 in
theorem t_X9_sheet_0 {f : Fx} {g : Gm} {nd : Nat} {Post : Int32 → Mm → Prop} {x1 : Int32} {x2 : Int32} {x3 : Int32} {I : Mm} (hC : Cx f cX9_sheet 4 RX9 wsX9_sheet rm_X9_sheet) (hG : shP g nd) (hR : RtI f cX9_sheet (fun r u => u.1 = g ∧ Post r u.2)) (hw : wp_X9_sheet (gK g) nd x1 x2 x3 I Post) : PW f 0 0 g I 0 [(0, .ref (gA g 0)), (1, .int x1), (2, .int x2), (3, .int x3)] [] := by
  unfold wp_X9_sheet at hw
  refine r_iload_n hC dX9_sheet_0 rfl rfl (j := 1) rfl ?_
  refine r_callI hC (a_S hC (c_X9_isSheet  hw) ci_X9_isSheet gX9_sheet_X9_isSheet ⟨Nat.le_of_ble_eq_true rfl, Nat.le_of_ble_eq_true rfl⟩ ⟨Nat.le_of_ble_eq_true rfl, Nat.le_of_ble_eq_true rfl⟩ rfl rfl (Nat.le_of_ble_eq_true rfl) dX9_sheet_1) ⟨rfl, rfl⟩ rfl (fun r1 J2 hw => ?_)
  refine r_if_ne hC (tgt := 13) dX9_sheet_4 rfl (by decide) hw (fun hw => ?_) (fun hw => ?_)
  · refine r_iload_n hC dX9_sheet_13 rfl rfl (j := 2) rfl ?_
    refine r_iconst hC (v := (0 : Int32)) dX9_sheet_14 rfl (by decide) ?_
    refine r_iconst hC (v := (2 : Int32)) dX9_sheet_15 rfl (by decide) ?_
    refine r_callI hC (a_S hC (c_X9_isWithin  hw) ci_X9_isWithin gX9_sheet_X9_isWithin ⟨Nat.le_of_ble_eq_true rfl, Nat.le_of_ble_eq_true rfl⟩ ⟨Nat.le_of_ble_eq_true rfl, Nat.le_of_ble_eq_true rfl⟩ rfl rfl (Nat.le_of_ble_eq_true rfl) dX9_sheet_16) ⟨rfl, rfl⟩ rfl (fun r3 J4 hw => ?_)
    refine r_if_eq hC (tgt := 28) dX9_sheet_19 rfl (by decide) hw (fun hw => ?_) (fun hw => ?_)
    · exact r_sub (lv' := [(0, .ref (gA g 0))]) [0] rfl (t_X9_sheet_28 hC hG hR _ hw)
    · refine r_iload_n hC dX9_sheet_22 rfl rfl (j := 3) rfl ?_
      refine r_bipush hC (v := (60 : Int32)) dX9_sheet_23 rfl (by decide) ?_
      refine r_icmp_le hC (tgt := 35) dX9_sheet_25 rfl (by decide) hw (fun hw => ?_) (fun hw => ?_)
      · refine r_iload_n hC dX9_sheet_35 rfl rfl (j := 3) rfl ?_
        refine r_if_ge hC (tgt := 45) dX9_sheet_36 rfl (by decide) hw (fun hw => ?_) (fun hw => ?_)
        · refine r_aload_n hC dX9_sheet_45 rfl rfl (j := 0) rfl ?_
          refine r_iconst hC (v := (0 : Int32)) dX9_sheet_46 rfl (by decide) ?_
          refine r_putI hC dX9_sheet_47 rfl hG.o.1 hG.o.2 ffp_X9_sheet_88 ?_
          refine r_aload_n hC dX9_sheet_50 rfl rfl (j := 0) rfl ?_
          refine r_getR hC dX9_sheet_51 rfl hG.o.1 hG.o.2 ffg_X9_sheet_13 hG.r0 ?_
          refine r_iload_n hC dX9_sheet_54 rfl rfl (j := 1) rfl ?_
          obtain ⟨hi, hw⟩ := hw
          have hq5 := hG.sheet hi
          refine r_aald hC dX9_sheet_55 rfl hq5.1.1 hq5.1.2.1 hq5.1.2.2 hq5.2.1 ?_
          refine r_iload_n hC dX9_sheet_56 rfl rfl (j := 2) rfl ?_
          refine r_iload_n hC dX9_sheet_57 rfl rfl (j := 3) rfl ?_
          refine r_callV hC (a_V hC (k := 6) (c_X6_renew hq5.2.2 hw) ci_X6_renew gX9_sheet_X6_renew rfl ⟨Nat.le_of_ble_eq_true rfl, Nat.le_of_ble_eq_true rfl⟩ ⟨Nat.le_of_ble_eq_true rfl, Nat.le_of_ble_eq_true rfl⟩ rfl (by decide) (hq5.2.2).1.1 (List.mem_singleton.mp (hq5.2.2).1.2) rfl rfl (Nat.le_of_ble_eq_true rfl) dX9_sheet_58) ⟨rfl, rfl⟩ rfl (fun J7 hw => ?_)
          refine r_iconst hC (v := (1 : Int32)) dX9_sheet_61 rfl (by decide) ?_
          exact r_retI hC hR ⟨rfl, rfl⟩ dX9_sheet_62 hw
        · refine r_aload_n hC dX9_sheet_39 rfl rfl (j := 0) rfl ?_
          refine r_iconst hC (v := (4 : Int32)) dX9_sheet_40 rfl (by decide) ?_
          refine r_callI hC (a_V hC (k := 9) (c_X9_faulted hG hw) ci_X9_faulted gX9_sheet_X9_faulted rfl ⟨Nat.le_of_ble_eq_true rfl, Nat.le_of_ble_eq_true rfl⟩ ⟨Nat.le_of_ble_eq_true rfl, Nat.le_of_ble_eq_true rfl⟩ rfl (by decide) hG.o.1 (List.mem_singleton.mp hG.o.2) rfl rfl (Nat.le_of_ble_eq_true rfl) dX9_sheet_41) ⟨rfl, rfl⟩ rfl (fun r8 J9 hw => ?_)
          exact r_retI hC hR ⟨rfl, rfl⟩ dX9_sheet_44 hw
      · exact r_sub (lv' := [(0, .ref (gA g 0))]) [0] rfl (t_X9_sheet_28 hC hG hR _ hw)
  · refine r_aload_n hC dX9_sheet_7 rfl rfl (j := 0) rfl ?_
    refine r_iconst hC (v := (-1 : Int32)) dX9_sheet_8 rfl (by decide) ?_
    refine r_callI hC (a_V hC (k := 9) (c_X9_refused hG hw) ci_X9_refused gX9_sheet_X9_refused rfl ⟨Nat.le_of_ble_eq_true rfl, Nat.le_of_ble_eq_true rfl⟩ ⟨Nat.le_of_ble_eq_true rfl, Nat.le_of_ble_eq_true rfl⟩ rfl (by decide) hG.o.1 (List.mem_singleton.mp hG.o.2) rfl rfl (Nat.le_of_ble_eq_true rfl) dX9_sheet_9) ⟨rfl, rfl⟩ rfl (fun r10 J11 hw => ?_)
    exact r_retI hC hR ⟨rfl, rfl⟩ dX9_sheet_12 hw
set_option maxRecDepth 100000 in
theorem c_X9_sheet {l : Launch} {x : Gx} {g : Gm} {nd : Nat} {x1 : Int32} {x2 : Int32} {x3 : Int32} {I : Mm} {Post : Int32 → Mm → Prop} (hG : shP g nd) (hw : wp_X9_sheet (gK g) nd x1 x2 x3 I Post) : KI l x yX9_sheet wsX9_sheet rm_X9_sheet g I [.ref (gA g 0), .int x1, .int x2, .int x3] (fun r u => u.1 = g ∧ Post r u.2) := KI_of (by decide) rfl rfl (Nat.le_of_ble_eq_true rfl) (fun f hC _ _ hR => t_X9_sheet_0 hC hG hR hw)

/-! X9_lose -/
abbrev rm_X9_lose : Room := { frames := 2, cells := 0, slots := 0, locals := 42 }
theorem ci_X9_lose : CI yX9_lose wsX9_lose cX9_lose 3 (some .int) 1 := ⟨⟨_, rfl⟩, by decide, by decide, by decide +kernel⟩
def wp_X9_lose (ki : Nat → Nat) (nd : Nat) (x1 : Int32) (I : Mm) (Post : Int32 → Mm → Prop) : Prop := wp_X9_isSheet x1 I (fun r1 J2 => if r1 = 0 then (Post (-1 : Int32) J2) else (vp_in x1 4 ∧ (wp_X6_isNothing (20 + x1.toNatClampNeg) J2 (fun r4 J5 => if r4 = 0 then (vp_in x1 4 ∧ (Post (1 : Int32) (up2 J5 (20 + x1.toNatClampNeg) 1 (-1 : Int32)))) else (vp_in x1 4 ∧ (Post (0 : Int32) (up2 J5 (20 + x1.toNatClampNeg) 1 (-1 : Int32))))))))
set_option maxRecDepth 20000 in
theorem uw_X9_lose_9 : ∀ w ∈ u_ws RX9 TX9 11, w ∈ wsX9_lose := by decide +kernel
set_option maxRecDepth 20000 in
theorem ffg_X9_lose_13 : ∀ k ∈ ([9] : List Nat), FF wsX9_lose RX9 13 k 0 ∧ fR k 0 = true := List.forall_mem_cons.mpr ⟨⟨⟨RX9, TX9, 11, "PageDesks", rfl, rfl, by decide, by decide, uw_X9_lose_9, (List.mem_of_getElem? (i := 1) rfl), Or.inl rfl⟩, rfl⟩, fun _ h => absurd h List.not_mem_nil⟩
set_option maxRecDepth 20000 in
theorem uw_X9_lose_6 : ∀ w ∈ u_ws RX6 TX6 3, w ∈ wsX9_lose := by decide +kernel
set_option maxRecDepth 20000 in
theorem ffp_X9_lose_224 : ∀ k ∈ ([6] : List Nat), FF wsX9_lose RX9 224 k 1 ∧ fR k 1 = false ∧ FP k 1 := List.forall_mem_cons.mpr ⟨⟨⟨RX6, TX6, 3, "PageDesks$Sheet", rfl, rfl, by decide, by decide, uw_X9_lose_6, (List.mem_of_getElem? (i := 2) rfl), Or.inl rfl⟩, rfl, ⟨RX6, TX6, 3, tyX6, rfl, tyX6_ok, nmX6, rfl, rfl⟩⟩, fun _ h => absurd h List.not_mem_nil⟩
set_option maxRecDepth 100000 in
set_option maxHeartbeats 4000000 in
theorem t_X9_lose_0 {f : Fx} {g : Gm} {nd : Nat} {Post : Int32 → Mm → Prop} {x1 : Int32} {I : Mm} (hC : Cx f cX9_lose 3 RX9 wsX9_lose rm_X9_lose) (hG : shP g nd) (hR : RtI f cX9_lose (fun r u => u.1 = g ∧ Post r u.2)) (hw : wp_X9_lose (gK g) nd x1 I Post) : PW f 0 0 g I 0 [(0, .ref (gA g 0)), (1, .int x1)] [] := by
  unfold wp_X9_lose at hw
  refine r_iload_n hC dX9_lose_0 rfl rfl (j := 1) rfl ?_
  refine r_callI hC (a_S hC (c_X9_isSheet  hw) ci_X9_isSheet gX9_lose_X9_isSheet ⟨Nat.le_of_ble_eq_true rfl, Nat.le_of_ble_eq_true rfl⟩ ⟨Nat.le_of_ble_eq_true rfl, Nat.le_of_ble_eq_true rfl⟩ rfl rfl (Nat.le_of_ble_eq_true rfl) dX9_lose_1) ⟨rfl, rfl⟩ rfl (fun r1 J2 hw => ?_)
  refine r_if_ne hC (tgt := 9) dX9_lose_4 rfl (by decide) hw (fun hw => ?_) (fun hw => ?_)
  · refine r_aload_n hC dX9_lose_9 rfl rfl (j := 0) rfl ?_
    refine r_getR hC dX9_lose_10 rfl hG.o.1 hG.o.2 ffg_X9_lose_13 hG.r0 ?_
    refine r_iload_n hC dX9_lose_13 rfl rfl (j := 1) rfl ?_
    obtain ⟨hi, hw⟩ := hw
    have hq3 := hG.sheet hi
    refine r_aald hC dX9_lose_14 rfl hq3.1.1 hq3.1.2.1 hq3.1.2.2 hq3.2.1 ?_
    refine r_callI hC (a_V hC (k := 6) (c_X6_isNothing hq3.2.2 hw) ci_X6_isNothing gX9_lose_X6_isNothing rfl ⟨Nat.le_of_ble_eq_true rfl, Nat.le_of_ble_eq_true rfl⟩ ⟨Nat.le_of_ble_eq_true rfl, Nat.le_of_ble_eq_true rfl⟩ rfl (by decide) (hq3.2.2).1.1 (List.mem_singleton.mp (hq3.2.2).1.2) rfl rfl (Nat.le_of_ble_eq_true rfl) dX9_lose_15) ⟨rfl, rfl⟩ rfl (fun r4 J5 hw => ?_)
    refine r_if_eq hC (tgt := 25) dX9_lose_18 rfl (by decide) hw (fun hw => ?_) (fun hw => ?_)
    · refine r_iconst hC (v := (1 : Int32)) dX9_lose_25 rfl (by decide) ?_
      refine r_istore_n hC (lv' := [(2, .int (1 : Int32)), (0, .ref (gA g 0)), (1, .int x1)]) dX9_lose_26 rfl rfl (by decide) rfl ?_
      refine r_aload_n hC dX9_lose_27 rfl rfl (j := 1) rfl ?_
      refine r_getR hC dX9_lose_28 rfl hG.o.1 hG.o.2 ffg_X9_lose_13 hG.r0 ?_
      refine r_iload_n hC dX9_lose_31 rfl rfl (j := 2) rfl ?_
      obtain ⟨hi, hw⟩ := hw
      have hq6 := hG.sheet hi
      refine r_aald hC dX9_lose_32 rfl hq6.1.1 hq6.1.2.1 hq6.1.2.2 hq6.2.1 ?_
      refine r_iconst hC (v := (-1 : Int32)) dX9_lose_33 rfl (by decide) ?_
      refine r_putI hC dX9_lose_34 rfl (hq6.2.2).1.1 (hq6.2.2).1.2 ffp_X9_lose_224 ?_
      refine r_iload_n hC dX9_lose_37 rfl rfl (j := 0) rfl ?_
      exact r_retI hC hR ⟨rfl, rfl⟩ dX9_lose_38 hw
    · refine r_iconst hC (v := (0 : Int32)) dX9_lose_21 rfl (by decide) ?_
      refine r_goto hC (tgt := 26) dX9_lose_22 (by decide) ?_
      refine r_istore_n hC (lv' := [(2, .int (0 : Int32)), (0, .ref (gA g 0)), (1, .int x1)]) dX9_lose_26 rfl rfl (by decide) rfl ?_
      refine r_aload_n hC dX9_lose_27 rfl rfl (j := 1) rfl ?_
      refine r_getR hC dX9_lose_28 rfl hG.o.1 hG.o.2 ffg_X9_lose_13 hG.r0 ?_
      refine r_iload_n hC dX9_lose_31 rfl rfl (j := 2) rfl ?_
      obtain ⟨hi, hw⟩ := hw
      have hq7 := hG.sheet hi
      refine r_aald hC dX9_lose_32 rfl hq7.1.1 hq7.1.2.1 hq7.1.2.2 hq7.2.1 ?_
      refine r_iconst hC (v := (-1 : Int32)) dX9_lose_33 rfl (by decide) ?_
      refine r_putI hC dX9_lose_34 rfl (hq7.2.2).1.1 (hq7.2.2).1.2 ffp_X9_lose_224 ?_
      refine r_iload_n hC dX9_lose_37 rfl rfl (j := 0) rfl ?_
      exact r_retI hC hR ⟨rfl, rfl⟩ dX9_lose_38 hw
  · refine r_iconst hC (v := (-1 : Int32)) dX9_lose_7 rfl (by decide) ?_
    exact r_retI hC hR ⟨rfl, rfl⟩ dX9_lose_8 hw
set_option maxRecDepth 100000 in
theorem c_X9_lose {l : Launch} {x : Gx} {g : Gm} {nd : Nat} {x1 : Int32} {I : Mm} {Post : Int32 → Mm → Prop} (hG : shP g nd) (hw : wp_X9_lose (gK g) nd x1 I Post) : KI l x yX9_lose wsX9_lose rm_X9_lose g I [.ref (gA g 0), .int x1] (fun r u => u.1 = g ∧ Post r u.2) := KI_of (by decide) rfl rfl (Nat.le_of_ble_eq_true rfl) (fun f hC _ _ hR => t_X9_lose_0 hC hG hR hw)
