/-! X9_put -/
abbrev rm_X9_put : Room := { frames := 2, cells := 0, slots := 0, locals := 44 }
theorem ci_X9_put : CI yX9_put wsX9_put cX9_put 4 (some .int) 3 := ⟨⟨_, rfl⟩, by decide, by decide, by decide +kernel⟩
def wp_X9_put (ki : Nat → Nat) (nd : Nat) (x1 : Int32) (x2 : Int32) (x3 : Int32) (I : Mm) (Post : Int32 → Mm → Prop) : Prop := wp_X9_isSheet x1 I (fun r1 J2 => if r1 = 0 then (wp_X9_refused ki nd (-1 : Int32) J2 (fun r17 J18 => Post r17 J18)) else (vp_in x1 4 ∧ (wp_X6_isNothing (20 + x1.toNatClampNeg) J2 (fun r4 J5 => if r4 = 0 then (vp_in x1 4 ∧ (wp_X6_has (20 + x1.toNatClampNeg) x2 (1 : Int32) J5 (fun r7 J8 => if r7 = 0 then (wp_X9_faulted ki nd (3 : Int32) J8 (fun r13 J14 => Post r13 J14)) else (vp_in x1 4 ∧ (vp_in x1 4 ∧ (wp_X6_cut (20 + x1.toNatClampNeg) x3 (up2 J8 0 10 (0 : Int32)) (fun r11 J12 => vp_in x2 60 ∧ (Post (1 : Int32) (up2 J12 ((20 + x1.toNatClampNeg) + 4) x2.toNatClampNeg r11))))))))) else (wp_X9_faulted ki nd (1 : Int32) J5 (fun r15 J16 => Post r15 J16))))))
set_option maxRecDepth 20000 in
theorem uw_X9_put_9 : ∀ w ∈ u_ws RX9 TX9 11, w ∈ wsX9_put := by decide +kernel
set_option maxRecDepth 20000 in
theorem ffg_X9_put_13 : ∀ k ∈ ([9] : List Nat), FF wsX9_put RX9 13 k 0 ∧ fR k 0 = true := List.forall_mem_cons.mpr ⟨⟨⟨RX9, TX9, 11, "PageDesks", rfl, rfl, by decide, by decide, uw_X9_put_9, (List.mem_of_getElem? (i := 1) rfl), Or.inl rfl⟩, rfl⟩, fun _ h => absurd h List.not_mem_nil⟩
set_option maxRecDepth 20000 in
theorem ffp_X9_put_88 : ∀ k ∈ ([9] : List Nat), FF wsX9_put RX9 88 k 10 ∧ fR k 10 = false ∧ FP k 10 := List.forall_mem_cons.mpr ⟨⟨⟨RX9, TX9, 11, "PageDesks", rfl, rfl, by decide, by decide, uw_X9_put_9, (List.mem_of_getElem? (i := 2) rfl), Or.inl rfl⟩, rfl, ⟨RX9, TX9, 11, tyX9, rfl, tyX9_ok, nmX9, rfl, rfl⟩⟩, fun _ h => absurd h List.not_mem_nil⟩
set_option maxRecDepth 20000 in
theorem uw_X9_put_6 : ∀ w ∈ u_ws RX6 TX6 3, w ∈ wsX9_put := by decide +kernel
set_option maxRecDepth 20000 in
theorem ffg_X9_put_162 : ∀ k ∈ ([6] : List Nat), FF wsX9_put RX9 162 k 0 ∧ fR k 0 = true := List.forall_mem_cons.mpr ⟨⟨⟨RX6, TX6, 3, "PageDesks$Sheet", rfl, rfl, by decide, by decide, uw_X9_put_6, (List.mem_of_getElem? (i := 3) rfl), Or.inl rfl⟩, rfl⟩, fun _ h => absurd h List.not_mem_nil⟩
set_option maxRecDepth 100000 in
set_option maxHeartbeats 4000000 in
theorem t_X9_put_0 {f : Fx} {g : Gm} {nd : Nat} {Post : Int32 → Mm → Prop} {x1 : Int32} {x2 : Int32} {x3 : Int32} {I : Mm} (hC : Cx f cX9_put 4 RX9 wsX9_put rm_X9_put) (hG : shP g nd) (hR : RtI f cX9_put (fun r u => u.1 = g ∧ Post r u.2)) (hw : wp_X9_put (gK g) nd x1 x2 x3 I Post) : PW f 0 0 g I 0 [(0, .ref (gA g 0)), (1, .int x1), (2, .int x2), (3, .int x3)] [] := by
  unfold wp_X9_put at hw
  refine r_iload_n hC dX9_put_0 rfl rfl (j := 1) rfl ?_
  refine r_callI hC (a_S hC (c_X9_isSheet  hw) ci_X9_isSheet gX9_put_X9_isSheet ⟨Nat.le_of_ble_eq_true rfl, Nat.le_of_ble_eq_true rfl⟩ ⟨Nat.le_of_ble_eq_true rfl, Nat.le_of_ble_eq_true rfl⟩ rfl rfl (Nat.le_of_ble_eq_true rfl) dX9_put_1) ⟨rfl, rfl⟩ rfl (fun r1 J2 hw => ?_)
  refine r_if_ne hC (tgt := 13) dX9_put_4 rfl (by decide) hw (fun hw => ?_) (fun hw => ?_)
  · refine r_aload_n hC dX9_put_13 rfl rfl (j := 0) rfl ?_
    refine r_getR hC dX9_put_14 rfl hG.o.1 hG.o.2 ffg_X9_put_13 hG.r0 ?_
    refine r_iload_n hC dX9_put_17 rfl rfl (j := 1) rfl ?_
    obtain ⟨hi, hw⟩ := hw
    have hq3 := hG.sheet hi
    refine r_aald hC dX9_put_18 rfl hq3.1.1 hq3.1.2.1 hq3.1.2.2 hq3.2.1 ?_
    refine r_callI hC (a_V hC (k := 6) (c_X6_isNothing hq3.2.2 hw) ci_X6_isNothing gX9_put_X6_isNothing rfl ⟨Nat.le_of_ble_eq_true rfl, Nat.le_of_ble_eq_true rfl⟩ ⟨Nat.le_of_ble_eq_true rfl, Nat.le_of_ble_eq_true rfl⟩ rfl (by decide) (hq3.2.2).1.1 (List.mem_singleton.mp (hq3.2.2).1.2) rfl rfl (Nat.le_of_ble_eq_true rfl) dX9_put_19) ⟨rfl, rfl⟩ rfl (fun r4 J5 hw => ?_)
    refine r_if_eq hC (tgt := 31) dX9_put_22 rfl (by decide) hw (fun hw => ?_) (fun hw => ?_)
    · refine r_aload_n hC dX9_put_31 rfl rfl (j := 0) rfl ?_
      refine r_getR hC dX9_put_32 rfl hG.o.1 hG.o.2 ffg_X9_put_13 hG.r0 ?_
      refine r_iload_n hC dX9_put_35 rfl rfl (j := 1) rfl ?_
      obtain ⟨hi, hw⟩ := hw
      have hq6 := hG.sheet hi
      refine r_aald hC dX9_put_36 rfl hq6.1.1 hq6.1.2.1 hq6.1.2.2 hq6.2.1 ?_
      refine r_iload_n hC dX9_put_37 rfl rfl (j := 2) rfl ?_
      refine r_iconst hC (v := (1 : Int32)) dX9_put_38 rfl (by decide) ?_
      refine r_callI hC (a_V hC (k := 6) (c_X6_has hq6.2.2 hw) ci_X6_has gX9_put_X6_has rfl ⟨Nat.le_of_ble_eq_true rfl, Nat.le_of_ble_eq_true rfl⟩ ⟨Nat.le_of_ble_eq_true rfl, Nat.le_of_ble_eq_true rfl⟩ rfl (by decide) (hq6.2.2).1.1 (List.mem_singleton.mp (hq6.2.2).1.2) rfl rfl (Nat.le_of_ble_eq_true rfl) dX9_put_39) ⟨rfl, rfl⟩ rfl (fun r7 J8 hw => ?_)
      refine r_if_ne hC (tgt := 51) dX9_put_42 rfl (by decide) hw (fun hw => ?_) (fun hw => ?_)
      · refine r_aload_n hC dX9_put_51 rfl rfl (j := 0) rfl ?_
        refine r_iconst hC (v := (0 : Int32)) dX9_put_52 rfl (by decide) ?_
        refine r_putI hC dX9_put_53 rfl hG.o.1 hG.o.2 ffp_X9_put_88 ?_
        refine r_aload_n hC dX9_put_56 rfl rfl (j := 0) rfl ?_
        refine r_getR hC dX9_put_57 rfl hG.o.1 hG.o.2 ffg_X9_put_13 hG.r0 ?_
        refine r_iload_n hC dX9_put_60 rfl rfl (j := 1) rfl ?_
        obtain ⟨hi, hw⟩ := hw
        have hq9 := hG.sheet hi
        refine r_aald hC dX9_put_61 rfl hq9.1.1 hq9.1.2.1 hq9.1.2.2 hq9.2.1 ?_
        refine r_getR hC dX9_put_62 rfl (hq9.2.2).1.1 (hq9.2.2).1.2 ffg_X9_put_162 (hq9.2.2).2.2 ?_
        refine r_iload_n hC dX9_put_65 rfl rfl (j := 2) rfl ?_
        refine r_aload_n hC dX9_put_66 rfl rfl (j := 0) rfl ?_
        refine r_getR hC dX9_put_67 rfl hG.o.1 hG.o.2 ffg_X9_put_13 hG.r0 ?_
        refine r_iload_n hC dX9_put_70 rfl rfl (j := 1) rfl ?_
        obtain ⟨hi, hw⟩ := hw
        have hq10 := hG.sheet hi
        refine r_aald hC dX9_put_71 rfl hq10.1.1 hq10.1.2.1 hq10.1.2.2 hq10.2.1 ?_
        refine r_iload_n hC dX9_put_72 rfl rfl (j := 3) rfl ?_
        refine r_callI hC (a_V hC (k := 6) (c_X6_cut hq10.2.2 hw) ci_X6_cut gX9_put_X6_cut rfl ⟨Nat.le_of_ble_eq_true rfl, Nat.le_of_ble_eq_true rfl⟩ ⟨Nat.le_of_ble_eq_true rfl, Nat.le_of_ble_eq_true rfl⟩ rfl (by decide) (hq10.2.2).1.1 (List.mem_singleton.mp (hq10.2.2).1.2) rfl rfl (Nat.le_of_ble_eq_true rfl) dX9_put_73) ⟨rfl, rfl⟩ rfl (fun r11 J12 hw => ?_)
        obtain ⟨hi, hw⟩ := hw
        refine r_iast hC dX9_put_76 rfl ((hq9.2.2).2.1).1 ((hq9.2.2).2.1).2.1 (by rw [((hq9.2.2).2.1).2.2]; exact hi) ?_
        refine r_iconst hC (v := (1 : Int32)) dX9_put_77 rfl (by decide) ?_
        exact r_retI hC hR ⟨rfl, rfl⟩ dX9_put_78 hw
      · refine r_aload_n hC dX9_put_45 rfl rfl (j := 0) rfl ?_
        refine r_iconst hC (v := (3 : Int32)) dX9_put_46 rfl (by decide) ?_
        refine r_callI hC (a_V hC (k := 9) (c_X9_faulted hG hw) ci_X9_faulted gX9_put_X9_faulted rfl ⟨Nat.le_of_ble_eq_true rfl, Nat.le_of_ble_eq_true rfl⟩ ⟨Nat.le_of_ble_eq_true rfl, Nat.le_of_ble_eq_true rfl⟩ rfl (by decide) hG.o.1 (List.mem_singleton.mp hG.o.2) rfl rfl (Nat.le_of_ble_eq_true rfl) dX9_put_47) ⟨rfl, rfl⟩ rfl (fun r13 J14 hw => ?_)
        exact r_retI hC hR ⟨rfl, rfl⟩ dX9_put_50 hw
    · refine r_aload_n hC dX9_put_25 rfl rfl (j := 0) rfl ?_
      refine r_iconst hC (v := (1 : Int32)) dX9_put_26 rfl (by decide) ?_
      refine r_callI hC (a_V hC (k := 9) (c_X9_faulted hG hw) ci_X9_faulted gX9_put_X9_faulted rfl ⟨Nat.le_of_ble_eq_true rfl, Nat.le_of_ble_eq_true rfl⟩ ⟨Nat.le_of_ble_eq_true rfl, Nat.le_of_ble_eq_true rfl⟩ rfl (by decide) hG.o.1 (List.mem_singleton.mp hG.o.2) rfl rfl (Nat.le_of_ble_eq_true rfl) dX9_put_27) ⟨rfl, rfl⟩ rfl (fun r15 J16 hw => ?_)
      exact r_retI hC hR ⟨rfl, rfl⟩ dX9_put_30 hw
  · refine r_aload_n hC dX9_put_7 rfl rfl (j := 0) rfl ?_
    refine r_iconst hC (v := (-1 : Int32)) dX9_put_8 rfl (by decide) ?_
    refine r_callI hC (a_V hC (k := 9) (c_X9_refused hG hw) ci_X9_refused gX9_put_X9_refused rfl ⟨Nat.le_of_ble_eq_true rfl, Nat.le_of_ble_eq_true rfl⟩ ⟨Nat.le_of_ble_eq_true rfl, Nat.le_of_ble_eq_true rfl⟩ rfl (by decide) hG.o.1 (List.mem_singleton.mp hG.o.2) rfl rfl (Nat.le_of_ble_eq_true rfl) dX9_put_9) ⟨rfl, rfl⟩ rfl (fun r17 J18 hw => ?_)
    exact r_retI hC hR ⟨rfl, rfl⟩ dX9_put_12 hw
set_option maxRecDepth 100000 in
theorem c_X9_put {l : Launch} {x : Gx} {g : Gm} {nd : Nat} {x1 : Int32} {x2 : Int32} {x3 : Int32} {I : Mm} {Post : Int32 → Mm → Prop} (hG : shP g nd) (hw : wp_X9_put (gK g) nd x1 x2 x3 I Post) : KI l x yX9_put wsX9_put rm_X9_put g I [.ref (gA g 0), .int x1, .int x2, .int x3] (fun r u => u.1 = g ∧ Post r u.2) := KI_of (by decide) rfl rfl (Nat.le_of_ble_eq_true rfl) (fun f hC _ _ hR => t_X9_put_0 hC hG hR hw)

/-! X9_cell -/
abbrev rm_X9_cell : Room := { frames := 2, cells := 0, slots := 0, locals := 44 }
theorem ci_X9_cell : CI yX9_cell wsX9_cell cX9_cell 4 (some .long) 3 := ⟨⟨_, rfl⟩, by decide, by decide, by decide +kernel⟩
def wp_X9_cell_65 (ki : Nat → Nat) (nd : Nat)  (Post : Int64 → Mm → Prop) (x1 : Int32) (x2 : Int32) (I : Mm) : Prop := if (I 0 10) = 0 then (vp_in x1 4 ∧ (vp_in x2 60 ∧ (Post ((I ((20 + x1.toNatClampNeg) + 4) x2.toNatClampNeg).toInt64) I))) else (Post (-9223372036854775808 : Int64) I)
def wp_X9_cell (ki : Nat → Nat) (nd : Nat) (x1 : Int32) (x2 : Int32) (x3 : Int32) (I : Mm) (Post : Int64 → Mm → Prop) : Prop := wp_X9_isSheet x1 (up2 I 0 10 (0 : Int32)) (fun r1 J2 => if r1 = 0 then (Post (-9223372036854775808 : Int64) J2) else (wp_X9_isWithin x3 (0 : Int32) (2 : Int32) J2 (fun r3 J4 => if r3 = 0 then (Post (-9223372036854775808 : Int64) J4) else (vp_in x1 4 ∧ (wp_X6_faultAs (20 + x1.toNatClampNeg) x3 J4 (fun r6 J7 => if ((up2 J7 0 10 r6) 0 10) = 0 then (vp_in x1 4 ∧ (wp_X6_has (20 + x1.toNatClampNeg) x2 (1 : Int32) (up2 J7 0 10 r6) (fun r9 J10 => if r9 = 0 then (wp_X9_cell_65 ki nd Post x1 x2 (up2 J10 0 10 (3 : Int32))) else (wp_X9_cell_65 ki nd Post x1 x2 J10)))) else (wp_X9_cell_65 ki nd Post x1 x2 (up2 J7 0 10 r6))))))))
set_option maxRecDepth 20000 in
theorem uw_X9_cell_9 : ∀ w ∈ u_ws RX9 TX9 11, w ∈ wsX9_cell := by decide +kernel
set_option maxRecDepth 20000 in
theorem ffp_X9_cell_88 : ∀ k ∈ ([9] : List Nat), FF wsX9_cell RX9 88 k 10 ∧ fR k 10 = false ∧ FP k 10 := List.forall_mem_cons.mpr ⟨⟨⟨RX9, TX9, 11, "PageDesks", rfl, rfl, by decide, by decide, uw_X9_cell_9, (List.mem_of_getElem? (i := 1) rfl), Or.inl rfl⟩, rfl, ⟨RX9, TX9, 11, tyX9, rfl, tyX9_ok, nmX9, rfl, rfl⟩⟩, fun _ h => absurd h List.not_mem_nil⟩
set_option maxRecDepth 20000 in
theorem ffg_X9_cell_13 : ∀ k ∈ ([9] : List Nat), FF wsX9_cell RX9 13 k 0 ∧ fR k 0 = true := List.forall_mem_cons.mpr ⟨⟨⟨RX9, TX9, 11, "PageDesks", rfl, rfl, by decide, by decide, uw_X9_cell_9, (List.mem_of_getElem? (i := 3) rfl), Or.inl rfl⟩, rfl⟩, fun _ h => absurd h List.not_mem_nil⟩
set_option maxRecDepth 20000 in
theorem ffg_X9_cell_88 : ∀ k ∈ ([9] : List Nat), FF wsX9_cell RX9 88 k 10 ∧ fR k 10 = false := List.forall_mem_cons.mpr ⟨⟨⟨RX9, TX9, 11, "PageDesks", rfl, rfl, by decide, by decide, uw_X9_cell_9, (List.mem_of_getElem? (i := 1) rfl), Or.inl rfl⟩, rfl⟩, fun _ h => absurd h List.not_mem_nil⟩
set_option maxRecDepth 20000 in
theorem uw_X9_cell_6 : ∀ w ∈ u_ws RX6 TX6 3, w ∈ wsX9_cell := by decide +kernel
set_option maxRecDepth 20000 in
theorem ffg_X9_cell_162 : ∀ k ∈ ([6] : List Nat), FF wsX9_cell RX9 162 k 0 ∧ fR k 0 = true := List.forall_mem_cons.mpr ⟨⟨⟨RX6, TX6, 3, "PageDesks$Sheet", rfl, rfl, by decide, by decide, uw_X9_cell_6, (List.mem_of_getElem? (i := 4) rfl), Or.inl rfl⟩, rfl⟩, fun _ h => absurd h List.not_mem_nil⟩
set_option maxRecDepth 100000 in
set_option maxHeartbeats 4000000 in
theorem t_X9_cell_65 {f : Fx} {g : Gm} {nd : Nat} {Post : Int64 → Mm → Prop}  (hC : Cx f cX9_cell 4 RX9 wsX9_cell rm_X9_cell) (hG : shP g nd) (hR : RtL f cX9_cell (fun r u => u.1 = g ∧ Post r u.2))  : ∀ (x1 : Int32) (x2 : Int32) (I : Mm) , wp_X9_cell_65 (gK g) nd  Post x1 x2 I → PW f 0 0 g I 65 [(0, .ref (gA g 0)), (1, .int x1), (2, .int x2)] [] := by
  intro x1 x2 I  hw
  unfold wp_X9_cell_65 at hw
  refine r_aload_n hC dX9_cell_65 rfl rfl (j := 0) rfl ?_
  refine r_getI hC dX9_cell_66 rfl hG.o.1 hG.o.2 ffg_X9_cell_88 ?_
  refine r_if_ne hC (tgt := 87) dX9_cell_69 rfl (by decide) hw (fun hw => ?_) (fun hw => ?_)
  · refine r_ldc2 hC (v := (-9223372036854775808 : Int64)) dX9_cell_87 rfl (List.mem_of_getElem? (i := 2) rfl) ?_
    exact r_retL hC hR ⟨rfl, rfl⟩ dX9_cell_90 hw
  · refine r_aload_n hC dX9_cell_72 rfl rfl (j := 0) rfl ?_
    refine r_getR hC dX9_cell_73 rfl hG.o.1 hG.o.2 ffg_X9_cell_13 hG.r0 ?_
    refine r_iload_n hC dX9_cell_76 rfl rfl (j := 1) rfl ?_
    obtain ⟨hi, hw⟩ := hw
    have hq11 := hG.sheet hi
    refine r_aald hC dX9_cell_77 rfl hq11.1.1 hq11.1.2.1 hq11.1.2.2 hq11.2.1 ?_
    refine r_getR hC dX9_cell_78 rfl (hq11.2.2).1.1 (hq11.2.2).1.2 ffg_X9_cell_162 (hq11.2.2).2.2 ?_
    refine r_iload_n hC dX9_cell_81 rfl rfl (j := 2) rfl ?_
    obtain ⟨hi, hw⟩ := hw
    refine r_iald hC dX9_cell_82 rfl ((hq11.2.2).2.1).1 ((hq11.2.2).2.1).2.1 (by rw [((hq11.2.2).2.1).2.2]; exact hi) ?_
    refine r_i2l hC dX9_cell_83 rfl ?_
    refine r_goto hC (tgt := 90) dX9_cell_84 (by decide) ?_
    exact r_retL hC hR ⟨rfl, rfl⟩ dX9_cell_90 hw
set_option maxRecDepth 100000 in
set_option maxHeartbeats 4000000 in
theorem t_X9_cell_0 {f : Fx} {g : Gm} {nd : Nat} {Post : Int64 → Mm → Prop} {x1 : Int32} {x2 : Int32} {x3 : Int32} {I : Mm} (hC : Cx f cX9_cell 4 RX9 wsX9_cell rm_X9_cell) (hG : shP g nd) (hR : RtL f cX9_cell (fun r u => u.1 = g ∧ Post r u.2)) (hw : wp_X9_cell (gK g) nd x1 x2 x3 I Post) : PW f 0 0 g I 0 [(0, .ref (gA g 0)), (1, .int x1), (2, .int x2), (3, .int x3)] [] := by
  unfold wp_X9_cell at hw
  refine r_aload_n hC dX9_cell_0 rfl rfl (j := 0) rfl ?_
  refine r_iconst hC (v := (0 : Int32)) dX9_cell_1 rfl (by decide) ?_
  refine r_putI hC dX9_cell_2 rfl hG.o.1 hG.o.2 ffp_X9_cell_88 ?_
  refine r_iload_n hC dX9_cell_5 rfl rfl (j := 1) rfl ?_
  refine r_callI hC (a_S hC (c_X9_isSheet  hw) ci_X9_isSheet gX9_cell_X9_isSheet ⟨Nat.le_of_ble_eq_true rfl, Nat.le_of_ble_eq_true rfl⟩ ⟨Nat.le_of_ble_eq_true rfl, Nat.le_of_ble_eq_true rfl⟩ rfl rfl (Nat.le_of_ble_eq_true rfl) dX9_cell_6) ⟨rfl, rfl⟩ rfl (fun r1 J2 hw => ?_)
  refine r_if_eq hC (tgt := 21) dX9_cell_9 rfl (by decide) hw (fun hw => ?_) (fun hw => ?_)
  · refine r_ldc2 hC (v := (-9223372036854775808 : Int64)) dX9_cell_21 rfl (List.mem_of_getElem? (i := 2) rfl) ?_
    exact r_retL hC hR ⟨rfl, rfl⟩ dX9_cell_24 hw
  · refine r_iload_n hC dX9_cell_12 rfl rfl (j := 3) rfl ?_
    refine r_iconst hC (v := (0 : Int32)) dX9_cell_13 rfl (by decide) ?_
    refine r_iconst hC (v := (2 : Int32)) dX9_cell_14 rfl (by decide) ?_
    refine r_callI hC (a_S hC (c_X9_isWithin  hw) ci_X9_isWithin gX9_cell_X9_isWithin ⟨Nat.le_of_ble_eq_true rfl, Nat.le_of_ble_eq_true rfl⟩ ⟨Nat.le_of_ble_eq_true rfl, Nat.le_of_ble_eq_true rfl⟩ rfl rfl (Nat.le_of_ble_eq_true rfl) dX9_cell_15) ⟨rfl, rfl⟩ rfl (fun r3 J4 hw => ?_)
    refine r_if_ne hC (tgt := 25) dX9_cell_18 rfl (by decide) hw (fun hw => ?_) (fun hw => ?_)
    · refine r_aload_n hC dX9_cell_25 rfl rfl (j := 0) rfl ?_
      refine r_aload_n hC dX9_cell_26 rfl rfl (j := 0) rfl ?_
      refine r_getR hC dX9_cell_27 rfl hG.o.1 hG.o.2 ffg_X9_cell_13 hG.r0 ?_
      refine r_iload_n hC dX9_cell_30 rfl rfl (j := 1) rfl ?_
      obtain ⟨hi, hw⟩ := hw
      have hq5 := hG.sheet hi
      refine r_aald hC dX9_cell_31 rfl hq5.1.1 hq5.1.2.1 hq5.1.2.2 hq5.2.1 ?_
      refine r_iload_n hC dX9_cell_32 rfl rfl (j := 3) rfl ?_
      refine r_callI hC (a_V hC (k := 6) (c_X6_faultAs hq5.2.2 hw) ci_X6_faultAs gX9_cell_X6_faultAs rfl ⟨Nat.le_of_ble_eq_true rfl, Nat.le_of_ble_eq_true rfl⟩ ⟨Nat.le_of_ble_eq_true rfl, Nat.le_of_ble_eq_true rfl⟩ rfl (by decide) (hq5.2.2).1.1 (List.mem_singleton.mp (hq5.2.2).1.2) rfl rfl (Nat.le_of_ble_eq_true rfl) dX9_cell_33) ⟨rfl, rfl⟩ rfl (fun r6 J7 hw => ?_)
      refine r_putI hC dX9_cell_36 rfl hG.o.1 hG.o.2 ffp_X9_cell_88 ?_
      refine r_aload_n hC dX9_cell_39 rfl rfl (j := 0) rfl ?_
      refine r_getI hC dX9_cell_40 rfl hG.o.1 hG.o.2 ffg_X9_cell_88 ?_
      refine r_if_ne hC (tgt := 65) dX9_cell_43 rfl (by decide) hw (fun hw => ?_) (fun hw => ?_)
      · exact r_sub (lv' := [(0, .ref (gA g 0)), (1, .int x1), (2, .int x2)]) [0, 1, 2] rfl (t_X9_cell_65 hC hG hR _ _ _ hw)
      · refine r_aload_n hC dX9_cell_46 rfl rfl (j := 0) rfl ?_
        refine r_getR hC dX9_cell_47 rfl hG.o.1 hG.o.2 ffg_X9_cell_13 hG.r0 ?_
        refine r_iload_n hC dX9_cell_50 rfl rfl (j := 1) rfl ?_
        obtain ⟨hi, hw⟩ := hw
        have hq8 := hG.sheet hi
        refine r_aald hC dX9_cell_51 rfl hq8.1.1 hq8.1.2.1 hq8.1.2.2 hq8.2.1 ?_
        refine r_iload_n hC dX9_cell_52 rfl rfl (j := 2) rfl ?_
        refine r_iconst hC (v := (1 : Int32)) dX9_cell_53 rfl (by decide) ?_
        refine r_callI hC (a_V hC (k := 6) (c_X6_has hq8.2.2 hw) ci_X6_has gX9_cell_X6_has rfl ⟨Nat.le_of_ble_eq_true rfl, Nat.le_of_ble_eq_true rfl⟩ ⟨Nat.le_of_ble_eq_true rfl, Nat.le_of_ble_eq_true rfl⟩ rfl (by decide) (hq8.2.2).1.1 (List.mem_singleton.mp (hq8.2.2).1.2) rfl rfl (Nat.le_of_ble_eq_true rfl) dX9_cell_54) ⟨rfl, rfl⟩ rfl (fun r9 J10 hw => ?_)
        refine r_if_ne hC (tgt := 65) dX9_cell_57 rfl (by decide) hw (fun hw => ?_) (fun hw => ?_)
        · exact r_sub (lv' := [(0, .ref (gA g 0)), (1, .int x1), (2, .int x2)]) [0, 1, 2] rfl (t_X9_cell_65 hC hG hR _ _ _ hw)
        · refine r_aload_n hC dX9_cell_60 rfl rfl (j := 0) rfl ?_
          refine r_iconst hC (v := (3 : Int32)) dX9_cell_61 rfl (by decide) ?_
          refine r_putI hC dX9_cell_62 rfl hG.o.1 hG.o.2 ffp_X9_cell_88 ?_
          exact r_sub (lv' := [(0, .ref (gA g 0)), (1, .int x1), (2, .int x2)]) [0, 1, 2] rfl (t_X9_cell_65 hC hG hR _ _ _ hw)
    · refine r_ldc2 hC (v := (-9223372036854775808 : Int64)) dX9_cell_21 rfl (List.mem_of_getElem? (i := 2) rfl) ?_
      exact r_retL hC hR ⟨rfl, rfl⟩ dX9_cell_24 hw
set_option maxRecDepth 100000 in
theorem c_X9_cell {l : Launch} {x : Gx} {g : Gm} {nd : Nat} {x1 : Int32} {x2 : Int32} {x3 : Int32} {I : Mm} {Post : Int64 → Mm → Prop} (hG : shP g nd) (hw : wp_X9_cell (gK g) nd x1 x2 x3 I Post) : KL l x yX9_cell wsX9_cell rm_X9_cell g I [.ref (gA g 0), .int x1, .int x2, .int x3] (fun r u => u.1 = g ∧ Post r u.2) := KL_of (by decide) rfl rfl (Nat.le_of_ble_eq_true rfl) (fun f hC _ _ hR => t_X9_cell_0 hC hG hR hw)

/-! X9_copy -/
abbrev rm_X9_copy : Room := { frames := 2, cells := 0, slots := 0, locals := 48 }
theorem ci_X9_copy : CI yX9_copy wsX9_copy cX9_copy 8 (some .int) 5 := ⟨⟨_, rfl⟩, by decide, by decide, by decide +kernel⟩
def wp_X9_copy_14 (ki : Nat → Nat) (nd : Nat)  (Post : Int32 → Mm → Prop)  (I : Mm) : Prop := wp_X9_refused ki nd (-1 : Int32) I (fun r17 J18 => Post r17 J18)
def wp_X9_copy_52 (ki : Nat → Nat) (nd : Nat)  (Post : Int32 → Mm → Prop)  (I : Mm) : Prop := wp_X9_faulted ki nd (1 : Int32) I (fun r19 J20 => Post r19 J20)
def wp_X9_copy_100 (ki : Nat → Nat) (nd : Nat)  (Post : Int32 → Mm → Prop)  (I : Mm) : Prop := wp_X9_faulted ki nd (3 : Int32) I (fun r21 J22 => Post r21 J22)
def wp_X9_copy (ki : Nat → Nat) (nd : Nat) (x1 : Int32) (x2 : Int32) (x3 : Int32) (x4 : Int32) (x5 : Int32) (I : Mm) (Post : Int32 → Mm → Prop) : Prop := wp_X9_isSheet x1 I (fun r1 J2 => if r1 = 0 then (wp_X9_copy_14 ki nd Post  J2) else (wp_X9_isSheet x3 J2 (fun r3 J4 => if r3 = 0 then (wp_X9_copy_14 ki nd Post  J4) else (vp_in x1 4 ∧ (vp_in x3 4 ∧ (wp_X6_isNothing (20 + x1.toNatClampNeg) J4 (fun r7 J8 => if r7 = 0 then (wp_X6_isNothing (20 + x3.toNatClampNeg) J8 (fun r9 J10 => if r9 = 0 then (if (J10 (20 + x1.toNatClampNeg) 1) = (J10 (20 + x3.toNatClampNeg) 1) then (wp_X6_has (20 + x1.toNatClampNeg) x2 x5 J10 (fun r11 J12 => if r11 = 0 then (wp_X9_copy_100 ki nd Post  J12) else (wp_X6_has (20 + x3.toNatClampNeg) x4 x5 J12 (fun r13 J14 => if r13 = 0 then (wp_X9_copy_100 ki nd Post  J14) else ((¬ x2 < 0 ∧ ¬ x4 < 0 ∧ ¬ x5 < 0 ∧ x2.toNatClampNeg + x5.toNatClampNeg ≤ 60 ∧ x4.toNatClampNeg + x5.toNatClampNeg ≤ 60) ∧ (Post x5 (va_up (up2 J14 0 10 (0 : Int32)) ((20 + x3.toNatClampNeg) + 4) (va_cpy ((up2 J14 0 10 (0 : Int32)) ((20 + x1.toNatClampNeg) + 4)) ((up2 J14 0 10 (0 : Int32)) ((20 + x3.toNatClampNeg) + 4)) x2.toNatClampNeg x4.toNatClampNeg x5.toNatClampNeg)))))))) else (wp_X9_faulted ki nd (2 : Int32) J10 (fun r15 J16 => Post r15 J16))) else (wp_X9_copy_52 ki nd Post  J10))) else (wp_X9_copy_52 ki nd Post  J8))))))))
set_option maxRecDepth 20000 in
theorem uw_X9_copy_9 : ∀ w ∈ u_ws RX9 TX9 11, w ∈ wsX9_copy := by decide +kernel
set_option maxRecDepth 20000 in
theorem ffg_X9_copy_13 : ∀ k ∈ ([9] : List Nat), FF wsX9_copy RX9 13 k 0 ∧ fR k 0 = true := List.forall_mem_cons.mpr ⟨⟨⟨RX9, TX9, 11, "PageDesks", rfl, rfl, by decide, by decide, uw_X9_copy_9, (List.mem_of_getElem? (i := 1) rfl), Or.inl rfl⟩, rfl⟩, fun _ h => absurd h List.not_mem_nil⟩
set_option maxRecDepth 20000 in
theorem uw_X9_copy_6 : ∀ w ∈ u_ws RX6 TX6 3, w ∈ wsX9_copy := by decide +kernel
set_option maxRecDepth 20000 in
theorem ffg_X9_copy_224 : ∀ k ∈ ([6] : List Nat), FF wsX9_copy RX9 224 k 1 ∧ fR k 1 = false := List.forall_mem_cons.mpr ⟨⟨⟨RX6, TX6, 3, "PageDesks$Sheet", rfl, rfl, by decide, by decide, uw_X9_copy_6, (List.mem_of_getElem? (i := 2) rfl), Or.inl rfl⟩, rfl⟩, fun _ h => absurd h List.not_mem_nil⟩
set_option maxRecDepth 20000 in
theorem ffp_X9_copy_88 : ∀ k ∈ ([9] : List Nat), FF wsX9_copy RX9 88 k 10 ∧ fR k 10 = false ∧ FP k 10 := List.forall_mem_cons.mpr ⟨⟨⟨RX9, TX9, 11, "PageDesks", rfl, rfl, by decide, by decide, uw_X9_copy_9, (List.mem_of_getElem? (i := 3) rfl), Or.inl rfl⟩, rfl, ⟨RX9, TX9, 11, tyX9, rfl, tyX9_ok, nmX9, rfl, rfl⟩⟩, fun _ h => absurd h List.not_mem_nil⟩
set_option maxRecDepth 20000 in
theorem ffg_X9_copy_162 : ∀ k ∈ ([6] : List Nat), FF wsX9_copy RX9 162 k 0 ∧ fR k 0 = true := List.forall_mem_cons.mpr ⟨⟨⟨RX6, TX6, 3, "PageDesks$Sheet", rfl, rfl, by decide, by decide, uw_X9_copy_6, (List.mem_of_getElem? (i := 4) rfl), Or.inl rfl⟩, rfl⟩, fun _ h => absurd h List.not_mem_nil⟩
set_option maxRecDepth 100000 in
set_option maxHeartbeats 4000000 in
theorem t_X9_copy_14 {f : Fx} {g : Gm} {nd : Nat} {Post : Int32 → Mm → Prop}  (hC : Cx f cX9_copy 8 RX9 wsX9_copy rm_X9_copy) (hG : shP g nd) (hR : RtI f cX9_copy (fun r u => u.1 = g ∧ Post r u.2))  : ∀  (I : Mm) , wp_X9_copy_14 (gK g) nd  Post  I → PW f 0 0 g I 14 [(0, .ref (gA g 0))] [] := by
  intro  I  hw
  unfold wp_X9_copy_14 at hw
  refine r_aload_n hC dX9_copy_14 rfl rfl (j := 0) rfl ?_
  refine r_iconst hC (v := (-1 : Int32)) dX9_copy_15 rfl (by decide) ?_
  refine r_callI hC (a_V hC (k := 9) (c_X9_refused hG hw) ci_X9_refused gX9_copy_X9_refused rfl ⟨Nat.le_of_ble_eq_true rfl, Nat.le_of_ble_eq_true rfl⟩ ⟨Nat.le_of_ble_eq_true rfl, Nat.le_of_ble_eq_true rfl⟩ rfl (by decide) hG.o.1 (List.mem_singleton.mp hG.o.2) rfl rfl (Nat.le_of_ble_eq_true rfl) dX9_copy_16) ⟨rfl, rfl⟩ rfl (fun r17 J18 hw => ?_)
  exact r_retI hC hR ⟨rfl, rfl⟩ dX9_copy_19 hw
set_option maxRecDepth 100000 in
set_option maxHeartbeats 4000000 in
theorem t_X9_copy_52 {f : Fx} {g : Gm} {nd : Nat} {Post : Int32 → Mm → Prop}  (hC : Cx f cX9_copy 8 RX9 wsX9_copy rm_X9_copy) (hG : shP g nd) (hR : RtI f cX9_copy (fun r u => u.1 = g ∧ Post r u.2))  : ∀  (I : Mm) , wp_X9_copy_52 (gK g) nd  Post  I → PW f 0 0 g I 52 [(0, .ref (gA g 0))] [] := by
  intro  I  hw
  unfold wp_X9_copy_52 at hw
  refine r_aload_n hC dX9_copy_52 rfl rfl (j := 0) rfl ?_
  refine r_iconst hC (v := (1 : Int32)) dX9_copy_53 rfl (by decide) ?_
  refine r_callI hC (a_V hC (k := 9) (c_X9_faulted hG hw) ci_X9_faulted gX9_copy_X9_faulted rfl ⟨Nat.le_of_ble_eq_true rfl, Nat.le_of_ble_eq_true rfl⟩ ⟨Nat.le_of_ble_eq_true rfl, Nat.le_of_ble_eq_true rfl⟩ rfl (by decide) hG.o.1 (List.mem_singleton.mp hG.o.2) rfl rfl (Nat.le_of_ble_eq_true rfl) dX9_copy_54) ⟨rfl, rfl⟩ rfl (fun r19 J20 hw => ?_)
  exact r_retI hC hR ⟨rfl, rfl⟩ dX9_copy_57 hw
set_option maxRecDepth 100000 in
set_option maxHeartbeats 4000000 in
theorem t_X9_copy_100 {f : Fx} {g : Gm} {nd : Nat} {Post : Int32 → Mm → Prop}  (hC : Cx f cX9_copy 8 RX9 wsX9_copy rm_X9_copy) (hG : shP g nd) (hR : RtI f cX9_copy (fun r u => u.1 = g ∧ Post r u.2))  : ∀  (I : Mm) , wp_X9_copy_100 (gK g) nd  Post  I → PW f 0 0 g I 100 [(0, .ref (gA g 0))] [] := by
  intro  I  hw
  unfold wp_X9_copy_100 at hw
  refine r_aload_n hC dX9_copy_100 rfl rfl (j := 0) rfl ?_
  refine r_iconst hC (v := (3 : Int32)) dX9_copy_101 rfl (by decide) ?_
  refine r_callI hC (a_V hC (k := 9) (c_X9_faulted hG hw) ci_X9_faulted gX9_copy_X9_faulted rfl ⟨Nat.le_of_ble_eq_true rfl, Nat.le_of_ble_eq_true rfl⟩ ⟨Nat.le_of_ble_eq_true rfl, Nat.le_of_ble_eq_true rfl⟩ rfl (by decide) hG.o.1 (List.mem_singleton.mp hG.o.2) rfl rfl (Nat.le_of_ble_eq_true rfl) dX9_copy_102) ⟨rfl, rfl⟩ rfl (fun r21 J22 hw => ?_)
  exact r_retI hC hR ⟨rfl, rfl⟩ dX9_copy_105 hw
set_option maxRecDepth 100000 in
set_option maxHeartbeats 4000000 in
theorem t_X9_copy_0 {f : Fx} {g : Gm} {nd : Nat} {Post : Int32 → Mm → Prop} {x1 : Int32} {x2 : Int32} {x3 : Int32} {x4 : Int32} {x5 : Int32} {I : Mm} (hC : Cx f cX9_copy 8 RX9 wsX9_copy rm_X9_copy) (hG : shP g nd) (hR : RtI f cX9_copy (fun r u => u.1 = g ∧ Post r u.2)) (hw : wp_X9_copy (gK g) nd x1 x2 x3 x4 x5 I Post) : PW f 0 0 g I 0 [(0, .ref (gA g 0)), (1, .int x1), (2, .int x2), (3, .int x3), (4, .int x4), (5, .int x5)] [] := by
  unfold wp_X9_copy at hw
  refine r_iload_n hC dX9_copy_0 rfl rfl (j := 1) rfl ?_
  refine r_callI hC (a_S hC (c_X9_isSheet  hw) ci_X9_isSheet gX9_copy_X9_isSheet ⟨Nat.le_of_ble_eq_true rfl, Nat.le_of_ble_eq_true rfl⟩ ⟨Nat.le_of_ble_eq_true rfl, Nat.le_of_ble_eq_true rfl⟩ rfl rfl (Nat.le_of_ble_eq_true rfl) dX9_copy_1) ⟨rfl, rfl⟩ rfl (fun r1 J2 hw => ?_)
  refine r_if_eq hC (tgt := 14) dX9_copy_4 rfl (by decide) hw (fun hw => ?_) (fun hw => ?_)
  · exact r_sub (lv' := [(0, .ref (gA g 0))]) [0] rfl (t_X9_copy_14 hC hG hR _ hw)
  · refine r_iload_n hC dX9_copy_7 rfl rfl (j := 3) rfl ?_
    refine r_callI hC (a_S hC (c_X9_isSheet  hw) ci_X9_isSheet gX9_copy_X9_isSheet ⟨Nat.le_of_ble_eq_true rfl, Nat.le_of_ble_eq_true rfl⟩ ⟨Nat.le_of_ble_eq_true rfl, Nat.le_of_ble_eq_true rfl⟩ rfl rfl (Nat.le_of_ble_eq_true rfl) dX9_copy_8) ⟨rfl, rfl⟩ rfl (fun r3 J4 hw => ?_)
    refine r_if_ne hC (tgt := 20) dX9_copy_11 rfl (by decide) hw (fun hw => ?_) (fun hw => ?_)
    · refine r_aload_n hC dX9_copy_20 rfl rfl (j := 0) rfl ?_
      refine r_getR hC dX9_copy_21 rfl hG.o.1 hG.o.2 ffg_X9_copy_13 hG.r0 ?_
      refine r_iload_n hC dX9_copy_24 rfl rfl (j := 1) rfl ?_
      obtain ⟨hi, hw⟩ := hw
      have hq5 := hG.sheet hi
      refine r_aald hC dX9_copy_25 rfl hq5.1.1 hq5.1.2.1 hq5.1.2.2 hq5.2.1 ?_
      refine r_astore hC (lv' := [(6, .ref (gA g (20 + x1.toNatClampNeg))), (0, .ref (gA g 0)), (1, .int x1), (2, .int x2), (3, .int x3), (4, .int x4), (5, .int x5)]) dX9_copy_26 rfl (by decide) rfl ?_
      refine r_aload_n hC dX9_copy_28 rfl rfl (j := 1) rfl ?_
      refine r_getR hC dX9_copy_29 rfl hG.o.1 hG.o.2 ffg_X9_copy_13 hG.r0 ?_
      refine r_iload_n hC dX9_copy_32 rfl rfl (j := 4) rfl ?_
      obtain ⟨hi, hw⟩ := hw
      have hq6 := hG.sheet hi
      refine r_aald hC dX9_copy_33 rfl hq6.1.1 hq6.1.2.1 hq6.1.2.2 hq6.2.1 ?_
      refine r_astore hC (lv' := [(7, .ref (gA g (20 + x3.toNatClampNeg))), (6, .ref (gA g (20 + x1.toNatClampNeg))), (0, .ref (gA g 0)), (1, .int x1), (2, .int x2), (3, .int x3), (4, .int x4), (5, .int x5)]) dX9_copy_34 rfl (by decide) rfl ?_
      refine r_aload hC dX9_copy_36 rfl (j := 1) rfl ?_
      refine r_callI hC (a_V hC (k := 6) (c_X6_isNothing hq5.2.2 hw) ci_X6_isNothing gX9_copy_X6_isNothing rfl ⟨Nat.le_of_ble_eq_true rfl, Nat.le_of_ble_eq_true rfl⟩ ⟨Nat.le_of_ble_eq_true rfl, Nat.le_of_ble_eq_true rfl⟩ rfl (by decide) (hq5.2.2).1.1 (List.mem_singleton.mp (hq5.2.2).1.2) rfl rfl (Nat.le_of_ble_eq_true rfl) dX9_copy_38) ⟨rfl, rfl⟩ rfl (fun r7 J8 hw => ?_)
      refine r_if_ne hC (tgt := 52) dX9_copy_41 rfl (by decide) hw (fun hw => ?_) (fun hw => ?_)
      · exact r_sub (lv' := [(0, .ref (gA g 0))]) [2] rfl (t_X9_copy_52 hC hG hR _ hw)
      · refine r_aload hC dX9_copy_44 rfl (j := 0) rfl ?_
        refine r_callI hC (a_V hC (k := 6) (c_X6_isNothing hq6.2.2 hw) ci_X6_isNothing gX9_copy_X6_isNothing rfl ⟨Nat.le_of_ble_eq_true rfl, Nat.le_of_ble_eq_true rfl⟩ ⟨Nat.le_of_ble_eq_true rfl, Nat.le_of_ble_eq_true rfl⟩ rfl (by decide) (hq6.2.2).1.1 (List.mem_singleton.mp (hq6.2.2).1.2) rfl rfl (Nat.le_of_ble_eq_true rfl) dX9_copy_46) ⟨rfl, rfl⟩ rfl (fun r9 J10 hw => ?_)
        refine r_if_eq hC (tgt := 58) dX9_copy_49 rfl (by decide) hw (fun hw => ?_) (fun hw => ?_)
        · refine r_aload hC dX9_copy_58 rfl (j := 1) rfl ?_
          refine r_getI hC dX9_copy_60 rfl (hq5.2.2).1.1 (hq5.2.2).1.2 ffg_X9_copy_224 ?_
          refine r_aload hC dX9_copy_63 rfl (j := 0) rfl ?_
          refine r_getI hC dX9_copy_65 rfl (hq6.2.2).1.1 (hq6.2.2).1.2 ffg_X9_copy_224 ?_
          refine r_icmp_eq hC (tgt := 77) dX9_copy_68 rfl (by decide) hw (fun hw => ?_) (fun hw => ?_)
          · refine r_aload hC dX9_copy_77 rfl (j := 1) rfl ?_
            refine r_iload_n hC dX9_copy_79 rfl rfl (j := 4) rfl ?_
            refine r_iload hC dX9_copy_80 rfl (j := 7) rfl ?_
            refine r_callI hC (a_V hC (k := 6) (c_X6_has hq5.2.2 hw) ci_X6_has gX9_copy_X6_has rfl ⟨Nat.le_of_ble_eq_true rfl, Nat.le_of_ble_eq_true rfl⟩ ⟨Nat.le_of_ble_eq_true rfl, Nat.le_of_ble_eq_true rfl⟩ rfl (by decide) (hq5.2.2).1.1 (List.mem_singleton.mp (hq5.2.2).1.2) rfl rfl (Nat.le_of_ble_eq_true rfl) dX9_copy_82) ⟨rfl, rfl⟩ rfl (fun r11 J12 hw => ?_)
            refine r_if_eq hC (tgt := 100) dX9_copy_85 rfl (by decide) hw (fun hw => ?_) (fun hw => ?_)
            · exact r_sub (lv' := [(0, .ref (gA g 0))]) [2] rfl (t_X9_copy_100 hC hG hR _ hw)
            · refine r_aload hC dX9_copy_88 rfl (j := 0) rfl ?_
              refine r_iload hC dX9_copy_90 rfl (j := 6) rfl ?_
              refine r_iload hC dX9_copy_92 rfl (j := 7) rfl ?_
              refine r_callI hC (a_V hC (k := 6) (c_X6_has hq6.2.2 hw) ci_X6_has gX9_copy_X6_has rfl ⟨Nat.le_of_ble_eq_true rfl, Nat.le_of_ble_eq_true rfl⟩ ⟨Nat.le_of_ble_eq_true rfl, Nat.le_of_ble_eq_true rfl⟩ rfl (by decide) (hq6.2.2).1.1 (List.mem_singleton.mp (hq6.2.2).1.2) rfl rfl (Nat.le_of_ble_eq_true rfl) dX9_copy_94) ⟨rfl, rfl⟩ rfl (fun r13 J14 hw => ?_)
              refine r_if_ne hC (tgt := 106) dX9_copy_97 rfl (by decide) hw (fun hw => ?_) (fun hw => ?_)
              · refine r_aload_n hC dX9_copy_106 rfl rfl (j := 2) rfl ?_
                refine r_iconst hC (v := (0 : Int32)) dX9_copy_107 rfl (by decide) ?_
                refine r_putI hC dX9_copy_108 rfl hG.o.1 hG.o.2 ffp_X9_copy_88 ?_
                refine r_aload hC dX9_copy_111 rfl (j := 1) rfl ?_
                refine r_getR hC dX9_copy_113 rfl (hq5.2.2).1.1 (hq5.2.2).1.2 ffg_X9_copy_162 (hq5.2.2).2.2 ?_
                refine r_iload_n hC dX9_copy_116 rfl rfl (j := 4) rfl ?_
                refine r_aload hC dX9_copy_117 rfl (j := 0) rfl ?_
                refine r_getR hC dX9_copy_119 rfl (hq6.2.2).1.1 (hq6.2.2).1.2 ffg_X9_copy_162 (hq6.2.2).2.2 ?_
                refine r_iload hC dX9_copy_122 rfl (j := 6) rfl ?_
                refine r_iload hC dX9_copy_124 rfl (j := 7) rfl ?_
                obtain ⟨⟨h1, h2, h3, h4, h5⟩, hw⟩ := hw
                refine r_copy hC dX9_copy_126 rfl ((hq5.2.2).2.1).1 ((hq5.2.2).2.1).2.1 ((hq6.2.2).2.1).1 ((hq6.2.2).2.1).2.1 h1 h2 h3 (by rw [((hq5.2.2).2.1).2.2]; exact h4) (by rw [((hq6.2.2).2.1).2.2]; exact h5) (List.mem_of_getElem? (i := 5) rfl) (List.mem_of_getElem? (i := 6) rfl) (List.mem_of_getElem? (i := 7) rfl) (List.mem_of_getElem? (i := 8) rfl) (by decide) (Nat.le_of_ble_eq_true rfl) ?_
                refine r_iload hC dX9_copy_129 rfl (j := 7) rfl ?_
                exact r_retI hC hR ⟨rfl, rfl⟩ dX9_copy_131 hw
              · exact r_sub (lv' := [(0, .ref (gA g 0))]) [2] rfl (t_X9_copy_100 hC hG hR _ hw)
          · refine r_aload_n hC dX9_copy_71 rfl rfl (j := 2) rfl ?_
            refine r_iconst hC (v := (2 : Int32)) dX9_copy_72 rfl (by decide) ?_
            refine r_callI hC (a_V hC (k := 9) (c_X9_faulted hG hw) ci_X9_faulted gX9_copy_X9_faulted rfl ⟨Nat.le_of_ble_eq_true rfl, Nat.le_of_ble_eq_true rfl⟩ ⟨Nat.le_of_ble_eq_true rfl, Nat.le_of_ble_eq_true rfl⟩ rfl (by decide) hG.o.1 (List.mem_singleton.mp hG.o.2) rfl rfl (Nat.le_of_ble_eq_true rfl) dX9_copy_73) ⟨rfl, rfl⟩ rfl (fun r15 J16 hw => ?_)
            exact r_retI hC hR ⟨rfl, rfl⟩ dX9_copy_76 hw
        · exact r_sub (lv' := [(0, .ref (gA g 0))]) [2] rfl (t_X9_copy_52 hC hG hR _ hw)
    · exact r_sub (lv' := [(0, .ref (gA g 0))]) [0] rfl (t_X9_copy_14 hC hG hR _ hw)
set_option maxRecDepth 100000 in
theorem c_X9_copy {l : Launch} {x : Gx} {g : Gm} {nd : Nat} {x1 : Int32} {x2 : Int32} {x3 : Int32} {x4 : Int32} {x5 : Int32} {I : Mm} {Post : Int32 → Mm → Prop} (hG : shP g nd) (hw : wp_X9_copy (gK g) nd x1 x2 x3 x4 x5 I Post) : KI l x yX9_copy wsX9_copy rm_X9_copy g I [.ref (gA g 0), .int x1, .int x2, .int x3, .int x4, .int x5] (fun r u => u.1 = g ∧ Post r u.2) := KI_of (by decide) rfl rfl (Nat.le_of_ble_eq_true rfl) (fun f hC _ _ hR => t_X9_copy_0 hC hG hR hw)

def wpv_telling (ki : Nat → Nat) (d : Nat)  (I : Mm) (Post : Int32 → Mm → Prop) : Prop := if ki d = 3 then wp_X3_telling ki d  I Post else if ki d = 0 then wp_X0_telling ki d  I Post else wp_X5_telling ki d  I Post
theorem wpv_telling_3 {ki : Nat → Nat} {d : Nat}  {I : Mm} {Post : Int32 → Mm → Prop} (h : ki d = 3) (hw : wpv_telling ki d  I Post) : wp_X3_telling ki d  I Post := by
  unfold wpv_telling at hw
  rw [if_pos h] at hw
  exact hw
theorem wpv_telling_0 {ki : Nat → Nat} {d : Nat}  {I : Mm} {Post : Int32 → Mm → Prop} (h : ki d = 0) (hw : wpv_telling ki d  I Post) : wp_X0_telling ki d  I Post := by
  unfold wpv_telling at hw
  rw [if_neg (by rw [h]; decide), if_pos h] at hw
  exact hw
theorem wpv_telling_5 {ki : Nat → Nat} {d : Nat}  {I : Mm} {Post : Int32 → Mm → Prop} (h : ki d = 5) (hw : wpv_telling ki d  I Post) : wp_X5_telling ki d  I Post := by
  unfold wpv_telling at hw
  rw [if_neg (by rw [h]; decide), if_neg (by rw [h]; decide)] at hw
  exact hw
/-! X9_tell -/
abbrev rm_X9_tell : Room := { frames := 4, cells := 0, slots := 0, locals := 84 }
theorem ci_X9_tell : CI yX9_tell wsX9_tell cX9_tell 2 (some .int) 1 := ⟨⟨_, rfl⟩, by decide, by decide, by decide +kernel⟩
def wp_X9_tell (ki : Nat → Nat) (nd : Nat) (x1 : Int32) (I : Mm) (Post : Int32 → Mm → Prop) : Prop := wp_X9_isDesk ki nd x1 I (fun r1 J2 => if r1 = 0 then (Post (-1 : Int32) J2) else (vp_in x1 nd ∧ (wpv_telling ki (40 + x1.toNatClampNeg) J2 (fun r4 J5 => Post r4 J5))))
set_option maxRecDepth 20000 in
theorem uw_X9_tell_9 : ∀ w ∈ u_ws RX9 TX9 11, w ∈ wsX9_tell := by decide +kernel
set_option maxRecDepth 20000 in
theorem ffg_X9_tell_26 : ∀ k ∈ ([9] : List Nat), FF wsX9_tell RX9 26 k 2 ∧ fR k 2 = true := List.forall_mem_cons.mpr ⟨⟨⟨RX9, TX9, 11, "PageDesks", rfl, rfl, by decide, by decide, uw_X9_tell_9, (List.mem_of_getElem? (i := 1) rfl), Or.inl rfl⟩, rfl⟩, fun _ h => absurd h List.not_mem_nil⟩
set_option maxRecDepth 20000 in
theorem ffg_X9_tell_57 : ∀ k ∈ ([9] : List Nat), FF wsX9_tell RX9 57 k 7 ∧ fR k 7 = true := List.forall_mem_cons.mpr ⟨⟨⟨RX9, TX9, 11, "PageDesks", rfl, rfl, by decide, by decide, uw_X9_tell_9, (List.mem_of_getElem? (i := 2) rfl), Or.inl rfl⟩, rfl⟩, fun _ h => absurd h List.not_mem_nil⟩
set_option maxRecDepth 100000 in
set_option maxHeartbeats 4000000 in
theorem t_X9_tell_0 {f : Fx} {g : Gm} {nd : Nat} {Post : Int32 → Mm → Prop} {x1 : Int32} {I : Mm} (hC : Cx f cX9_tell 2 RX9 wsX9_tell rm_X9_tell) (hG : shP g nd) (hR : RtI f cX9_tell (fun r u => u.1 = g ∧ Post r u.2)) (hw : wp_X9_tell (gK g) nd x1 I Post) : PW f 0 0 g I 0 [(0, .ref (gA g 0)), (1, .int x1)] [] := by
  unfold wp_X9_tell at hw
  refine r_aload_n hC dX9_tell_0 rfl rfl (j := 0) rfl ?_
  refine r_iload_n hC dX9_tell_1 rfl rfl (j := 1) rfl ?_
  refine r_callI hC (a_V hC (k := 9) (c_X9_isDesk hG hw) ci_X9_isDesk gX9_tell_X9_isDesk rfl ⟨Nat.le_of_ble_eq_true rfl, Nat.le_of_ble_eq_true rfl⟩ ⟨Nat.le_of_ble_eq_true rfl, Nat.le_of_ble_eq_true rfl⟩ rfl (by decide) hG.o.1 (List.mem_singleton.mp hG.o.2) rfl rfl (Nat.le_of_ble_eq_true rfl) dX9_tell_2) ⟨rfl, rfl⟩ rfl (fun r1 J2 hw => ?_)
  refine r_if_eq hC (tgt := 24) dX9_tell_5 rfl (by decide) hw (fun hw => ?_) (fun hw => ?_)
  · refine r_iconst hC (v := (-1 : Int32)) dX9_tell_24 rfl (by decide) ?_
    exact r_retI hC hR ⟨rfl, rfl⟩ dX9_tell_25 hw
  · refine r_aload_n hC dX9_tell_8 rfl rfl (j := 0) rfl ?_
    refine r_getR hC dX9_tell_9 rfl hG.o.1 hG.o.2 ffg_X9_tell_26 hG.r2 ?_
    refine r_iload_n hC dX9_tell_12 rfl rfl (j := 1) rfl ?_
    obtain ⟨hi, hw⟩ := hw
    have hq3 := hG.desk hi
    refine r_aald hC dX9_tell_13 rfl hq3.1.1 hq3.1.2.1 hq3.1.2.2 hq3.2.1 ?_
    refine r_aload_n hC dX9_tell_14 rfl rfl (j := 0) rfl ?_
    refine r_getR hC dX9_tell_15 rfl hG.o.1 hG.o.2 ffg_X9_tell_57 hG.r7 ?_
    refine r_callI hC (rmc := rm_X3_telling) (a_K hq3.2.2 (fun h => a_O hC (k := 0) (rmc := rm_X0_telling) (c_X0_telling (shD.of hq3.2.2 h (by decide)) hG.c (wpv_telling_0 h hw)) ci_X0_telling gX9_tell_X0_telling_u236X0 (List.mem_of_getElem? (i := 34) rfl) ⟨by decide, by decide⟩ rfl ⟨Nat.le_of_ble_eq_true rfl, Nat.le_of_ble_eq_true rfl⟩ ⟨Nat.le_of_ble_eq_true rfl, Nat.le_of_ble_eq_true rfl⟩ rfl (by decide) (hq3.2.2).1.1 h rfl rfl (Nat.le_of_ble_eq_true rfl) dX9_tell_18) (fun h => a_V hC (k := 3) (c_X3_telling hq3.2.2 hG.c (wpv_telling_3 h hw)) ci_X3_telling gX9_tell_X3_telling rfl ⟨Nat.le_of_ble_eq_true rfl, Nat.le_of_ble_eq_true rfl⟩ ⟨Nat.le_of_ble_eq_true rfl, Nat.le_of_ble_eq_true rfl⟩ rfl (by decide) (hq3.2.2).1.1 h rfl rfl (Nat.le_of_ble_eq_true rfl) dX9_tell_18) (fun h => a_O hC (k := 5) (rmc := rm_X5_telling) (c_X5_telling (shD.of hq3.2.2 h (by decide)) hG.c (wpv_telling_5 h hw)) ci_X5_telling gX9_tell_X5_telling_u236X5 (List.mem_of_getElem? (i := 34) rfl) ⟨by decide, by decide⟩ rfl ⟨Nat.le_of_ble_eq_true rfl, Nat.le_of_ble_eq_true rfl⟩ ⟨Nat.le_of_ble_eq_true rfl, Nat.le_of_ble_eq_true rfl⟩ rfl (by decide) (hq3.2.2).1.1 h rfl rfl (Nat.le_of_ble_eq_true rfl) dX9_tell_18)) ⟨rfl, rfl⟩ rfl (fun r4 J5 hw => ?_)
    refine r_goto hC (tgt := 25) dX9_tell_21 (by decide) ?_
    exact r_retI hC hR ⟨rfl, rfl⟩ dX9_tell_25 hw
set_option maxRecDepth 100000 in
theorem c_X9_tell {l : Launch} {x : Gx} {g : Gm} {nd : Nat} {x1 : Int32} {I : Mm} {Post : Int32 → Mm → Prop} (hG : shP g nd) (hw : wp_X9_tell (gK g) nd x1 I Post) : KI l x yX9_tell wsX9_tell rm_X9_tell g I [.ref (gA g 0), .int x1] (fun r u => u.1 = g ∧ Post r u.2) := KI_of (by decide) rfl rfl (Nat.le_of_ble_eq_true rfl) (fun f hC _ _ hR => t_X9_tell_0 hC hG hR hw)

def wpv_counted (ki : Nat → Nat) (d : Nat)  (I : Mm) (Post : Int32 → Mm → Prop) : Prop := if ki d = 3 then wp_X3_counted ki d  I Post else if ki d = 0 then wp_X3_counted ki d  I Post else wp_X5_counted ki d  I Post
theorem wpv_counted_3 {ki : Nat → Nat} {d : Nat}  {I : Mm} {Post : Int32 → Mm → Prop} (h : ki d = 3) (hw : wpv_counted ki d  I Post) : wp_X3_counted ki d  I Post := by
  unfold wpv_counted at hw
  rw [if_pos h] at hw
  exact hw
theorem wpv_counted_0 {ki : Nat → Nat} {d : Nat}  {I : Mm} {Post : Int32 → Mm → Prop} (h : ki d = 0) (hw : wpv_counted ki d  I Post) : wp_X3_counted ki d  I Post := by
  unfold wpv_counted at hw
  rw [if_neg (by rw [h]; decide), if_pos h] at hw
  exact hw
theorem wpv_counted_5 {ki : Nat → Nat} {d : Nat}  {I : Mm} {Post : Int32 → Mm → Prop} (h : ki d = 5) (hw : wpv_counted ki d  I Post) : wp_X5_counted ki d  I Post := by
  unfold wpv_counted at hw
  rw [if_neg (by rw [h]; decide), if_neg (by rw [h]; decide)] at hw
  exact hw
/-! X9_tally -/
abbrev rm_X9_tally : Room := { frames := 2, cells := 0, slots := 0, locals := 43 }
theorem ci_X9_tally : CI yX9_tally wsX9_tally cX9_tally 2 (some .int) 1 := ⟨⟨_, rfl⟩, by decide, by decide, by decide +kernel⟩
def wp_X9_tally (ki : Nat → Nat) (nd : Nat) (x1 : Int32) (I : Mm) (Post : Int32 → Mm → Prop) : Prop := wp_X9_isDesk ki nd x1 I (fun r1 J2 => if r1 = 0 then (Post (-1 : Int32) J2) else (vp_in x1 nd ∧ (wpv_counted ki (40 + x1.toNatClampNeg) J2 (fun r4 J5 => Post r4 J5))))
set_option maxRecDepth 20000 in
theorem uw_X9_tally_9 : ∀ w ∈ u_ws RX9 TX9 11, w ∈ wsX9_tally := by decide +kernel
set_option maxRecDepth 20000 in
theorem ffg_X9_tally_26 : ∀ k ∈ ([9] : List Nat), FF wsX9_tally RX9 26 k 2 ∧ fR k 2 = true := List.forall_mem_cons.mpr ⟨⟨⟨RX9, TX9, 11, "PageDesks", rfl, rfl, by decide, by decide, uw_X9_tally_9, (List.mem_of_getElem? (i := 1) rfl), Or.inl rfl⟩, rfl⟩, fun _ h => absurd h List.not_mem_nil⟩
set_option maxRecDepth 20000 in
theorem ffg_X9_tally_57 : ∀ k ∈ ([9] : List Nat), FF wsX9_tally RX9 57 k 7 ∧ fR k 7 = true := List.forall_mem_cons.mpr ⟨⟨⟨RX9, TX9, 11, "PageDesks", rfl, rfl, by decide, by decide, uw_X9_tally_9, (List.mem_of_getElem? (i := 2) rfl), Or.inl rfl⟩, rfl⟩, fun _ h => absurd h List.not_mem_nil⟩
set_option maxRecDepth 100000 in
set_option maxHeartbeats 4000000 in
theorem t_X9_tally_0 {f : Fx} {g : Gm} {nd : Nat} {Post : Int32 → Mm → Prop} {x1 : Int32} {I : Mm} (hC : Cx f cX9_tally 2 RX9 wsX9_tally rm_X9_tally) (hG : shP g nd) (hR : RtI f cX9_tally (fun r u => u.1 = g ∧ Post r u.2)) (hw : wp_X9_tally (gK g) nd x1 I Post) : PW f 0 0 g I 0 [(0, .ref (gA g 0)), (1, .int x1)] [] := by
  unfold wp_X9_tally at hw
  refine r_aload_n hC dX9_tally_0 rfl rfl (j := 0) rfl ?_
  refine r_iload_n hC dX9_tally_1 rfl rfl (j := 1) rfl ?_
  refine r_callI hC (a_V hC (k := 9) (c_X9_isDesk hG hw) ci_X9_isDesk gX9_tally_X9_isDesk rfl ⟨Nat.le_of_ble_eq_true rfl, Nat.le_of_ble_eq_true rfl⟩ ⟨Nat.le_of_ble_eq_true rfl, Nat.le_of_ble_eq_true rfl⟩ rfl (by decide) hG.o.1 (List.mem_singleton.mp hG.o.2) rfl rfl (Nat.le_of_ble_eq_true rfl) dX9_tally_2) ⟨rfl, rfl⟩ rfl (fun r1 J2 hw => ?_)
  refine r_if_eq hC (tgt := 24) dX9_tally_5 rfl (by decide) hw (fun hw => ?_) (fun hw => ?_)
  · refine r_iconst hC (v := (-1 : Int32)) dX9_tally_24 rfl (by decide) ?_
    exact r_retI hC hR ⟨rfl, rfl⟩ dX9_tally_25 hw
  · refine r_aload_n hC dX9_tally_8 rfl rfl (j := 0) rfl ?_
    refine r_getR hC dX9_tally_9 rfl hG.o.1 hG.o.2 ffg_X9_tally_26 hG.r2 ?_
    refine r_iload_n hC dX9_tally_12 rfl rfl (j := 1) rfl ?_
    obtain ⟨hi, hw⟩ := hw
    have hq3 := hG.desk hi
    refine r_aald hC dX9_tally_13 rfl hq3.1.1 hq3.1.2.1 hq3.1.2.2 hq3.2.1 ?_
    refine r_aload_n hC dX9_tally_14 rfl rfl (j := 0) rfl ?_
    refine r_getR hC dX9_tally_15 rfl hG.o.1 hG.o.2 ffg_X9_tally_57 hG.r7 ?_
    refine r_callI hC (rmc := rm_X3_counted) (a_K hq3.2.2 (fun h => a_U hC (k := 0) (rmc := rm_X3_counted) (c_X3_counted hq3.2.2 hG.c (wpv_counted_0 h hw)) ci_X3_counted gX9_tally_X3_counted_u240X0 rfl ⟨Nat.le_of_ble_eq_true rfl, Nat.le_of_ble_eq_true rfl⟩ ⟨Nat.le_of_ble_eq_true rfl, Nat.le_of_ble_eq_true rfl⟩ rfl (by decide) (hq3.2.2).1.1 h rfl rfl (Nat.le_of_ble_eq_true rfl) dX9_tally_18) (fun h => a_V hC (k := 3) (c_X3_counted hq3.2.2 hG.c (wpv_counted_3 h hw)) ci_X3_counted gX9_tally_X3_counted rfl ⟨Nat.le_of_ble_eq_true rfl, Nat.le_of_ble_eq_true rfl⟩ ⟨Nat.le_of_ble_eq_true rfl, Nat.le_of_ble_eq_true rfl⟩ rfl (by decide) (hq3.2.2).1.1 h rfl rfl (Nat.le_of_ble_eq_true rfl) dX9_tally_18) (fun h => a_O hC (k := 5) (rmc := rm_X5_counted) (c_X5_counted (shD.of hq3.2.2 h (by decide)) hG.c (wpv_counted_5 h hw)) ci_X5_counted gX9_tally_X5_counted_u240X5 (List.mem_of_getElem? (i := 17) rfl) ⟨by decide, by decide⟩ rfl ⟨Nat.le_of_ble_eq_true rfl, Nat.le_of_ble_eq_true rfl⟩ ⟨Nat.le_of_ble_eq_true rfl, Nat.le_of_ble_eq_true rfl⟩ rfl (by decide) (hq3.2.2).1.1 h rfl rfl (Nat.le_of_ble_eq_true rfl) dX9_tally_18)) ⟨rfl, rfl⟩ rfl (fun r4 J5 hw => ?_)
    refine r_goto hC (tgt := 25) dX9_tally_21 (by decide) ?_
    exact r_retI hC hR ⟨rfl, rfl⟩ dX9_tally_25 hw
set_option maxRecDepth 100000 in
theorem c_X9_tally {l : Launch} {x : Gx} {g : Gm} {nd : Nat} {x1 : Int32} {I : Mm} {Post : Int32 → Mm → Prop} (hG : shP g nd) (hw : wp_X9_tally (gK g) nd x1 I Post) : KI l x yX9_tally wsX9_tally rm_X9_tally g I [.ref (gA g 0), .int x1] (fun r u => u.1 = g ∧ Post r u.2) := KI_of (by decide) rfl rfl (Nat.le_of_ble_eq_true rfl) (fun f hC _ _ hR => t_X9_tally_0 hC hG hR hw)

/-! X9_isOfKind -/
abbrev rm_X9_isOfKind : Room := { frames := 0, cells := 0, slots := 0, locals := 0 }
theorem ci_X9_isOfKind : CI yX9_isOfKind wsX9_isOfKind cX9_isOfKind 2 (some .boolean) 2 := ⟨⟨_, rfl⟩, by decide, by decide, by decide +kernel⟩
def wp_X9_isOfKind (ki : Nat → Nat) (d : Nat) (x1 : Int32) (I : Mm) (Post : Int32 → Mm → Prop) : Prop := if x1 = 0 then (Post (1 : Int32) I) else (if x1 = 1 then (((if ki d = 3 then (0 : Int32) else 1) = 0 ∨ (if ki d = 3 then (0 : Int32) else 1) = 1) ∧ Post (if ki d = 3 then (0 : Int32) else 1) I) else (((if ki d = 5 then (1 : Int32) else 0) = 0 ∨ (if ki d = 5 then (1 : Int32) else 0) = 1) ∧ Post (if ki d = 5 then (1 : Int32) else 0) I))

set_option maxRecDepth 100000 in
set_option maxHeartbeats 4000000 in
theorem t_X9_isOfKind_0 {f : Fx} {g : Gm} {d : Nat} {Post : Int32 → Mm → Prop} {x1 : Int32} {I : Mm} (hC : Cx f cX9_isOfKind 2 RX9 wsX9_isOfKind rm_X9_isOfKind) (hd : shD g [0, 3, 5] d) (hR : RtZ f cX9_isOfKind (fun r u => u.1 = g ∧ Post r u.2)) (hw : wp_X9_isOfKind (gK g) d x1 I Post) : PW f 0 0 g I 0 [(0, .ref (gA g d)), (1, .int x1)] [] := by
  unfold wp_X9_isOfKind at hw
  refine r_iload_n hC dX9_isOfKind_0 rfl rfl (j := 1) rfl ?_
  by_cases h0 : x1 = 0
  · rw [if_pos h0] at hw
    refine r_look hC (off := 27) (tgt := 28) dX9_isOfKind_1 (by decide) (by first | (rw [h0]; done) | (rw [h0]; decide)) (by decide) ?_
    refine r_iconst hC (v := (1 : Int32)) dX9_isOfKind_28 rfl (by decide) ?_
    exact r_retZ hC hR ⟨rfl, rfl⟩ dX9_isOfKind_29 (by decide) hw
  · rw [if_neg h0] at hw
    by_cases h1 : x1 = 1
    · rw [if_pos h1] at hw
      refine r_look hC (off := 29) (tgt := 30) dX9_isOfKind_1 (by decide) (by first | (rw [h1]; done) | (rw [h1]; decide)) (by decide) ?_
      refine r_aload_n hC dX9_isOfKind_30 rfl rfl (j := 0) rfl ?_
      refine r_instX0 hC dX9_isOfKind_31 rfl (List.mem_of_getElem? (i := 1) rfl) hd ?_
      exact r_retZ hC hR ⟨rfl, rfl⟩ dX9_isOfKind_34 (zb_of hw.1) hw.2
    · rw [if_neg h1] at hw
      refine r_look hC (off := 34) (tgt := 35) dX9_isOfKind_1 (by decide) (by show Op.lookupswitch.offset [(0, 27), (1, 29)] _ _ = _; first | (rw [lv_osw h0 (show (0 : Int32).toInt = 0 by decide), lv_osw h1 (show (1 : Int32).toInt = 1 by decide)]; done) | (rw [lv_osw h0 (show (0 : Int32).toInt = 0 by decide), lv_osw h1 (show (1 : Int32).toInt = 1 by decide)]; rfl)) (by decide) ?_
      refine r_aload_n hC dX9_isOfKind_35 rfl rfl (j := 0) rfl ?_
      refine r_instX5 hC dX9_isOfKind_36 rfl (List.mem_of_getElem? (i := 2) rfl) hd ?_
      exact r_retZ hC hR ⟨rfl, rfl⟩ dX9_isOfKind_39 (zb_of hw.1) hw.2
set_option maxRecDepth 100000 in
theorem c_X9_isOfKind {l : Launch} {x : Gx} {g : Gm} {d : Nat} {x1 : Int32} {I : Mm} {Post : Int32 → Mm → Prop} (hd : shD g [0, 3, 5] d) (hw : wp_X9_isOfKind (gK g) d x1 I Post) : KI l x yX9_isOfKind wsX9_isOfKind rm_X9_isOfKind g I [.ref (gA g d), .int x1] (fun r u => u.1 = g ∧ Post r u.2) := KZ_of (by decide) rfl rfl (Nat.le_of_ble_eq_true rfl) (fun f hC _ _ hR => t_X9_isOfKind_0 hC hd hR hw)

/-! X9_as -/
abbrev rm_X9_as : Room := { frames := 2, cells := 0, slots := 0, locals := 43 }
theorem ci_X9_as : CI yX9_as wsX9_as cX9_as 3 (some .int) 2 := ⟨⟨_, rfl⟩, by decide, by decide, by decide +kernel⟩
def wp_X9_as (ki : Nat → Nat) (nd : Nat) (x1 : Int32) (x2 : Int32) (I : Mm) (Post : Int32 → Mm → Prop) : Prop := wp_X9_isDesk ki nd x1 I (fun r1 J2 => if r1 = 0 then (wp_X9_refused ki nd (-1 : Int32) J2 (fun r12 J13 => Post r12 J13)) else (wp_X9_isWithin x2 (0 : Int32) (2 : Int32) J2 (fun r3 J4 => if r3 = 0 then (wp_X9_refused ki nd (-2 : Int32) J4 (fun r10 J11 => Post r10 J11)) else (vp_in x1 nd ∧ (wp_X9_isOfKind ki (40 + x1.toNatClampNeg) x2 J4 (fun r6 J7 => if r6 = 0 then (wp_X9_faulted ki nd (2 : Int32) J7 (fun r8 J9 => Post r8 J9)) else (Post (1 : Int32) (up2 J7 0 10 (0 : Int32)))))))))
set_option maxRecDepth 20000 in
theorem uw_X9_as_9 : ∀ w ∈ u_ws RX9 TX9 11, w ∈ wsX9_as := by decide +kernel
set_option maxRecDepth 20000 in
theorem ffg_X9_as_26 : ∀ k ∈ ([9] : List Nat), FF wsX9_as RX9 26 k 2 ∧ fR k 2 = true := List.forall_mem_cons.mpr ⟨⟨⟨RX9, TX9, 11, "PageDesks", rfl, rfl, by decide, by decide, uw_X9_as_9, (List.mem_of_getElem? (i := 1) rfl), Or.inl rfl⟩, rfl⟩, fun _ h => absurd h List.not_mem_nil⟩
set_option maxRecDepth 20000 in
theorem ffp_X9_as_88 : ∀ k ∈ ([9] : List Nat), FF wsX9_as RX9 88 k 10 ∧ fR k 10 = false ∧ FP k 10 := List.forall_mem_cons.mpr ⟨⟨⟨RX9, TX9, 11, "PageDesks", rfl, rfl, by decide, by decide, uw_X9_as_9, (List.mem_of_getElem? (i := 2) rfl), Or.inl rfl⟩, rfl, ⟨RX9, TX9, 11, tyX9, rfl, tyX9_ok, nmX9, rfl, rfl⟩⟩, fun _ h => absurd h List.not_mem_nil⟩
set_option maxRecDepth 100000 in
set_option maxHeartbeats 4000000 in
theorem t_X9_as_0 {f : Fx} {g : Gm} {nd : Nat} {Post : Int32 → Mm → Prop} {x1 : Int32} {x2 : Int32} {I : Mm} (hC : Cx f cX9_as 3 RX9 wsX9_as rm_X9_as) (hG : shP g nd) (hR : RtI f cX9_as (fun r u => u.1 = g ∧ Post r u.2)) (hw : wp_X9_as (gK g) nd x1 x2 I Post) : PW f 0 0 g I 0 [(0, .ref (gA g 0)), (1, .int x1), (2, .int x2)] [] := by
  unfold wp_X9_as at hw
  refine r_aload_n hC dX9_as_0 rfl rfl (j := 0) rfl ?_
  refine r_iload_n hC dX9_as_1 rfl rfl (j := 1) rfl ?_
  refine r_callI hC (a_V hC (k := 9) (c_X9_isDesk hG hw) ci_X9_isDesk gX9_as_X9_isDesk rfl ⟨Nat.le_of_ble_eq_true rfl, Nat.le_of_ble_eq_true rfl⟩ ⟨Nat.le_of_ble_eq_true rfl, Nat.le_of_ble_eq_true rfl⟩ rfl (by decide) hG.o.1 (List.mem_singleton.mp hG.o.2) rfl rfl (Nat.le_of_ble_eq_true rfl) dX9_as_2) ⟨rfl, rfl⟩ rfl (fun r1 J2 hw => ?_)
  refine r_if_ne hC (tgt := 14) dX9_as_5 rfl (by decide) hw (fun hw => ?_) (fun hw => ?_)
  · refine r_iload_n hC dX9_as_14 rfl rfl (j := 2) rfl ?_
    refine r_iconst hC (v := (0 : Int32)) dX9_as_15 rfl (by decide) ?_
    refine r_iconst hC (v := (2 : Int32)) dX9_as_16 rfl (by decide) ?_
    refine r_callI hC (a_S hC (c_X9_isWithin  hw) ci_X9_isWithin gX9_as_X9_isWithin ⟨Nat.le_of_ble_eq_true rfl, Nat.le_of_ble_eq_true rfl⟩ ⟨Nat.le_of_ble_eq_true rfl, Nat.le_of_ble_eq_true rfl⟩ rfl rfl (Nat.le_of_ble_eq_true rfl) dX9_as_17) ⟨rfl, rfl⟩ rfl (fun r3 J4 hw => ?_)
    refine r_if_ne hC (tgt := 30) dX9_as_20 rfl (by decide) hw (fun hw => ?_) (fun hw => ?_)
    · refine r_aload_n hC dX9_as_30 rfl rfl (j := 0) rfl ?_
      refine r_getR hC dX9_as_31 rfl hG.o.1 hG.o.2 ffg_X9_as_26 hG.r2 ?_
      refine r_iload_n hC dX9_as_34 rfl rfl (j := 1) rfl ?_
      obtain ⟨hi, hw⟩ := hw
      have hq5 := hG.desk hi
      refine r_aald hC dX9_as_35 rfl hq5.1.1 hq5.1.2.1 hq5.1.2.2 hq5.2.1 ?_
      refine r_iload_n hC dX9_as_36 rfl rfl (j := 2) rfl ?_
      refine r_callI hC (a_S hC (c_X9_isOfKind hq5.2.2 hw) ci_X9_isOfKind gX9_as_X9_isOfKind ⟨Nat.le_of_ble_eq_true rfl, Nat.le_of_ble_eq_true rfl⟩ ⟨Nat.le_of_ble_eq_true rfl, Nat.le_of_ble_eq_true rfl⟩ rfl rfl (Nat.le_of_ble_eq_true rfl) dX9_as_37) ⟨rfl, rfl⟩ rfl (fun r6 J7 hw => ?_)
      refine r_if_ne hC (tgt := 49) dX9_as_40 rfl (by decide) hw (fun hw => ?_) (fun hw => ?_)
      · refine r_aload_n hC dX9_as_49 rfl rfl (j := 0) rfl ?_
        refine r_iconst hC (v := (0 : Int32)) dX9_as_50 rfl (by decide) ?_
        refine r_putI hC dX9_as_51 rfl hG.o.1 hG.o.2 ffp_X9_as_88 ?_
        refine r_iconst hC (v := (1 : Int32)) dX9_as_54 rfl (by decide) ?_
        exact r_retI hC hR ⟨rfl, rfl⟩ dX9_as_55 hw
      · refine r_aload_n hC dX9_as_43 rfl rfl (j := 0) rfl ?_
        refine r_iconst hC (v := (2 : Int32)) dX9_as_44 rfl (by decide) ?_
        refine r_callI hC (a_V hC (k := 9) (c_X9_faulted hG hw) ci_X9_faulted gX9_as_X9_faulted rfl ⟨Nat.le_of_ble_eq_true rfl, Nat.le_of_ble_eq_true rfl⟩ ⟨Nat.le_of_ble_eq_true rfl, Nat.le_of_ble_eq_true rfl⟩ rfl (by decide) hG.o.1 (List.mem_singleton.mp hG.o.2) rfl rfl (Nat.le_of_ble_eq_true rfl) dX9_as_45) ⟨rfl, rfl⟩ rfl (fun r8 J9 hw => ?_)
        exact r_retI hC hR ⟨rfl, rfl⟩ dX9_as_48 hw
    · refine r_aload_n hC dX9_as_23 rfl rfl (j := 0) rfl ?_
      refine r_bipush hC (v := (-2 : Int32)) dX9_as_24 rfl (by decide) ?_
      refine r_callI hC (a_V hC (k := 9) (c_X9_refused hG hw) ci_X9_refused gX9_as_X9_refused rfl ⟨Nat.le_of_ble_eq_true rfl, Nat.le_of_ble_eq_true rfl⟩ ⟨Nat.le_of_ble_eq_true rfl, Nat.le_of_ble_eq_true rfl⟩ rfl (by decide) hG.o.1 (List.mem_singleton.mp hG.o.2) rfl rfl (Nat.le_of_ble_eq_true rfl) dX9_as_26) ⟨rfl, rfl⟩ rfl (fun r10 J11 hw => ?_)
      exact r_retI hC hR ⟨rfl, rfl⟩ dX9_as_29 hw
  · refine r_aload_n hC dX9_as_8 rfl rfl (j := 0) rfl ?_
    refine r_iconst hC (v := (-1 : Int32)) dX9_as_9 rfl (by decide) ?_
    refine r_callI hC (a_V hC (k := 9) (c_X9_refused hG hw) ci_X9_refused gX9_as_X9_refused rfl ⟨Nat.le_of_ble_eq_true rfl, Nat.le_of_ble_eq_true rfl⟩ ⟨Nat.le_of_ble_eq_true rfl, Nat.le_of_ble_eq_true rfl⟩ rfl (by decide) hG.o.1 (List.mem_singleton.mp hG.o.2) rfl rfl (Nat.le_of_ble_eq_true rfl) dX9_as_10) ⟨rfl, rfl⟩ rfl (fun r12 J13 hw => ?_)
    exact r_retI hC hR ⟨rfl, rfl⟩ dX9_as_13 hw
set_option maxRecDepth 100000 in
theorem c_X9_as {l : Launch} {x : Gx} {g : Gm} {nd : Nat} {x1 : Int32} {x2 : Int32} {I : Mm} {Post : Int32 → Mm → Prop} (hG : shP g nd) (hw : wp_X9_as (gK g) nd x1 x2 I Post) : KI l x yX9_as wsX9_as rm_X9_as g I [.ref (gA g 0), .int x1, .int x2] (fun r u => u.1 = g ∧ Post r u.2) := KI_of (by decide) rfl rfl (Nat.le_of_ble_eq_true rfl) (fun f hC _ _ hR => t_X9_as_0 hC hG hR hw)

/-! X9_trace -/
abbrev rm_X9_trace : Room := { frames := 0, cells := 0, slots := 0, locals := 0 }
theorem ci_X9_trace : CI yX9_trace wsX9_trace cX9_trace 1 (some .int) 0 := ⟨⟨_, rfl⟩, by decide, by decide, by decide +kernel⟩
def wp_X9_trace (ki : Nat → Nat) (nd : Nat)  (I : Mm) (Post : Int32 → Mm → Prop) : Prop := Post (I 16 0) I
set_option maxRecDepth 20000 in
theorem uw_X9_trace_9 : ∀ w ∈ u_ws RX9 TX9 11, w ∈ wsX9_trace := by decide +kernel
set_option maxRecDepth 20000 in
theorem ffg_X9_trace_57 : ∀ k ∈ ([9] : List Nat), FF wsX9_trace RX9 57 k 7 ∧ fR k 7 = true := List.forall_mem_cons.mpr ⟨⟨⟨RX9, TX9, 11, "PageDesks", rfl, rfl, by decide, by decide, uw_X9_trace_9, (List.mem_of_getElem? (i := 1) rfl), Or.inl rfl⟩, rfl⟩, fun _ h => absurd h List.not_mem_nil⟩
set_option maxRecDepth 20000 in
theorem uw_X9_trace_8 : ∀ w ∈ u_ws RX8 TX8 1, w ∈ wsX9_trace := by decide +kernel
set_option maxRecDepth 20000 in
theorem ffg_X9_trace_247 : ∀ k ∈ ([8] : List Nat), FF wsX9_trace RX9 247 k 0 ∧ fR k 0 = false := List.forall_mem_cons.mpr ⟨⟨⟨RX8, TX8, 1, "PageDesks$Trace", rfl, rfl, by decide, by decide, uw_X9_trace_8, (List.mem_of_getElem? (i := 2) rfl), Or.inl rfl⟩, rfl⟩, fun _ h => absurd h List.not_mem_nil⟩
set_option maxRecDepth 100000 in
set_option maxHeartbeats 4000000 in
theorem t_X9_trace_0 {f : Fx} {g : Gm} {nd : Nat} {Post : Int32 → Mm → Prop}  {I : Mm} (hC : Cx f cX9_trace 1 RX9 wsX9_trace rm_X9_trace) (hG : shP g nd) (hR : RtI f cX9_trace (fun r u => u.1 = g ∧ Post r u.2)) (hw : wp_X9_trace (gK g) nd  I Post) : PW f 0 0 g I 0 [(0, .ref (gA g 0))] [] := by
  unfold wp_X9_trace at hw
  refine r_aload_n hC dX9_trace_0 rfl rfl (j := 0) rfl ?_
  refine r_getR hC dX9_trace_1 rfl hG.o.1 hG.o.2 ffg_X9_trace_57 hG.r7 ?_
  refine r_getI hC dX9_trace_4 rfl (hG.c).1 (hG.c).2 ffg_X9_trace_247 ?_
  exact r_retI hC hR ⟨rfl, rfl⟩ dX9_trace_7 hw
set_option maxRecDepth 100000 in
theorem c_X9_trace {l : Launch} {x : Gx} {g : Gm} {nd : Nat}  {I : Mm} {Post : Int32 → Mm → Prop} (hG : shP g nd) (hw : wp_X9_trace (gK g) nd  I Post) : KI l x yX9_trace wsX9_trace rm_X9_trace g I [.ref (gA g 0)] (fun r u => u.1 = g ∧ Post r u.2) := KI_of (by decide) rfl rfl (Nat.le_of_ble_eq_true rfl) (fun f hC _ _ hR => t_X9_trace_0 hC hG hR hw)

/-! X9_fault -/
abbrev rm_X9_fault : Room := { frames := 0, cells := 0, slots := 0, locals := 0 }
theorem ci_X9_fault : CI yX9_fault wsX9_fault cX9_fault 1 (some .int) 0 := ⟨⟨_, rfl⟩, by decide, by decide, by decide +kernel⟩
def wp_X9_fault (ki : Nat → Nat) (nd : Nat)  (I : Mm) (Post : Int32 → Mm → Prop) : Prop := Post (I 0 10) I
set_option maxRecDepth 20000 in
theorem uw_X9_fault_9 : ∀ w ∈ u_ws RX9 TX9 11, w ∈ wsX9_fault := by decide +kernel
set_option maxRecDepth 20000 in
theorem ffg_X9_fault_88 : ∀ k ∈ ([9] : List Nat), FF wsX9_fault RX9 88 k 10 ∧ fR k 10 = false := List.forall_mem_cons.mpr ⟨⟨⟨RX9, TX9, 11, "PageDesks", rfl, rfl, by decide, by decide, uw_X9_fault_9, (List.mem_of_getElem? (i := 1) rfl), Or.inl rfl⟩, rfl⟩, fun _ h => absurd h List.not_mem_nil⟩
set_option maxRecDepth 100000 in
set_option maxHeartbeats 4000000 in
theorem t_X9_fault_0 {f : Fx} {g : Gm} {nd : Nat} {Post : Int32 → Mm → Prop}  {I : Mm} (hC : Cx f cX9_fault 1 RX9 wsX9_fault rm_X9_fault) (hG : shP g nd) (hR : RtI f cX9_fault (fun r u => u.1 = g ∧ Post r u.2)) (hw : wp_X9_fault (gK g) nd  I Post) : PW f 0 0 g I 0 [(0, .ref (gA g 0))] [] := by
  unfold wp_X9_fault at hw
  refine r_aload_n hC dX9_fault_0 rfl rfl (j := 0) rfl ?_
  refine r_getI hC dX9_fault_1 rfl hG.o.1 hG.o.2 ffg_X9_fault_88 ?_
  exact r_retI hC hR ⟨rfl, rfl⟩ dX9_fault_4 hw
set_option maxRecDepth 100000 in
theorem c_X9_fault {l : Launch} {x : Gx} {g : Gm} {nd : Nat}  {I : Mm} {Post : Int32 → Mm → Prop} (hG : shP g nd) (hw : wp_X9_fault (gK g) nd  I Post) : KI l x yX9_fault wsX9_fault rm_X9_fault g I [.ref (gA g 0)] (fun r u => u.1 = g ∧ Post r u.2) := KI_of (by decide) rfl rfl (Nat.le_of_ble_eq_true rfl) (fun f hC _ _ hR => t_X9_fault_0 hC hG hR hw)

/-! X9_many -/
abbrev rm_X9_many : Room := { frames := 1, cells := 0, slots := 0, locals := 24 }
theorem ci_X9_many : CI yX9_many wsX9_many cX9_many 2 (some .int) 1 := ⟨⟨_, rfl⟩, by decide, by decide, by decide +kernel⟩
def wp_X9_many (ki : Nat → Nat) (nd : Nat) (x1 : Int32) (I : Mm) (Post : Int32 → Mm → Prop) : Prop := if x1 = 0 then (Post (I 0 8) I) else (if x1 = 1 then (Post (I 8 1) I) else (if x1 = 2 then (Post (I 0 9) I) else (if x1 = 3 then (wp_X2_pagesOf (0 : Int32) ((I 8 1) - (1 : Int32)) I (fun r1 J2 => wp_J6_bitCount_0f7a4 r1 J2 (fun r3 J4 => Post r3 J4))) else (if x1 = 4 then (Post (I 12 3) I) else (Post (-2 : Int32) I)))))
set_option maxRecDepth 20000 in
theorem uw_X9_many_9 : ∀ w ∈ u_ws RX9 TX9 11, w ∈ wsX9_many := by decide +kernel
set_option maxRecDepth 20000 in
theorem ffg_X9_many_99 : ∀ k ∈ ([9] : List Nat), FF wsX9_many RX9 99 k 8 ∧ fR k 8 = false := List.forall_mem_cons.mpr ⟨⟨⟨RX9, TX9, 11, "PageDesks", rfl, rfl, by decide, by decide, uw_X9_many_9, (List.mem_of_getElem? (i := 1) rfl), Or.inl rfl⟩, rfl⟩, fun _ h => absurd h List.not_mem_nil⟩
set_option maxRecDepth 20000 in
theorem ffg_X9_many_36 : ∀ k ∈ ([9] : List Nat), FF wsX9_many RX9 36 k 4 ∧ fR k 4 = true := List.forall_mem_cons.mpr ⟨⟨⟨RX9, TX9, 11, "PageDesks", rfl, rfl, by decide, by decide, uw_X9_many_9, (List.mem_of_getElem? (i := 2) rfl), Or.inl rfl⟩, rfl⟩, fun _ h => absurd h List.not_mem_nil⟩
set_option maxRecDepth 20000 in
theorem uw_X9_many_2 : ∀ w ∈ u_ws RX2 TX2 2, w ∈ wsX9_many := by decide +kernel
set_option maxRecDepth 20000 in
theorem ffg_X9_many_149 : ∀ k ∈ ([2] : List Nat), FF wsX9_many RX9 149 k 1 ∧ fR k 1 = false := List.forall_mem_cons.mpr ⟨⟨⟨RX2, TX2, 2, "PageDesks$Line", rfl, rfl, by decide, by decide, uw_X9_many_2, (List.mem_of_getElem? (i := 3) rfl), Or.inl rfl⟩, rfl⟩, fun _ h => absurd h List.not_mem_nil⟩
set_option maxRecDepth 20000 in
theorem ffg_X9_many_139 : ∀ k ∈ ([9] : List Nat), FF wsX9_many RX9 139 k 9 ∧ fR k 9 = false := List.forall_mem_cons.mpr ⟨⟨⟨RX9, TX9, 11, "PageDesks", rfl, rfl, by decide, by decide, uw_X9_many_9, (List.mem_of_getElem? (i := 4) rfl), Or.inl rfl⟩, rfl⟩, fun _ h => absurd h List.not_mem_nil⟩
set_option maxRecDepth 20000 in
theorem ffg_X9_many_50 : ∀ k ∈ ([9] : List Nat), FF wsX9_many RX9 50 k 6 ∧ fR k 6 = true := List.forall_mem_cons.mpr ⟨⟨⟨RX9, TX9, 11, "PageDesks", rfl, rfl, by decide, by decide, uw_X9_many_9, (List.mem_of_getElem? (i := 5) rfl), Or.inl rfl⟩, rfl⟩, fun _ h => absurd h List.not_mem_nil⟩
set_option maxRecDepth 20000 in
theorem uw_X9_many_4 : ∀ w ∈ u_ws RX4 TX4 4, w ∈ wsX9_many := by decide +kernel
set_option maxRecDepth 20000 in
theorem ffg_X9_many_161 : ∀ k ∈ ([4] : List Nat), FF wsX9_many RX9 161 k 3 ∧ fR k 3 = false := List.forall_mem_cons.mpr ⟨⟨⟨RX4, TX4, 4, "PageDesks$Readings", rfl, rfl, by decide, by decide, uw_X9_many_4, (List.mem_of_getElem? (i := 6) rfl), Or.inl rfl⟩, rfl⟩, fun _ h => absurd h List.not_mem_nil⟩
set_option maxRecDepth 100000 in
set_option maxHeartbeats 4000000 in
theorem t_X9_many_0 {f : Fx} {g : Gm} {nd : Nat} {Post : Int32 → Mm → Prop} {x1 : Int32} {I : Mm} (hC : Cx f cX9_many 2 RX9 wsX9_many rm_X9_many) (hG : shP g nd) (hR : RtI f cX9_many (fun r u => u.1 = g ∧ Post r u.2)) (hw : wp_X9_many (gK g) nd x1 I Post) : PW f 0 0 g I 0 [(0, .ref (gA g 0)), (1, .int x1)] [] := by
  unfold wp_X9_many at hw
  refine r_iload_n hC dX9_many_0 rfl rfl (j := 1) rfl ?_
  by_cases h0 : x1 = 0
  · rw [if_pos h0] at hw
    refine r_tabIn hC (tgt := 36) dX9_many_1 h0 0 (by decide) (by decide) (by decide) rfl (by decide) ?_
    refine r_aload_n hC dX9_many_36 rfl rfl (j := 0) rfl ?_
    refine r_getI hC dX9_many_37 rfl hG.o.1 hG.o.2 ffg_X9_many_99 ?_
    exact r_retI hC hR ⟨rfl, rfl⟩ dX9_many_40 hw
  · rw [if_neg h0] at hw
    by_cases h1 : x1 = 1
    · rw [if_pos h1] at hw
      refine r_tabIn hC (tgt := 41) dX9_many_1 h1 1 (by decide) (by decide) (by decide) rfl (by decide) ?_
      refine r_aload_n hC dX9_many_41 rfl rfl (j := 0) rfl ?_
      refine r_getR hC dX9_many_42 rfl hG.o.1 hG.o.2 ffg_X9_many_36 hG.r4 ?_
      refine r_getI hC dX9_many_45 rfl (hG.n).1.1 (hG.n).1.2 ffg_X9_many_149 ?_
      exact r_retI hC hR ⟨rfl, rfl⟩ dX9_many_48 hw
    · rw [if_neg h1] at hw
      by_cases h2 : x1 = 2
      · rw [if_pos h2] at hw
        refine r_tabIn hC (tgt := 49) dX9_many_1 h2 2 (by decide) (by decide) (by decide) rfl (by decide) ?_
        refine r_aload_n hC dX9_many_49 rfl rfl (j := 0) rfl ?_
        refine r_getI hC dX9_many_50 rfl hG.o.1 hG.o.2 ffg_X9_many_139 ?_
        exact r_retI hC hR ⟨rfl, rfl⟩ dX9_many_53 hw
      · rw [if_neg h2] at hw
        by_cases h3 : x1 = 3
        · rw [if_pos h3] at hw
          refine r_tabIn hC (tgt := 54) dX9_many_1 h3 3 (by decide) (by decide) (by decide) rfl (by decide) ?_
          refine r_aload_n hC dX9_many_54 rfl rfl (j := 0) rfl ?_
          refine r_getR hC dX9_many_55 rfl hG.o.1 hG.o.2 ffg_X9_many_36 hG.r4 ?_
          refine r_iconst hC (v := (0 : Int32)) dX9_many_58 rfl (by decide) ?_
          refine r_aload_n hC dX9_many_59 rfl rfl (j := 0) rfl ?_
          refine r_getR hC dX9_many_60 rfl hG.o.1 hG.o.2 ffg_X9_many_36 hG.r4 ?_
          refine r_getI hC dX9_many_63 rfl (hG.n).1.1 (hG.n).1.2 ffg_X9_many_149 ?_
          refine r_iconst hC (v := (1 : Int32)) dX9_many_66 rfl (by decide) ?_
          refine r_isub hC dX9_many_67 rfl ?_
          refine r_callI hC (a_V hC (k := 2) (c_X2_pagesOf hG.n hw) ci_X2_pagesOf gX9_many_X2_pagesOf rfl ⟨Nat.le_of_ble_eq_true rfl, Nat.le_of_ble_eq_true rfl⟩ ⟨Nat.le_of_ble_eq_true rfl, Nat.le_of_ble_eq_true rfl⟩ rfl (by decide) (hG.n).1.1 (List.mem_singleton.mp (hG.n).1.2) rfl rfl (Nat.le_of_ble_eq_true rfl) dX9_many_68) ⟨rfl, rfl⟩ rfl (fun r1 J2 hw => ?_)
          refine r_callI hC (a_S hC (c_J6_bitCount_0f7a4  hw) ci_J6_bitCount_0f7a4 gX9_many_J6_bitCount_0f7a4 ⟨Nat.le_of_ble_eq_true rfl, Nat.le_of_ble_eq_true rfl⟩ ⟨Nat.le_of_ble_eq_true rfl, Nat.le_of_ble_eq_true rfl⟩ rfl rfl (Nat.le_of_ble_eq_true rfl) dX9_many_71) ⟨rfl, rfl⟩ rfl (fun r3 J4 hw => ?_)
          exact r_retI hC hR ⟨rfl, rfl⟩ dX9_many_74 hw
        · rw [if_neg h3] at hw
          by_cases h4 : x1 = 4
          · rw [if_pos h4] at hw
            refine r_tabIn hC (tgt := 75) dX9_many_1 h4 4 (by decide) (by decide) (by decide) rfl (by decide) ?_
            refine r_aload_n hC dX9_many_75 rfl rfl (j := 0) rfl ?_
            refine r_getR hC dX9_many_76 rfl hG.o.1 hG.o.2 ffg_X9_many_50 hG.r6 ?_
            refine r_getI hC dX9_many_79 rfl (hG.g).1.1 (hG.g).1.2 ffg_X9_many_161 ?_
            exact r_retI hC hR ⟨rfl, rfl⟩ dX9_many_82 hw
          · rw [if_neg h4] at hw
            have e0 := lv_neT h0 (show (0 : Int32).toInt = 0 by decide)
            have e1 := lv_neT h1 (show (1 : Int32).toInt = 1 by decide)
            have e2 := lv_neT h2 (show (2 : Int32).toInt = 2 by decide)
            have e3 := lv_neT h3 (show (3 : Int32).toInt = 3 by decide)
            have e4 := lv_neT h4 (show (4 : Int32).toInt = 4 by decide)
            refine r_tabOut hC (tgt := 83) dX9_many_1 (by omega) (by decide) ?_
            refine r_bipush hC (v := (-2 : Int32)) dX9_many_83 rfl (by decide) ?_
            exact r_retI hC hR ⟨rfl, rfl⟩ dX9_many_85 hw
set_option maxRecDepth 100000 in
theorem c_X9_many {l : Launch} {x : Gx} {g : Gm} {nd : Nat} {x1 : Int32} {I : Mm} {Post : Int32 → Mm → Prop} (hG : shP g nd) (hw : wp_X9_many (gK g) nd x1 I Post) : KI l x yX9_many wsX9_many rm_X9_many g I [.ref (gA g 0), .int x1] (fun r u => u.1 = g ∧ Post r u.2) := KI_of (by decide) rfl rfl (Nat.le_of_ble_eq_true rfl) (fun f hC _ _ hR => t_X9_many_0 hC hG hR hw)

/-! X10_in -/
abbrev rm_X10_in : Room := { frames := 0, cells := 0, slots := 0, locals := 0 }
theorem ci_X10_in : CI yX10_in wsX10_in cX10_in 6 (some .boolean) 3 := ⟨⟨_, rfl⟩, by decide, by decide, by decide +kernel⟩
def wp_X10_in  (y0 : Int64) (y2 : Int64) (y4 : Int64) (I : Mm) (Post : Int32 → Mm → Prop) : Prop := if (lg_cmp y0 y2) < 0 then (Post (0 : Int32) I) else (if 0 < (lg_cmp y0 y4) then (Post (0 : Int32) I) else (Post (1 : Int32) I))

set_option maxRecDepth 100000 in
set_option maxHeartbeats 4000000 in
theorem t_X10_in_0 {f : Fx} {g : Gm}  {Post : Int32 → Mm → Prop} {y0 : Int64} {y2 : Int64} {y4 : Int64} {I : Mm} (hC : Cx f cX10_in 6 RX10 wsX10_in rm_X10_in)  (hR : RtZ f cX10_in (fun r u => u.1 = g ∧ Post r u.2)) (hw : wp_X10_in  y0 y2 y4 I Post) : PW f 0 0 g I 0 [(0, .long y0), (2, .long y2), (4, .long y4)] [] := by
  unfold wp_X10_in at hw
  refine r_lload_n hC dX10_in_0 rfl rfl (j := 0) rfl ?_
  refine r_lload_n hC dX10_in_1 rfl rfl (j := 1) rfl ?_
  refine r_lcmp hC dX10_in_2 rfl ?_
  refine r_if_lt hC (tgt := 17) dX10_in_3 rfl (by decide) hw (fun hw => ?_) (fun hw => ?_)
  · refine r_iconst hC (v := (0 : Int32)) dX10_in_17 rfl (by decide) ?_
    exact r_retZ hC hR ⟨rfl, rfl⟩ dX10_in_18 (by decide) hw
  · refine r_lload_n hC dX10_in_6 rfl rfl (j := 0) rfl ?_
    refine r_lload hC dX10_in_7 rfl (j := 2) rfl ?_
    refine r_lcmp hC dX10_in_9 rfl ?_
    refine r_if_gt hC (tgt := 17) dX10_in_10 rfl (by decide) hw (fun hw => ?_) (fun hw => ?_)
    · refine r_iconst hC (v := (0 : Int32)) dX10_in_17 rfl (by decide) ?_
      exact r_retZ hC hR ⟨rfl, rfl⟩ dX10_in_18 (by decide) hw
    · refine r_iconst hC (v := (1 : Int32)) dX10_in_13 rfl (by decide) ?_
      refine r_goto hC (tgt := 18) dX10_in_14 (by decide) ?_
      exact r_retZ hC hR ⟨rfl, rfl⟩ dX10_in_18 (by decide) hw
set_option maxRecDepth 100000 in
theorem c_X10_in {l : Launch} {x : Gx} {g : Gm}  {y0 : Int64} {y2 : Int64} {y4 : Int64} {I : Mm} {Post : Int32 → Mm → Prop}  (hw : wp_X10_in  y0 y2 y4 I Post) : KI l x yX10_in wsX10_in rm_X10_in g I [.long y0, .long y2, .long y4] (fun r u => u.1 = g ∧ Post r u.2) := KZ_of (by decide) rfl rfl (Nat.le_of_ble_eq_true rfl) (fun f hC _ _ hR => t_X10_in_0 hC  hR hw)

/-! X10_lost -/
abbrev rm_X10_lost : Room := { frames := 0, cells := 0, slots := 0, locals := 0 }
theorem ci_X10_lost : CI yX10_lost wsX10_lost cX10_lost 0 (some .long) 0 := ⟨⟨_, rfl⟩, by decide, by decide, by decide +kernel⟩
def wp_X10_lost   (I : Mm) (Post : Int64 → Mm → Prop) : Prop := Post (-9223372036854775808 : Int64) I

set_option maxRecDepth 100000 in
set_option maxHeartbeats 4000000 in
theorem t_X10_lost_0 {f : Fx} {g : Gm}  {Post : Int64 → Mm → Prop}  {I : Mm} (hC : Cx f cX10_lost 0 RX10 wsX10_lost rm_X10_lost)  (hR : RtL f cX10_lost (fun r u => u.1 = g ∧ Post r u.2)) (hw : wp_X10_lost   I Post) : PW f 0 0 g I 0 [] [] := by
  unfold wp_X10_lost at hw
  refine r_ldc2 hC (v := (-9223372036854775808 : Int64)) dX10_lost_0 rfl (List.mem_of_getElem? (i := 1) rfl) ?_
  exact r_retL hC hR ⟨rfl, rfl⟩ dX10_lost_3 hw
set_option maxRecDepth 100000 in
theorem c_X10_lost {l : Launch} {x : Gx} {g : Gm}   {I : Mm} {Post : Int64 → Mm → Prop}  (hw : wp_X10_lost   I Post) : KL l x yX10_lost wsX10_lost rm_X10_lost g I [] (fun r u => u.1 = g ∧ Post r u.2) := KL_of (by decide) rfl rfl (Nat.le_of_ble_eq_true rfl) (fun f hC _ _ hR => t_X10_lost_0 hC  hR hw)

/-! X10_isIn -/
abbrev rm_X10_isIn : Room := { frames := 0, cells := 0, slots := 0, locals := 0 }
theorem ci_X10_isIn : CI yX10_isIn wsX10_isIn cX10_isIn 2 (some .boolean) 2 := ⟨⟨_, rfl⟩, by decide, by decide, by decide +kernel⟩
def wp_X10_isIn  (x0 : Int32) (x1 : Int32) (I : Mm) (Post : Int32 → Mm → Prop) : Prop := if ((x0 >>> (x1 &&& 31)) &&& (1 : Int32)) = (1 : Int32) then (Post (1 : Int32) I) else (Post (0 : Int32) I)

set_option maxRecDepth 100000 in
set_option maxHeartbeats 4000000 in
theorem t_X10_isIn_0 {f : Fx} {g : Gm}  {Post : Int32 → Mm → Prop} {x0 : Int32} {x1 : Int32} {I : Mm} (hC : Cx f cX10_isIn 2 RX10 wsX10_isIn rm_X10_isIn)  (hR : RtZ f cX10_isIn (fun r u => u.1 = g ∧ Post r u.2)) (hw : wp_X10_isIn  x0 x1 I Post) : PW f 0 0 g I 0 [(0, .int x0), (1, .int x1)] [] := by
  unfold wp_X10_isIn at hw
  refine r_iload_n hC dX10_isIn_0 rfl rfl (j := 0) rfl ?_
  refine r_iload_n hC dX10_isIn_1 rfl rfl (j := 1) rfl ?_
  refine r_ishr hC dX10_isIn_2 rfl ?_
  refine r_iconst hC (v := (1 : Int32)) dX10_isIn_3 rfl (by decide) ?_
  refine r_iand hC dX10_isIn_4 rfl ?_
  refine r_iconst hC (v := (1 : Int32)) dX10_isIn_5 rfl (by decide) ?_
  refine r_icmp_ne hC (tgt := 13) dX10_isIn_6 rfl (by decide) hw (fun hw => ?_) (fun hw => ?_)
  · refine r_iconst hC (v := (0 : Int32)) dX10_isIn_13 rfl (by decide) ?_
    exact r_retZ hC hR ⟨rfl, rfl⟩ dX10_isIn_14 (by decide) hw
  · refine r_iconst hC (v := (1 : Int32)) dX10_isIn_9 rfl (by decide) ?_
    refine r_goto hC (tgt := 14) dX10_isIn_10 (by decide) ?_
    exact r_retZ hC hR ⟨rfl, rfl⟩ dX10_isIn_14 (by decide) hw
set_option maxRecDepth 100000 in
theorem c_X10_isIn {l : Launch} {x : Gx} {g : Gm}  {x0 : Int32} {x1 : Int32} {I : Mm} {Post : Int32 → Mm → Prop}  (hw : wp_X10_isIn  x0 x1 I Post) : KI l x yX10_isIn wsX10_isIn rm_X10_isIn g I [.int x0, .int x1] (fun r u => u.1 = g ∧ Post r u.2) := KZ_of (by decide) rfl rfl (Nat.le_of_ble_eq_true rfl) (fun f hC _ _ hR => t_X10_isIn_0 hC  hR hw)

/-! X10_bits -/
abbrev rm_X10_bits : Room := { frames := 0, cells := 0, slots := 0, locals := 0 }
theorem ci_X10_bits : CI yX10_bits wsX10_bits cX10_bits 3 (some .int) 1 := ⟨⟨_, rfl⟩, by decide, by decide, by decide +kernel⟩
def wp_X10_bits_4   (Post : Int32 → Mm → Prop) : Nat → Int32 → Int32 → Mm → Prop
  | 0, _, _, _ => False
  | nn4 + 1, x1, x2, I => if x2 ≤ 0 then (Post x1 I) else (wp_X10_bits_4  Post nn4 (x1 + (x2 &&& (1 : Int32))) (x2 >>> ((1 : Int32) &&& 31)) I)
def wp_X10_bits  (x0 : Int32) (I : Mm) (Post : Int32 → Mm → Prop) : Prop := ∃ nn4, wp_X10_bits_4  Post nn4 (0 : Int32) x0 I

set_option maxRecDepth 100000 in
set_option maxHeartbeats 4000000 in
theorem t_X10_bits_4 {f : Fx} {g : Gm}  {Post : Int32 → Mm → Prop}  (hC : Cx f cX10_bits 3 RX10 wsX10_bits rm_X10_bits)  (hR : RtI f cX10_bits (fun r u => u.1 = g ∧ Post r u.2))  : ∀ (nn4 : Nat) (x1 : Int32) (x2 : Int32) (I : Mm) , wp_X10_bits_4   Post nn4 x1 x2 I → PW f 0 0 g I 4 [(1, .int x1), (2, .int x2)] [] := by
  intro nn4
  induction nn4 with
  | zero =>
    intro x1 x2 I  hw
    exact absurd hw id
  | succ nn4 ih =>
    intro x1 x2 I  hw
    unfold wp_X10_bits_4 at hw
    refine r_iload_n hC dX10_bits_4 rfl rfl (j := 1) rfl ?_
    refine r_if_le hC (tgt := 21) dX10_bits_5 rfl (by decide) hw (fun hw => ?_) (fun hw => ?_)
    · refine r_iload_n hC dX10_bits_21 rfl rfl (j := 0) rfl ?_
      exact r_retI hC hR ⟨rfl, rfl⟩ dX10_bits_22 hw
    · refine r_iload_n hC dX10_bits_8 rfl rfl (j := 0) rfl ?_
      refine r_iload_n hC dX10_bits_9 rfl rfl (j := 1) rfl ?_
      refine r_iconst hC (v := (1 : Int32)) dX10_bits_10 rfl (by decide) ?_
      refine r_iand hC dX10_bits_11 rfl ?_
      refine r_iadd hC dX10_bits_12 rfl ?_
      refine r_istore_n hC (lv' := [(1, .int (x1 + (x2 &&& (1 : Int32)))), (2, .int x2)]) dX10_bits_13 rfl rfl (by decide) rfl ?_
      refine r_iload_n hC dX10_bits_14 rfl rfl (j := 1) rfl ?_
      refine r_iconst hC (v := (1 : Int32)) dX10_bits_15 rfl (by decide) ?_
      refine r_ishr hC dX10_bits_16 rfl ?_
      refine r_istore_n hC (lv' := [(2, .int (x2 >>> ((1 : Int32) &&& 31))), (1, .int (x1 + (x2 &&& (1 : Int32))))]) dX10_bits_17 rfl rfl (by decide) rfl ?_
      refine r_goto hC (tgt := 4) dX10_bits_18 (by decide) ?_
      exact r_sub (lv' := [(1, .int (x1 + (x2 &&& (1 : Int32)))), (2, .int (x2 >>> ((1 : Int32) &&& 31)))]) [1, 0] rfl (ih _ _ _ hw)
set_option maxRecDepth 100000 in
set_option maxHeartbeats 4000000 in
theorem t_X10_bits_0 {f : Fx} {g : Gm}  {Post : Int32 → Mm → Prop} {x0 : Int32} {I : Mm} (hC : Cx f cX10_bits 3 RX10 wsX10_bits rm_X10_bits)  (hR : RtI f cX10_bits (fun r u => u.1 = g ∧ Post r u.2)) (hw : wp_X10_bits  x0 I Post) : PW f 0 0 g I 0 [(0, .int x0)] [] := by
  unfold wp_X10_bits at hw
  refine r_iconst hC (v := (0 : Int32)) dX10_bits_0 rfl (by decide) ?_
  refine r_istore_n hC (lv' := [(1, .int (0 : Int32)), (0, .int x0)]) dX10_bits_1 rfl rfl (by decide) rfl ?_
  refine r_iload_n hC dX10_bits_2 rfl rfl (j := 1) rfl ?_
  refine r_istore_n hC (lv' := [(2, .int x0), (1, .int (0 : Int32)), (0, .int x0)]) dX10_bits_3 rfl rfl (by decide) rfl ?_
  obtain ⟨nn4, hw⟩ := hw
  exact r_sub (lv' := [(1, .int (0 : Int32)), (2, .int x0)]) [1, 0] rfl ((t_X10_bits_4 hC hR nn4 _ _ _ hw))
set_option maxRecDepth 100000 in
theorem c_X10_bits {l : Launch} {x : Gx} {g : Gm}  {x0 : Int32} {I : Mm} {Post : Int32 → Mm → Prop}  (hw : wp_X10_bits  x0 I Post) : KI l x yX10_bits wsX10_bits rm_X10_bits g I [.int x0] (fun r u => u.1 = g ∧ Post r u.2) := KI_of (by decide) rfl rfl (Nat.le_of_ble_eq_true rfl) (fun f hC _ _ hR => t_X10_bits_0 hC  hR hw)

/-! X10_share -/
abbrev rm_X10_share : Room := { frames := 0, cells := 0, slots := 0, locals := 0 }
theorem ci_X10_share : CI yX10_share wsX10_share cX10_share 11 (some .long) 3 := ⟨⟨_, rfl⟩, by decide, by decide, by decide +kernel⟩
def wp_X10_share_6  (K31 : Int64 → Int64 → Int32 → Int64 → Mm → Prop) (Post : Int64 → Mm → Prop) : Nat → Int64 → Int64 → Int32 → Int64 → Int64 → Mm → Prop
  | 0, _, _, _, _, _, _ => False
  | nn6 + 1, y0, y2, x4, y5, y7, I => if (lg_cmp y7 (0 : Int64)) = 0 then (K31 y0 y2 x4 y5 I) else ((¬ y7 = 0) ∧ (wp_X10_share_6 K31 Post nn6 y0 y2 x4 y7 (y5 - y5 / y7 * y7) I))
def wp_X10_share_31   (Post : Int64 → Mm → Prop) (y0 : Int64) (y2 : Int64) (x4 : Int32) (y5 : Int64) (I : Mm) : Prop := if x4 = 0 then ((¬ y5 = 0) ∧ (Post (y0 / y5) I)) else ((¬ y5 = 0) ∧ (Post (y2 / y5) I))
def wp_X10_share  (y0 : Int64) (y2 : Int64) (x4 : Int32) (I : Mm) (Post : Int64 → Mm → Prop) : Prop := ∃ nn6, wp_X10_share_6 (fun y0 y2 x4 y5 I => wp_X10_share_31  Post y0 y2 x4 y5 I) Post nn6 y0 y2 x4 y0 y2 I

set_option maxRecDepth 100000 in
set_option maxHeartbeats 4000000 in
theorem t_X10_share_6 {f : Fx} {g : Gm}  {Post : Int64 → Mm → Prop} {K31 : Int64 → Int64 → Int32 → Int64 → Mm → Prop} (hC : Cx f cX10_share 11 RX10 wsX10_share rm_X10_share)  (hR : RtL f cX10_share (fun r u => u.1 = g ∧ Post r u.2)) (hK31 : ∀ (y0 : Int64) (y2 : Int64) (x4 : Int32) (y5 : Int64) (I : Mm) , K31 y0 y2 x4 y5 I → PW f 0 0 g I 31 [(0, .long y0), (2, .long y2), (4, .int x4), (5, .long y5)] []) : ∀ (nn6 : Nat) (y0 : Int64) (y2 : Int64) (x4 : Int32) (y5 : Int64) (y7 : Int64) (I : Mm) , wp_X10_share_6  K31 Post nn6 y0 y2 x4 y5 y7 I → PW f 0 0 g I 6 [(0, .long y0), (2, .long y2), (4, .int x4), (5, .long y5), (7, .long y7)] [] := by
  intro nn6
  induction nn6 with
  | zero =>
    intro y0 y2 x4 y5 y7 I  hw
    exact absurd hw id
  | succ nn6 ih =>
    intro y0 y2 x4 y5 y7 I  hw
    unfold wp_X10_share_6 at hw
    refine r_lload hC dX10_share_6 rfl (j := 4) rfl ?_
    refine r_lconst hC (v := (0 : Int64)) dX10_share_8 rfl (by decide) ?_
    refine r_lcmp hC dX10_share_9 rfl ?_
    refine r_if_eq hC (tgt := 31) dX10_share_10 rfl (by decide) hw (fun hw => ?_) (fun hw => ?_)
    · exact r_sub (lv' := [(0, .long y0), (2, .long y2), (4, .int x4), (5, .long y5)]) [0, 1, 2, 3] rfl (hK31 _ _ _ _ _ hw)
    · refine r_lload hC dX10_share_13 rfl (j := 3) rfl ?_
      refine r_lload hC dX10_share_15 rfl (j := 4) rfl ?_
      obtain ⟨hne, hw⟩ := hw
      refine r_lrem hC dX10_share_17 rfl hne ?_
      refine r_lstore hC (lv' := [(9, .long (y5 - y5 / y7 * y7)), (0, .long y0), (2, .long y2), (4, .int x4), (5, .long y5), (7, .long y7)]) dX10_share_18 rfl (by decide) rfl ?_
      refine r_lload hC dX10_share_20 rfl (j := 5) rfl ?_
      refine r_lstore hC (lv' := [(5, .long y7), (9, .long (y5 - y5 / y7 * y7)), (0, .long y0), (2, .long y2), (4, .int x4), (7, .long y7)]) dX10_share_22 rfl (by decide) rfl ?_
      refine r_lload hC dX10_share_24 rfl (j := 1) rfl ?_
      refine r_lstore hC (lv' := [(7, .long (y5 - y5 / y7 * y7)), (5, .long y7), (9, .long (y5 - y5 / y7 * y7)), (0, .long y0), (2, .long y2), (4, .int x4)]) dX10_share_26 rfl (by decide) rfl ?_
      refine r_goto hC (tgt := 6) dX10_share_28 (by decide) ?_
      exact r_sub (lv' := [(0, .long y0), (2, .long y2), (4, .int x4), (5, .long y7), (7, .long (y5 - y5 / y7 * y7))]) [3, 4, 5, 1, 0] rfl (ih _ _ _ _ _ _ hw)
set_option maxRecDepth 100000 in
set_option maxHeartbeats 4000000 in
theorem t_X10_share_31 {f : Fx} {g : Gm}  {Post : Int64 → Mm → Prop}  (hC : Cx f cX10_share 11 RX10 wsX10_share rm_X10_share)  (hR : RtL f cX10_share (fun r u => u.1 = g ∧ Post r u.2))  : ∀ (y0 : Int64) (y2 : Int64) (x4 : Int32) (y5 : Int64) (I : Mm) , wp_X10_share_31   Post y0 y2 x4 y5 I → PW f 0 0 g I 31 [(0, .long y0), (2, .long y2), (4, .int x4), (5, .long y5)] [] := by
  intro y0 y2 x4 y5 I  hw
  unfold wp_X10_share_31 at hw
  refine r_iload hC dX10_share_31 rfl (j := 2) rfl ?_
  refine r_if_ne hC (tgt := 40) dX10_share_33 rfl (by decide) hw (fun hw => ?_) (fun hw => ?_)
  · refine r_lload_n hC dX10_share_40 rfl rfl (j := 1) rfl ?_
    refine r_lload hC dX10_share_41 rfl (j := 3) rfl ?_
    obtain ⟨hne, hw⟩ := hw
    refine r_ldiv hC dX10_share_43 rfl hne ?_
    exact r_retL hC hR ⟨rfl, rfl⟩ dX10_share_44 hw
  · refine r_lload_n hC dX10_share_36 rfl rfl (j := 0) rfl ?_
    refine r_goto hC (tgt := 41) dX10_share_37 (by decide) ?_
    refine r_lload hC dX10_share_41 rfl (j := 3) rfl ?_
    obtain ⟨hne, hw⟩ := hw
    refine r_ldiv hC dX10_share_43 rfl hne ?_
    exact r_retL hC hR ⟨rfl, rfl⟩ dX10_share_44 hw
set_option maxRecDepth 100000 in
set_option maxHeartbeats 4000000 in
theorem t_X10_share_0 {f : Fx} {g : Gm}  {Post : Int64 → Mm → Prop} {y0 : Int64} {y2 : Int64} {x4 : Int32} {I : Mm} (hC : Cx f cX10_share 11 RX10 wsX10_share rm_X10_share)  (hR : RtL f cX10_share (fun r u => u.1 = g ∧ Post r u.2)) (hw : wp_X10_share  y0 y2 x4 I Post) : PW f 0 0 g I 0 [(0, .long y0), (2, .long y2), (4, .int x4)] [] := by
  unfold wp_X10_share at hw
  refine r_lload_n hC dX10_share_0 rfl rfl (j := 0) rfl ?_
  refine r_lstore hC (lv' := [(5, .long y0), (0, .long y0), (2, .long y2), (4, .int x4)]) dX10_share_1 rfl (by decide) rfl ?_
  refine r_lload_n hC dX10_share_3 rfl rfl (j := 2) rfl ?_
  refine r_lstore hC (lv' := [(7, .long y2), (5, .long y0), (0, .long y0), (2, .long y2), (4, .int x4)]) dX10_share_4 rfl (by decide) rfl ?_
  obtain ⟨nn6, hw⟩ := hw
  exact r_sub (lv' := [(0, .long y0), (2, .long y2), (4, .int x4), (5, .long y0), (7, .long y2)]) [2, 3, 4, 1, 0] rfl ((t_X10_share_6 hC hR (fun y0 y2 x4 y5 I  hw => t_X10_share_31 hC hR _ _ _ _ _ hw) nn6 _ _ _ _ _ _ hw))
set_option maxRecDepth 100000 in
theorem c_X10_share {l : Launch} {x : Gx} {g : Gm}  {y0 : Int64} {y2 : Int64} {x4 : Int32} {I : Mm} {Post : Int64 → Mm → Prop}  (hw : wp_X10_share  y0 y2 x4 I Post) : KL l x yX10_share wsX10_share rm_X10_share g I [.long y0, .long y2, .int x4] (fun r u => u.1 = g ∧ Post r u.2) := KL_of (by decide) rfl rfl (Nat.le_of_ble_eq_true rfl) (fun f hC _ _ hR => t_X10_share_0 hC  hR hw)
