/-! X10_sheet -/
abbrev rm_X10_sheet : Room := { frames := 2, cells := 0, slots := 0, locals := 45 }
theorem ci_X10_sheet : CI yX10_sheet wsX10_sheet cX10_sheet 5 (some .int) 3 := ⟨⟨_, rfl⟩, by decide, by decide, by decide +kernel⟩
def wp_X10_sheet_31   (Post : Int32 → Mm → Prop)  (I : Mm) : Prop := wp_X10_refused (-2 : Int32) I (fun r9 J10 => Post r9 J10)
def wp_X10_sheet_65  (K90 : Mm → Prop) (Post : Int32 → Mm → Prop) : Nat → Int32 → Int32 → Int32 → Mm → Prop
  | 0, _, _, _, _ => False
  | nn65 + 1, x1, x3, x4, I => if x3 ≤ x4 then (K90  I) else (vp_in (((60 : Int32) * x1) + x4) 240 ∧ (wp_X10_sheet_65 K90 Post nn65 x1 x3 (x4 + 1) (up2 I 127 (((60 : Int32) * x1) + x4).toNatClampNeg (0 : Int32))))
def wp_X10_sheet_90   (Post : Int32 → Mm → Prop)  (I : Mm) : Prop := wp_X10_refused (1 : Int32) I (fun r11 J12 => Post r11 J12)
def wp_X10_sheet  (x1 : Int32) (x2 : Int32) (x3 : Int32) (I : Mm) (Post : Int32 → Mm → Prop) : Prop := wp_X10_noSheet x1 I (fun r1 J2 => if r1 = 0 then (wp_X10_in x2.toInt64 (0 : Int64) (2 : Int64) J2 (fun r3 J4 => if r3 = 0 then (wp_X10_sheet_31  Post  J4) else (if x3 ≤ (60 : Int32) then (if 0 ≤ x3 then (vp_in x1 4 ∧ (vp_in x1 4 ∧ (∃ nn65, wp_X10_sheet_65 (fun I => wp_X10_sheet_90  Post  I) Post nn65 x1 x3 (0 : Int32) (up2 (up2 J4 125 x1.toNatClampNeg x3) 126 x1.toNatClampNeg x2)))) else (wp_X10_failed (4 : Int32) J4 (fun r5 J6 => Post r5 J6))) else (wp_X10_sheet_31  Post  J4)))) else (wp_X10_refused (-1 : Int32) J2 (fun r7 J8 => Post r7 J8)))
set_option maxRecDepth 20000 in
theorem uw_X10_sheet_10 : ∀ w ∈ u_ws RX10 TX10 30, w ∈ wsX10_sheet := by decide +kernel
set_option maxRecDepth 20000 in
theorem ffg_X10_sheet_46 : ∀ k ∈ ([10] : List Nat), FF wsX10_sheet RX10 46 k 25 ∧ fR k 25 = true := List.forall_mem_cons.mpr ⟨⟨⟨RX10, TX10, 30, "PageDesksModel", rfl, rfl, by decide, by decide, uw_X10_sheet_10, (List.mem_of_getElem? (i := 2) rfl), Or.inl rfl⟩, rfl⟩, fun _ h => absurd h List.not_mem_nil⟩
set_option maxRecDepth 20000 in
theorem ffg_X10_sheet_49 : ∀ k ∈ ([10] : List Nat), FF wsX10_sheet RX10 49 k 26 ∧ fR k 26 = true := List.forall_mem_cons.mpr ⟨⟨⟨RX10, TX10, 30, "PageDesksModel", rfl, rfl, by decide, by decide, uw_X10_sheet_10, (List.mem_of_getElem? (i := 3) rfl), Or.inl rfl⟩, rfl⟩, fun _ h => absurd h List.not_mem_nil⟩
set_option maxRecDepth 20000 in
theorem ffg_X10_sheet_52 : ∀ k ∈ ([10] : List Nat), FF wsX10_sheet RX10 52 k 27 ∧ fR k 27 = true := List.forall_mem_cons.mpr ⟨⟨⟨RX10, TX10, 30, "PageDesksModel", rfl, rfl, by decide, by decide, uw_X10_sheet_10, (List.mem_of_getElem? (i := 4) rfl), Or.inl rfl⟩, rfl⟩, fun _ h => absurd h List.not_mem_nil⟩
set_option maxRecDepth 100000 in
set_option maxHeartbeats 4000000 in
theorem t_X10_sheet_31 {f : Fx} {g : Gm}  {Post : Int32 → Mm → Prop}  (hC : Cx f cX10_sheet 5 RX10 wsX10_sheet rm_X10_sheet) (hG : shM g) (hR : RtI f cX10_sheet (fun r u => u.1 = g ∧ Post r u.2))  : ∀  (I : Mm) , wp_X10_sheet_31   Post  I → PW f 0 0 g I 31 [(0, .ref (gA g 100))] [] := by
  intro  I  hw
  unfold wp_X10_sheet_31 at hw
  refine r_aload_n hC dX10_sheet_31 rfl rfl (j := 0) rfl ?_
  refine r_bipush hC (v := (-2 : Int32)) dX10_sheet_32 rfl (by decide) ?_
  refine r_callI hC (a_V hC (k := 10) (c_X10_refused hG hw) ci_X10_refused gX10_sheet_X10_refused rfl ⟨Nat.le_of_ble_eq_true rfl, Nat.le_of_ble_eq_true rfl⟩ ⟨Nat.le_of_ble_eq_true rfl, Nat.le_of_ble_eq_true rfl⟩ rfl (by decide) hG.o.1 (List.mem_singleton.mp hG.o.2) rfl rfl (Nat.le_of_ble_eq_true rfl) dX10_sheet_34) ⟨rfl, rfl⟩ rfl (fun r9 J10 hw => ?_)
  exact r_retI hC hR ⟨rfl, rfl⟩ dX10_sheet_37 hw
set_option maxRecDepth 100000 in
set_option maxHeartbeats 4000000 in
theorem t_X10_sheet_65 {f : Fx} {g : Gm}  {Post : Int32 → Mm → Prop} {K90 : Mm → Prop} (hC : Cx f cX10_sheet 5 RX10 wsX10_sheet rm_X10_sheet) (hG : shM g) (hR : RtI f cX10_sheet (fun r u => u.1 = g ∧ Post r u.2)) (hK90 : ∀  (I : Mm) , K90  I → PW f 0 0 g I 90 [(0, .ref (gA g 100))] []) : ∀ (nn65 : Nat) (x1 : Int32) (x3 : Int32) (x4 : Int32) (I : Mm) , wp_X10_sheet_65  K90 Post nn65 x1 x3 x4 I → PW f 0 0 g I 65 [(0, .ref (gA g 100)), (1, .int x1), (3, .int x3), (4, .int x4)] [] := by
  intro nn65
  induction nn65 with
  | zero =>
    intro x1 x3 x4 I  hw
    exact absurd hw id
  | succ nn65 ih =>
    intro x1 x3 x4 I  hw
    unfold wp_X10_sheet_65 at hw
    refine r_iload hC dX10_sheet_65 rfl (j := 3) rfl ?_
    refine r_iload_n hC dX10_sheet_67 rfl rfl (j := 2) rfl ?_
    refine r_icmp_ge hC (tgt := 90) dX10_sheet_68 rfl (by decide) hw (fun hw => ?_) (fun hw => ?_)
    · exact r_sub (lv' := [(0, .ref (gA g 100))]) [0] rfl (hK90 _ hw)
    · refine r_aload_n hC dX10_sheet_71 rfl rfl (j := 0) rfl ?_
      refine r_getR hC dX10_sheet_72 rfl hG.o.1 hG.o.2 ffg_X10_sheet_52 hG.a27.2 ?_
      refine r_bipush hC (v := (60 : Int32)) dX10_sheet_75 rfl (by decide) ?_
      refine r_iload_n hC dX10_sheet_77 rfl rfl (j := 1) rfl ?_
      refine r_imul hC dX10_sheet_78 rfl ?_
      refine r_iload hC dX10_sheet_79 rfl (j := 3) rfl ?_
      refine r_iadd hC dX10_sheet_81 rfl ?_
      refine r_iconst hC (v := (0 : Int32)) dX10_sheet_82 rfl (by decide) ?_
      obtain ⟨hi, hw⟩ := hw
      refine r_iast hC dX10_sheet_83 rfl (hG.a27.1).1 (hG.a27.1).2.1 (by rw [(hG.a27.1).2.2]; exact hi) ?_
      refine r_iinc hC (k := 1) (lv' := [(4, .int (x4 + 1)), (0, .ref (gA g 100)), (1, .int x1), (3, .int x3)]) dX10_sheet_84 rfl (j := 3) rfl (by decide) (by decide) rfl ?_
      refine r_goto hC (tgt := 65) dX10_sheet_87 (by decide) ?_
      exact r_sub (lv' := [(0, .ref (gA g 100)), (1, .int x1), (3, .int x3), (4, .int (x4 + 1))]) [1, 2, 3, 0] rfl (ih _ _ _ _ hw)
set_option maxRecDepth 100000 in
set_option maxHeartbeats 4000000 in
theorem t_X10_sheet_90 {f : Fx} {g : Gm}  {Post : Int32 → Mm → Prop}  (hC : Cx f cX10_sheet 5 RX10 wsX10_sheet rm_X10_sheet) (hG : shM g) (hR : RtI f cX10_sheet (fun r u => u.1 = g ∧ Post r u.2))  : ∀  (I : Mm) , wp_X10_sheet_90   Post  I → PW f 0 0 g I 90 [(0, .ref (gA g 100))] [] := by
  intro  I  hw
  unfold wp_X10_sheet_90 at hw
  refine r_aload_n hC dX10_sheet_90 rfl rfl (j := 0) rfl ?_
  refine r_iconst hC (v := (1 : Int32)) dX10_sheet_91 rfl (by decide) ?_
  refine r_callI hC (a_V hC (k := 10) (c_X10_refused hG hw) ci_X10_refused gX10_sheet_X10_refused rfl ⟨Nat.le_of_ble_eq_true rfl, Nat.le_of_ble_eq_true rfl⟩ ⟨Nat.le_of_ble_eq_true rfl, Nat.le_of_ble_eq_true rfl⟩ rfl (by decide) hG.o.1 (List.mem_singleton.mp hG.o.2) rfl rfl (Nat.le_of_ble_eq_true rfl) dX10_sheet_92) ⟨rfl, rfl⟩ rfl (fun r11 J12 hw => ?_)
  exact r_retI hC hR ⟨rfl, rfl⟩ dX10_sheet_95 hw
set_option maxRecDepth 100000 in
set_option maxHeartbeats 4000000 in
theorem t_X10_sheet_0 {f : Fx} {g : Gm}  {Post : Int32 → Mm → Prop} {x1 : Int32} {x2 : Int32} {x3 : Int32} {I : Mm} (hC : Cx f cX10_sheet 5 RX10 wsX10_sheet rm_X10_sheet) (hG : shM g) (hR : RtI f cX10_sheet (fun r u => u.1 = g ∧ Post r u.2)) (hw : wp_X10_sheet  x1 x2 x3 I Post) : PW f 0 0 g I 0 [(0, .ref (gA g 100)), (1, .int x1), (2, .int x2), (3, .int x3)] [] := by
  unfold wp_X10_sheet at hw
  refine r_iload_n hC dX10_sheet_0 rfl rfl (j := 1) rfl ?_
  refine r_callI hC (a_S hC (c_X10_noSheet  hw) ci_X10_noSheet gX10_sheet_X10_noSheet ⟨Nat.le_of_ble_eq_true rfl, Nat.le_of_ble_eq_true rfl⟩ ⟨Nat.le_of_ble_eq_true rfl, Nat.le_of_ble_eq_true rfl⟩ rfl rfl (Nat.le_of_ble_eq_true rfl) dX10_sheet_1) ⟨rfl, rfl⟩ rfl (fun r1 J2 hw => ?_)
  refine r_if_eq hC (tgt := 13) dX10_sheet_4 rfl (by decide) hw (fun hw => ?_) (fun hw => ?_)
  · refine r_iload_n hC dX10_sheet_13 rfl rfl (j := 2) rfl ?_
    refine r_i2l hC dX10_sheet_14 rfl ?_
    refine r_lconst hC (v := (0 : Int64)) dX10_sheet_15 rfl (by decide) ?_
    refine r_ldc2 hC (v := (2 : Int64)) dX10_sheet_16 rfl (List.mem_of_getElem? (i := 1) rfl) ?_
    refine r_callI hC (a_S hC (c_X10_in  hw) ci_X10_in gX10_sheet_X10_in ⟨Nat.le_of_ble_eq_true rfl, Nat.le_of_ble_eq_true rfl⟩ ⟨Nat.le_of_ble_eq_true rfl, Nat.le_of_ble_eq_true rfl⟩ rfl rfl (Nat.le_of_ble_eq_true rfl) dX10_sheet_19) ⟨rfl, rfl⟩ rfl (fun r3 J4 hw => ?_)
    refine r_if_eq hC (tgt := 31) dX10_sheet_22 rfl (by decide) hw (fun hw => ?_) (fun hw => ?_)
    · exact r_sub (lv' := [(0, .ref (gA g 100))]) [0] rfl (t_X10_sheet_31 hC hG hR _ hw)
    · refine r_iload_n hC dX10_sheet_25 rfl rfl (j := 3) rfl ?_
      refine r_bipush hC (v := (60 : Int32)) dX10_sheet_26 rfl (by decide) ?_
      refine r_icmp_le hC (tgt := 38) dX10_sheet_28 rfl (by decide) hw (fun hw => ?_) (fun hw => ?_)
      · refine r_iload_n hC dX10_sheet_38 rfl rfl (j := 3) rfl ?_
        refine r_if_ge hC (tgt := 48) dX10_sheet_39 rfl (by decide) hw (fun hw => ?_) (fun hw => ?_)
        · refine r_aload_n hC dX10_sheet_48 rfl rfl (j := 0) rfl ?_
          refine r_getR hC dX10_sheet_49 rfl hG.o.1 hG.o.2 ffg_X10_sheet_46 hG.a25.2 ?_
          refine r_iload_n hC dX10_sheet_52 rfl rfl (j := 1) rfl ?_
          refine r_iload_n hC dX10_sheet_53 rfl rfl (j := 3) rfl ?_
          obtain ⟨hi, hw⟩ := hw
          refine r_iast hC dX10_sheet_54 rfl (hG.a25.1).1 (hG.a25.1).2.1 (by rw [(hG.a25.1).2.2]; exact hi) ?_
          refine r_aload_n hC dX10_sheet_55 rfl rfl (j := 0) rfl ?_
          refine r_getR hC dX10_sheet_56 rfl hG.o.1 hG.o.2 ffg_X10_sheet_49 hG.a26.2 ?_
          refine r_iload_n hC dX10_sheet_59 rfl rfl (j := 1) rfl ?_
          refine r_iload_n hC dX10_sheet_60 rfl rfl (j := 2) rfl ?_
          obtain ⟨hi, hw⟩ := hw
          refine r_iast hC dX10_sheet_61 rfl (hG.a26.1).1 (hG.a26.1).2.1 (by rw [(hG.a26.1).2.2]; exact hi) ?_
          refine r_iconst hC (v := (0 : Int32)) dX10_sheet_62 rfl (by decide) ?_
          refine r_istore hC (lv' := [(4, .int (0 : Int32)), (0, .ref (gA g 100)), (1, .int x1), (2, .int x2), (3, .int x3)]) dX10_sheet_63 rfl (by decide) rfl ?_
          obtain ⟨nn65, hw⟩ := hw
          exact r_sub (lv' := [(0, .ref (gA g 100)), (1, .int x1), (3, .int x3), (4, .int (0 : Int32))]) [1, 2, 4, 0] rfl ((t_X10_sheet_65 hC hG hR (fun  I  hw => t_X10_sheet_90 hC hG hR _ hw) nn65 _ _ _ _ hw))
        · refine r_aload_n hC dX10_sheet_42 rfl rfl (j := 0) rfl ?_
          refine r_iconst hC (v := (4 : Int32)) dX10_sheet_43 rfl (by decide) ?_
          refine r_callI hC (a_V hC (k := 10) (c_X10_failed hG hw) ci_X10_failed gX10_sheet_X10_failed rfl ⟨Nat.le_of_ble_eq_true rfl, Nat.le_of_ble_eq_true rfl⟩ ⟨Nat.le_of_ble_eq_true rfl, Nat.le_of_ble_eq_true rfl⟩ rfl (by decide) hG.o.1 (List.mem_singleton.mp hG.o.2) rfl rfl (Nat.le_of_ble_eq_true rfl) dX10_sheet_44) ⟨rfl, rfl⟩ rfl (fun r5 J6 hw => ?_)
          exact r_retI hC hR ⟨rfl, rfl⟩ dX10_sheet_47 hw
      · exact r_sub (lv' := [(0, .ref (gA g 100))]) [0] rfl (t_X10_sheet_31 hC hG hR _ hw)
  · refine r_aload_n hC dX10_sheet_7 rfl rfl (j := 0) rfl ?_
    refine r_iconst hC (v := (-1 : Int32)) dX10_sheet_8 rfl (by decide) ?_
    refine r_callI hC (a_V hC (k := 10) (c_X10_refused hG hw) ci_X10_refused gX10_sheet_X10_refused rfl ⟨Nat.le_of_ble_eq_true rfl, Nat.le_of_ble_eq_true rfl⟩ ⟨Nat.le_of_ble_eq_true rfl, Nat.le_of_ble_eq_true rfl⟩ rfl (by decide) hG.o.1 (List.mem_singleton.mp hG.o.2) rfl rfl (Nat.le_of_ble_eq_true rfl) dX10_sheet_9) ⟨rfl, rfl⟩ rfl (fun r7 J8 hw => ?_)
    exact r_retI hC hR ⟨rfl, rfl⟩ dX10_sheet_12 hw
set_option maxRecDepth 100000 in
theorem c_X10_sheet {l : Launch} {x : Gx} {g : Gm}  {x1 : Int32} {x2 : Int32} {x3 : Int32} {I : Mm} {Post : Int32 → Mm → Prop} (hG : shM g) (hw : wp_X10_sheet  x1 x2 x3 I Post) : KI l x yX10_sheet wsX10_sheet rm_X10_sheet g I [.ref (gA g 100), .int x1, .int x2, .int x3] (fun r u => u.1 = g ∧ Post r u.2) := KI_of (by decide) rfl rfl (Nat.le_of_ble_eq_true rfl) (fun f hC _ _ hR => t_X10_sheet_0 hC hG hR hw)

/-! X10_lose -/
abbrev rm_X10_lose : Room := { frames := 2, cells := 0, slots := 0, locals := 45 }
theorem ci_X10_lose : CI yX10_lose wsX10_lose cX10_lose 3 (some .int) 1 := ⟨⟨_, rfl⟩, by decide, by decide, by decide +kernel⟩
def wp_X10_lose  (x1 : Int32) (I : Mm) (Post : Int32 → Mm → Prop) : Prop := wp_X10_noSheet x1 I (fun r1 J2 => if r1 = 0 then (vp_in x1 4 ∧ (if 0 ≤ (J2 125 x1.toNatClampNeg) then (vp_in x1 4 ∧ (Post (1 : Int32) (up2 J2 125 x1.toNatClampNeg (-1 : Int32)))) else (vp_in x1 4 ∧ (Post (0 : Int32) (up2 J2 125 x1.toNatClampNeg (-1 : Int32)))))) else (Post (-1 : Int32) J2))
set_option maxRecDepth 20000 in
theorem uw_X10_lose_10 : ∀ w ∈ u_ws RX10 TX10 30, w ∈ wsX10_lose := by decide +kernel
set_option maxRecDepth 20000 in
theorem ffg_X10_lose_46 : ∀ k ∈ ([10] : List Nat), FF wsX10_lose RX10 46 k 25 ∧ fR k 25 = true := List.forall_mem_cons.mpr ⟨⟨⟨RX10, TX10, 30, "PageDesksModel", rfl, rfl, by decide, by decide, uw_X10_lose_10, (List.mem_of_getElem? (i := 1) rfl), Or.inl rfl⟩, rfl⟩, fun _ h => absurd h List.not_mem_nil⟩
set_option maxRecDepth 100000 in
set_option maxHeartbeats 4000000 in
theorem t_X10_lose_0 {f : Fx} {g : Gm}  {Post : Int32 → Mm → Prop} {x1 : Int32} {I : Mm} (hC : Cx f cX10_lose 3 RX10 wsX10_lose rm_X10_lose) (hG : shM g) (hR : RtI f cX10_lose (fun r u => u.1 = g ∧ Post r u.2)) (hw : wp_X10_lose  x1 I Post) : PW f 0 0 g I 0 [(0, .ref (gA g 100)), (1, .int x1)] [] := by
  unfold wp_X10_lose at hw
  refine r_iload_n hC dX10_lose_0 rfl rfl (j := 1) rfl ?_
  refine r_callI hC (a_S hC (c_X10_noSheet  hw) ci_X10_noSheet gX10_lose_X10_noSheet ⟨Nat.le_of_ble_eq_true rfl, Nat.le_of_ble_eq_true rfl⟩ ⟨Nat.le_of_ble_eq_true rfl, Nat.le_of_ble_eq_true rfl⟩ rfl rfl (Nat.le_of_ble_eq_true rfl) dX10_lose_1) ⟨rfl, rfl⟩ rfl (fun r1 J2 hw => ?_)
  refine r_if_eq hC (tgt := 9) dX10_lose_4 rfl (by decide) hw (fun hw => ?_) (fun hw => ?_)
  · refine r_aload_n hC dX10_lose_9 rfl rfl (j := 0) rfl ?_
    refine r_getR hC dX10_lose_10 rfl hG.o.1 hG.o.2 ffg_X10_lose_46 hG.a25.2 ?_
    refine r_iload_n hC dX10_lose_13 rfl rfl (j := 1) rfl ?_
    obtain ⟨hi, hw⟩ := hw
    refine r_iald hC dX10_lose_14 rfl (hG.a25.1).1 (hG.a25.1).2.1 (by rw [(hG.a25.1).2.2]; exact hi) ?_
    refine r_if_ge hC (tgt := 22) dX10_lose_15 rfl (by decide) hw (fun hw => ?_) (fun hw => ?_)
    · refine r_iconst hC (v := (1 : Int32)) dX10_lose_22 rfl (by decide) ?_
      refine r_istore_n hC (lv' := [(2, .int (1 : Int32)), (0, .ref (gA g 100)), (1, .int x1)]) dX10_lose_23 rfl rfl (by decide) rfl ?_
      refine r_aload_n hC dX10_lose_24 rfl rfl (j := 1) rfl ?_
      refine r_getR hC dX10_lose_25 rfl hG.o.1 hG.o.2 ffg_X10_lose_46 hG.a25.2 ?_
      refine r_iload_n hC dX10_lose_28 rfl rfl (j := 2) rfl ?_
      refine r_iconst hC (v := (-1 : Int32)) dX10_lose_29 rfl (by decide) ?_
      obtain ⟨hi, hw⟩ := hw
      refine r_iast hC dX10_lose_30 rfl (hG.a25.1).1 (hG.a25.1).2.1 (by rw [(hG.a25.1).2.2]; exact hi) ?_
      refine r_iload_n hC dX10_lose_31 rfl rfl (j := 0) rfl ?_
      exact r_retI hC hR ⟨rfl, rfl⟩ dX10_lose_32 hw
    · refine r_iconst hC (v := (0 : Int32)) dX10_lose_18 rfl (by decide) ?_
      refine r_goto hC (tgt := 23) dX10_lose_19 (by decide) ?_
      refine r_istore_n hC (lv' := [(2, .int (0 : Int32)), (0, .ref (gA g 100)), (1, .int x1)]) dX10_lose_23 rfl rfl (by decide) rfl ?_
      refine r_aload_n hC dX10_lose_24 rfl rfl (j := 1) rfl ?_
      refine r_getR hC dX10_lose_25 rfl hG.o.1 hG.o.2 ffg_X10_lose_46 hG.a25.2 ?_
      refine r_iload_n hC dX10_lose_28 rfl rfl (j := 2) rfl ?_
      refine r_iconst hC (v := (-1 : Int32)) dX10_lose_29 rfl (by decide) ?_
      obtain ⟨hi, hw⟩ := hw
      refine r_iast hC dX10_lose_30 rfl (hG.a25.1).1 (hG.a25.1).2.1 (by rw [(hG.a25.1).2.2]; exact hi) ?_
      refine r_iload_n hC dX10_lose_31 rfl rfl (j := 0) rfl ?_
      exact r_retI hC hR ⟨rfl, rfl⟩ dX10_lose_32 hw
  · refine r_iconst hC (v := (-1 : Int32)) dX10_lose_7 rfl (by decide) ?_
    exact r_retI hC hR ⟨rfl, rfl⟩ dX10_lose_8 hw
set_option maxRecDepth 100000 in
theorem c_X10_lose {l : Launch} {x : Gx} {g : Gm}  {x1 : Int32} {I : Mm} {Post : Int32 → Mm → Prop} (hG : shM g) (hw : wp_X10_lose  x1 I Post) : KI l x yX10_lose wsX10_lose rm_X10_lose g I [.ref (gA g 100), .int x1] (fun r u => u.1 = g ∧ Post r u.2) := KI_of (by decide) rfl rfl (Nat.le_of_ble_eq_true rfl) (fun f hC _ _ hR => t_X10_lose_0 hC hG hR hw)

/-! X10_noCell -/
abbrev rm_X10_noCell : Room := { frames := 1, cells := 0, slots := 0, locals := 25 }
theorem ci_X10_noCell : CI yX10_noCell wsX10_noCell cX10_noCell 3 (some .int) 2 := ⟨⟨_, rfl⟩, by decide, by decide, by decide +kernel⟩
def wp_X10_noCell  (x1 : Int32) (x2 : Int32) (I : Mm) (Post : Int32 → Mm → Prop) : Prop := vp_in x1 4 ∧ (if 0 ≤ (I 125 x1.toNatClampNeg) then (vp_in x1 4 ∧ (wp_X10_in x2.toInt64 (0 : Int64) (((I 125 x1.toNatClampNeg).toInt64) - (1 : Int64)) I (fun r1 J2 => if r1 = 0 then (Post (3 : Int32) J2) else (Post (0 : Int32) J2)))) else (Post (1 : Int32) I))
set_option maxRecDepth 20000 in
theorem uw_X10_noCell_10 : ∀ w ∈ u_ws RX10 TX10 30, w ∈ wsX10_noCell := by decide +kernel
set_option maxRecDepth 20000 in
theorem ffg_X10_noCell_46 : ∀ k ∈ ([10] : List Nat), FF wsX10_noCell RX10 46 k 25 ∧ fR k 25 = true := List.forall_mem_cons.mpr ⟨⟨⟨RX10, TX10, 30, "PageDesksModel", rfl, rfl, by decide, by decide, uw_X10_noCell_10, (List.mem_of_getElem? (i := 1) rfl), Or.inl rfl⟩, rfl⟩, fun _ h => absurd h List.not_mem_nil⟩
set_option maxRecDepth 100000 in
set_option maxHeartbeats 4000000 in
theorem t_X10_noCell_0 {f : Fx} {g : Gm}  {Post : Int32 → Mm → Prop} {x1 : Int32} {x2 : Int32} {I : Mm} (hC : Cx f cX10_noCell 3 RX10 wsX10_noCell rm_X10_noCell) (hG : shM g) (hR : RtI f cX10_noCell (fun r u => u.1 = g ∧ Post r u.2)) (hw : wp_X10_noCell  x1 x2 I Post) : PW f 0 0 g I 0 [(0, .ref (gA g 100)), (1, .int x1), (2, .int x2)] [] := by
  unfold wp_X10_noCell at hw
  refine r_aload_n hC dX10_noCell_0 rfl rfl (j := 0) rfl ?_
  refine r_getR hC dX10_noCell_1 rfl hG.o.1 hG.o.2 ffg_X10_noCell_46 hG.a25.2 ?_
  refine r_iload_n hC dX10_noCell_4 rfl rfl (j := 1) rfl ?_
  obtain ⟨hi, hw⟩ := hw
  refine r_iald hC dX10_noCell_5 rfl (hG.a25.1).1 (hG.a25.1).2.1 (by rw [(hG.a25.1).2.2]; exact hi) ?_
  refine r_if_ge hC (tgt := 13) dX10_noCell_6 rfl (by decide) hw (fun hw => ?_) (fun hw => ?_)
  · refine r_iload_n hC dX10_noCell_13 rfl rfl (j := 2) rfl ?_
    refine r_i2l hC dX10_noCell_14 rfl ?_
    refine r_lconst hC (v := (0 : Int64)) dX10_noCell_15 rfl (by decide) ?_
    refine r_aload_n hC dX10_noCell_16 rfl rfl (j := 0) rfl ?_
    refine r_getR hC dX10_noCell_17 rfl hG.o.1 hG.o.2 ffg_X10_noCell_46 hG.a25.2 ?_
    refine r_iload_n hC dX10_noCell_20 rfl rfl (j := 1) rfl ?_
    obtain ⟨hi, hw⟩ := hw
    refine r_iald hC dX10_noCell_21 rfl (hG.a25.1).1 (hG.a25.1).2.1 (by rw [(hG.a25.1).2.2]; exact hi) ?_
    refine r_i2l hC dX10_noCell_22 rfl ?_
    refine r_lconst hC (v := (1 : Int64)) dX10_noCell_23 rfl (by decide) ?_
    refine r_lsub hC dX10_noCell_24 rfl ?_
    refine r_callI hC (a_S hC (c_X10_in  hw) ci_X10_in gX10_noCell_X10_in ⟨Nat.le_of_ble_eq_true rfl, Nat.le_of_ble_eq_true rfl⟩ ⟨Nat.le_of_ble_eq_true rfl, Nat.le_of_ble_eq_true rfl⟩ rfl rfl (Nat.le_of_ble_eq_true rfl) dX10_noCell_25) ⟨rfl, rfl⟩ rfl (fun r1 J2 hw => ?_)
    refine r_if_eq hC (tgt := 35) dX10_noCell_28 rfl (by decide) hw (fun hw => ?_) (fun hw => ?_)
    · refine r_iconst hC (v := (3 : Int32)) dX10_noCell_35 rfl (by decide) ?_
      exact r_retI hC hR ⟨rfl, rfl⟩ dX10_noCell_36 hw
    · refine r_iconst hC (v := (0 : Int32)) dX10_noCell_31 rfl (by decide) ?_
      refine r_goto hC (tgt := 36) dX10_noCell_32 (by decide) ?_
      exact r_retI hC hR ⟨rfl, rfl⟩ dX10_noCell_36 hw
  · refine r_iconst hC (v := (1 : Int32)) dX10_noCell_9 rfl (by decide) ?_
    refine r_goto hC (tgt := 36) dX10_noCell_10 (by decide) ?_
    exact r_retI hC hR ⟨rfl, rfl⟩ dX10_noCell_36 hw
set_option maxRecDepth 100000 in
theorem c_X10_noCell {l : Launch} {x : Gx} {g : Gm}  {x1 : Int32} {x2 : Int32} {I : Mm} {Post : Int32 → Mm → Prop} (hG : shM g) (hw : wp_X10_noCell  x1 x2 I Post) : KI l x yX10_noCell wsX10_noCell rm_X10_noCell g I [.ref (gA g 100), .int x1, .int x2] (fun r u => u.1 = g ∧ Post r u.2) := KI_of (by decide) rfl rfl (Nat.le_of_ble_eq_true rfl) (fun f hC _ _ hR => t_X10_noCell_0 hC hG hR hw)

/-! X10_put -/
abbrev rm_X10_put : Room := { frames := 2, cells := 0, slots := 0, locals := 47 }
theorem ci_X10_put : CI yX10_put wsX10_put cX10_put 4 (some .int) 3 := ⟨⟨_, rfl⟩, by decide, by decide, by decide +kernel⟩
def wp_X10_put_73   (Post : Int32 → Mm → Prop) (s0 : Int32) (s1 : Int32) (I : Mm) : Prop := vp_in s1 240 ∧ (wp_X10_refused (1 : Int32) (up2 I 127 s1.toNatClampNeg s0) (fun r11 J12 => Post r11 J12))
def wp_X10_put  (x1 : Int32) (x2 : Int32) (x3 : Int32) (I : Mm) (Post : Int32 → Mm → Prop) : Prop := wp_X10_noSheet x1 I (fun r1 J2 => if r1 = 0 then (wp_X10_noCell x1 x2 J2 (fun r3 J4 => if r3 ≤ 0 then (vp_in x1 4 ∧ (if (J4 126 x1.toNatClampNeg) = 0 then (wp_X10_put_73  Post x3.toInt8.toInt32 (((60 : Int32) * x1) + x2) J4) else (vp_in x1 4 ∧ (if (J4 126 x1.toNatClampNeg) = (1 : Int32) then (wp_X10_put_73  Post x3.toInt16.toInt32 (((60 : Int32) * x1) + x2) J4) else (wp_X10_put_73  Post x3 (((60 : Int32) * x1) + x2) J4))))) else (wp_X10_noCell x1 x2 J4 (fun r5 J6 => wp_X10_failed r5 J6 (fun r7 J8 => Post r7 J8))))) else (wp_X10_refused (-1 : Int32) J2 (fun r9 J10 => Post r9 J10)))
set_option maxRecDepth 20000 in
theorem uw_X10_put_10 : ∀ w ∈ u_ws RX10 TX10 30, w ∈ wsX10_put := by decide +kernel
set_option maxRecDepth 20000 in
theorem ffg_X10_put_52 : ∀ k ∈ ([10] : List Nat), FF wsX10_put RX10 52 k 27 ∧ fR k 27 = true := List.forall_mem_cons.mpr ⟨⟨⟨RX10, TX10, 30, "PageDesksModel", rfl, rfl, by decide, by decide, uw_X10_put_10, (List.mem_of_getElem? (i := 1) rfl), Or.inl rfl⟩, rfl⟩, fun _ h => absurd h List.not_mem_nil⟩
set_option maxRecDepth 20000 in
theorem ffg_X10_put_49 : ∀ k ∈ ([10] : List Nat), FF wsX10_put RX10 49 k 26 ∧ fR k 26 = true := List.forall_mem_cons.mpr ⟨⟨⟨RX10, TX10, 30, "PageDesksModel", rfl, rfl, by decide, by decide, uw_X10_put_10, (List.mem_of_getElem? (i := 2) rfl), Or.inl rfl⟩, rfl⟩, fun _ h => absurd h List.not_mem_nil⟩
set_option maxRecDepth 100000 in
set_option maxHeartbeats 4000000 in
theorem t_X10_put_73 {f : Fx} {g : Gm}  {Post : Int32 → Mm → Prop}  (hC : Cx f cX10_put 4 RX10 wsX10_put rm_X10_put) (hG : shM g) (hR : RtI f cX10_put (fun r u => u.1 = g ∧ Post r u.2))  : ∀ (s0 : Int32) (s1 : Int32) (I : Mm) , wp_X10_put_73   Post s0 s1 I → PW f 0 0 g I 73 [(0, .ref (gA g 100))] [.int s0, .int s1, .ref (gA g 127)] := by
  intro s0 s1 I  hw
  unfold wp_X10_put_73 at hw
  obtain ⟨hi, hw⟩ := hw
  refine r_iast hC dX10_put_73 rfl (hG.a27.1).1 (hG.a27.1).2.1 (by rw [(hG.a27.1).2.2]; exact hi) ?_
  refine r_aload_n hC dX10_put_74 rfl rfl (j := 0) rfl ?_
  refine r_iconst hC (v := (1 : Int32)) dX10_put_75 rfl (by decide) ?_
  refine r_callI hC (a_V hC (k := 10) (c_X10_refused hG hw) ci_X10_refused gX10_put_X10_refused rfl ⟨Nat.le_of_ble_eq_true rfl, Nat.le_of_ble_eq_true rfl⟩ ⟨Nat.le_of_ble_eq_true rfl, Nat.le_of_ble_eq_true rfl⟩ rfl (by decide) hG.o.1 (List.mem_singleton.mp hG.o.2) rfl rfl (Nat.le_of_ble_eq_true rfl) dX10_put_76) ⟨rfl, rfl⟩ rfl (fun r11 J12 hw => ?_)
  exact r_retI hC hR ⟨rfl, rfl⟩ dX10_put_79 hw
set_option maxRecDepth 100000 in
set_option maxHeartbeats 4000000 in
theorem t_X10_put_0 {f : Fx} {g : Gm}  {Post : Int32 → Mm → Prop} {x1 : Int32} {x2 : Int32} {x3 : Int32} {I : Mm} (hC : Cx f cX10_put 4 RX10 wsX10_put rm_X10_put) (hG : shM g) (hR : RtI f cX10_put (fun r u => u.1 = g ∧ Post r u.2)) (hw : wp_X10_put  x1 x2 x3 I Post) : PW f 0 0 g I 0 [(0, .ref (gA g 100)), (1, .int x1), (2, .int x2), (3, .int x3)] [] := by
  unfold wp_X10_put at hw
  refine r_iload_n hC dX10_put_0 rfl rfl (j := 1) rfl ?_
  refine r_callI hC (a_S hC (c_X10_noSheet  hw) ci_X10_noSheet gX10_put_X10_noSheet ⟨Nat.le_of_ble_eq_true rfl, Nat.le_of_ble_eq_true rfl⟩ ⟨Nat.le_of_ble_eq_true rfl, Nat.le_of_ble_eq_true rfl⟩ rfl rfl (Nat.le_of_ble_eq_true rfl) dX10_put_1) ⟨rfl, rfl⟩ rfl (fun r1 J2 hw => ?_)
  refine r_if_eq hC (tgt := 13) dX10_put_4 rfl (by decide) hw (fun hw => ?_) (fun hw => ?_)
  · refine r_aload_n hC dX10_put_13 rfl rfl (j := 0) rfl ?_
    refine r_iload_n hC dX10_put_14 rfl rfl (j := 1) rfl ?_
    refine r_iload_n hC dX10_put_15 rfl rfl (j := 2) rfl ?_
    refine r_callI hC (a_V hC (k := 10) (c_X10_noCell hG hw) ci_X10_noCell gX10_put_X10_noCell rfl ⟨Nat.le_of_ble_eq_true rfl, Nat.le_of_ble_eq_true rfl⟩ ⟨Nat.le_of_ble_eq_true rfl, Nat.le_of_ble_eq_true rfl⟩ rfl (by decide) hG.o.1 (List.mem_singleton.mp hG.o.2) rfl rfl (Nat.le_of_ble_eq_true rfl) dX10_put_16) ⟨rfl, rfl⟩ rfl (fun r3 J4 hw => ?_)
    refine r_if_le hC (tgt := 33) dX10_put_19 rfl (by decide) hw (fun hw => ?_) (fun hw => ?_)
    · refine r_aload_n hC dX10_put_33 rfl rfl (j := 0) rfl ?_
      refine r_getR hC dX10_put_34 rfl hG.o.1 hG.o.2 ffg_X10_put_52 hG.a27.2 ?_
      refine r_bipush hC (v := (60 : Int32)) dX10_put_37 rfl (by decide) ?_
      refine r_iload_n hC dX10_put_39 rfl rfl (j := 1) rfl ?_
      refine r_imul hC dX10_put_40 rfl ?_
      refine r_iload_n hC dX10_put_41 rfl rfl (j := 2) rfl ?_
      refine r_iadd hC dX10_put_42 rfl ?_
      refine r_aload_n hC dX10_put_43 rfl rfl (j := 0) rfl ?_
      refine r_getR hC dX10_put_44 rfl hG.o.1 hG.o.2 ffg_X10_put_49 hG.a26.2 ?_
      refine r_iload_n hC dX10_put_47 rfl rfl (j := 1) rfl ?_
      obtain ⟨hi, hw⟩ := hw
      refine r_iald hC dX10_put_48 rfl (hG.a26.1).1 (hG.a26.1).2.1 (by rw [(hG.a26.1).2.2]; exact hi) ?_
      refine r_if_ne hC (tgt := 57) dX10_put_49 rfl (by decide) hw (fun hw => ?_) (fun hw => ?_)
      · refine r_aload_n hC dX10_put_57 rfl rfl (j := 0) rfl ?_
        refine r_getR hC dX10_put_58 rfl hG.o.1 hG.o.2 ffg_X10_put_49 hG.a26.2 ?_
        refine r_iload_n hC dX10_put_61 rfl rfl (j := 1) rfl ?_
        obtain ⟨hi, hw⟩ := hw
        refine r_iald hC dX10_put_62 rfl (hG.a26.1).1 (hG.a26.1).2.1 (by rw [(hG.a26.1).2.2]; exact hi) ?_
        refine r_iconst hC (v := (1 : Int32)) dX10_put_63 rfl (by decide) ?_
        refine r_icmp_ne hC (tgt := 72) dX10_put_64 rfl (by decide) hw (fun hw => ?_) (fun hw => ?_)
        · refine r_iload_n hC dX10_put_72 rfl rfl (j := 3) rfl ?_
          exact r_sub (lv' := [(0, .ref (gA g 100))]) [0] rfl (t_X10_put_73 hC hG hR _ _ _ hw)
        · refine r_iload_n hC dX10_put_67 rfl rfl (j := 3) rfl ?_
          refine r_i2s hC dX10_put_68 rfl ?_
          refine r_goto hC (tgt := 73) dX10_put_69 (by decide) ?_
          exact r_sub (lv' := [(0, .ref (gA g 100))]) [0] rfl (t_X10_put_73 hC hG hR _ _ _ hw)
      · refine r_iload_n hC dX10_put_52 rfl rfl (j := 3) rfl ?_
        refine r_i2b hC dX10_put_53 rfl ?_
        refine r_goto hC (tgt := 73) dX10_put_54 (by decide) ?_
        exact r_sub (lv' := [(0, .ref (gA g 100))]) [0] rfl (t_X10_put_73 hC hG hR _ _ _ hw)
    · refine r_aload_n hC dX10_put_22 rfl rfl (j := 0) rfl ?_
      refine r_aload_n hC dX10_put_23 rfl rfl (j := 0) rfl ?_
      refine r_iload_n hC dX10_put_24 rfl rfl (j := 1) rfl ?_
      refine r_iload_n hC dX10_put_25 rfl rfl (j := 2) rfl ?_
      refine r_callI hC (a_V hC (k := 10) (c_X10_noCell hG hw) ci_X10_noCell gX10_put_X10_noCell rfl ⟨Nat.le_of_ble_eq_true rfl, Nat.le_of_ble_eq_true rfl⟩ ⟨Nat.le_of_ble_eq_true rfl, Nat.le_of_ble_eq_true rfl⟩ rfl (by decide) hG.o.1 (List.mem_singleton.mp hG.o.2) rfl rfl (Nat.le_of_ble_eq_true rfl) dX10_put_26) ⟨rfl, rfl⟩ rfl (fun r5 J6 hw => ?_)
      refine r_callI hC (a_V hC (k := 10) (c_X10_failed hG hw) ci_X10_failed gX10_put_X10_failed rfl ⟨Nat.le_of_ble_eq_true rfl, Nat.le_of_ble_eq_true rfl⟩ ⟨Nat.le_of_ble_eq_true rfl, Nat.le_of_ble_eq_true rfl⟩ rfl (by decide) hG.o.1 (List.mem_singleton.mp hG.o.2) rfl rfl (Nat.le_of_ble_eq_true rfl) dX10_put_29) ⟨rfl, rfl⟩ rfl (fun r7 J8 hw => ?_)
      exact r_retI hC hR ⟨rfl, rfl⟩ dX10_put_32 hw
  · refine r_aload_n hC dX10_put_7 rfl rfl (j := 0) rfl ?_
    refine r_iconst hC (v := (-1 : Int32)) dX10_put_8 rfl (by decide) ?_
    refine r_callI hC (a_V hC (k := 10) (c_X10_refused hG hw) ci_X10_refused gX10_put_X10_refused rfl ⟨Nat.le_of_ble_eq_true rfl, Nat.le_of_ble_eq_true rfl⟩ ⟨Nat.le_of_ble_eq_true rfl, Nat.le_of_ble_eq_true rfl⟩ rfl (by decide) hG.o.1 (List.mem_singleton.mp hG.o.2) rfl rfl (Nat.le_of_ble_eq_true rfl) dX10_put_9) ⟨rfl, rfl⟩ rfl (fun r9 J10 hw => ?_)
    exact r_retI hC hR ⟨rfl, rfl⟩ dX10_put_12 hw
set_option maxRecDepth 100000 in
theorem c_X10_put {l : Launch} {x : Gx} {g : Gm}  {x1 : Int32} {x2 : Int32} {x3 : Int32} {I : Mm} {Post : Int32 → Mm → Prop} (hG : shM g) (hw : wp_X10_put  x1 x2 x3 I Post) : KI l x yX10_put wsX10_put rm_X10_put g I [.ref (gA g 100), .int x1, .int x2, .int x3] (fun r u => u.1 = g ∧ Post r u.2) := KI_of (by decide) rfl rfl (Nat.le_of_ble_eq_true rfl) (fun f hC _ _ hR => t_X10_put_0 hC hG hR hw)

/-! X10_cell -/
abbrev rm_X10_cell : Room := { frames := 2, cells := 0, slots := 0, locals := 47 }
theorem ci_X10_cell : CI yX10_cell wsX10_cell cX10_cell 4 (some .long) 3 := ⟨⟨_, rfl⟩, by decide, by decide, by decide +kernel⟩
def wp_X10_cell_24   (Post : Int64 → Mm → Prop)  (I : Mm) : Prop := wp_X10_lost  I (fun r7 J8 => Post r7 J8)
def wp_X10_cell_53   (Post : Int64 → Mm → Prop) (x1 : Int32) (x2 : Int32) (I : Mm) : Prop := wp_X10_noCell x1 x2 I (fun r9 J10 => if r9 ≤ 0 then (vp_in (((60 : Int32) * x1) + x2) 240 ∧ (Post ((J10 127 (((60 : Int32) * x1) + x2).toNatClampNeg).toInt64) J10)) else (wp_X10_noCell x1 x2 J10 (fun r11 J12 => wp_X10_failedLong r11 J12 (fun r13 J14 => Post r13 J14))))
def wp_X10_cell  (x1 : Int32) (x2 : Int32) (x3 : Int32) (I : Mm) (Post : Int64 → Mm → Prop) : Prop := wp_X10_noSheet x1 (up2 I 100 0 (0 : Int32)) (fun r1 J2 => if r1 = 0 then (wp_X10_in x3.toInt64 (0 : Int64) (2 : Int64) J2 (fun r3 J4 => if r3 = 0 then (wp_X10_cell_24  Post  J4) else (vp_in x1 4 ∧ (if (J4 125 x1.toNatClampNeg) < 0 then (wp_X10_cell_53  Post x1 x2 J4) else (vp_in x1 4 ∧ (if (J4 126 x1.toNatClampNeg) = x3 then (wp_X10_cell_53  Post x1 x2 J4) else (wp_X10_failedLong (2 : Int32) J4 (fun r5 J6 => Post r5 J6)))))))) else (wp_X10_cell_24  Post  J2))
set_option maxRecDepth 20000 in
theorem uw_X10_cell_10 : ∀ w ∈ u_ws RX10 TX10 30, w ∈ wsX10_cell := by decide +kernel
set_option maxRecDepth 20000 in
theorem ffp_X10_cell_60 : ∀ k ∈ ([10] : List Nat), FF wsX10_cell RX10 60 k 0 ∧ fR k 0 = false ∧ FP k 0 := List.forall_mem_cons.mpr ⟨⟨⟨RX10, TX10, 30, "PageDesksModel", rfl, rfl, by decide, by decide, uw_X10_cell_10, (List.mem_of_getElem? (i := 1) rfl), Or.inl rfl⟩, rfl, ⟨RX10, TX10, 30, tyX10, rfl, tyX10_ok, nmX10, rfl, rfl⟩⟩, fun _ h => absurd h List.not_mem_nil⟩
set_option maxRecDepth 20000 in
theorem ffg_X10_cell_46 : ∀ k ∈ ([10] : List Nat), FF wsX10_cell RX10 46 k 25 ∧ fR k 25 = true := List.forall_mem_cons.mpr ⟨⟨⟨RX10, TX10, 30, "PageDesksModel", rfl, rfl, by decide, by decide, uw_X10_cell_10, (List.mem_of_getElem? (i := 3) rfl), Or.inl rfl⟩, rfl⟩, fun _ h => absurd h List.not_mem_nil⟩
set_option maxRecDepth 20000 in
theorem ffg_X10_cell_49 : ∀ k ∈ ([10] : List Nat), FF wsX10_cell RX10 49 k 26 ∧ fR k 26 = true := List.forall_mem_cons.mpr ⟨⟨⟨RX10, TX10, 30, "PageDesksModel", rfl, rfl, by decide, by decide, uw_X10_cell_10, (List.mem_of_getElem? (i := 4) rfl), Or.inl rfl⟩, rfl⟩, fun _ h => absurd h List.not_mem_nil⟩
set_option maxRecDepth 20000 in
theorem ffg_X10_cell_52 : ∀ k ∈ ([10] : List Nat), FF wsX10_cell RX10 52 k 27 ∧ fR k 27 = true := List.forall_mem_cons.mpr ⟨⟨⟨RX10, TX10, 30, "PageDesksModel", rfl, rfl, by decide, by decide, uw_X10_cell_10, (List.mem_of_getElem? (i := 5) rfl), Or.inl rfl⟩, rfl⟩, fun _ h => absurd h List.not_mem_nil⟩
set_option maxRecDepth 100000 in
set_option maxHeartbeats 4000000 in
theorem t_X10_cell_24 {f : Fx} {g : Gm}  {Post : Int64 → Mm → Prop}  (hC : Cx f cX10_cell 4 RX10 wsX10_cell rm_X10_cell) (hG : shM g) (hR : RtL f cX10_cell (fun r u => u.1 = g ∧ Post r u.2))  : ∀  (I : Mm) , wp_X10_cell_24   Post  I → PW f 0 0 g I 24 [] [] := by
  intro  I  hw
  unfold wp_X10_cell_24 at hw
  refine r_callL hC (a_S hC (c_X10_lost  hw) ci_X10_lost gX10_cell_X10_lost ⟨Nat.le_of_ble_eq_true rfl, Nat.le_of_ble_eq_true rfl⟩ ⟨Nat.le_of_ble_eq_true rfl, Nat.le_of_ble_eq_true rfl⟩ rfl rfl (Nat.le_of_ble_eq_true rfl) dX10_cell_24) ⟨rfl, rfl⟩ rfl (fun r7 J8 hw => ?_)
  exact r_retL hC hR ⟨rfl, rfl⟩ dX10_cell_27 hw
set_option maxRecDepth 100000 in
set_option maxHeartbeats 4000000 in
theorem t_X10_cell_53 {f : Fx} {g : Gm}  {Post : Int64 → Mm → Prop}  (hC : Cx f cX10_cell 4 RX10 wsX10_cell rm_X10_cell) (hG : shM g) (hR : RtL f cX10_cell (fun r u => u.1 = g ∧ Post r u.2))  : ∀ (x1 : Int32) (x2 : Int32) (I : Mm) , wp_X10_cell_53   Post x1 x2 I → PW f 0 0 g I 53 [(0, .ref (gA g 100)), (1, .int x1), (2, .int x2)] [] := by
  intro x1 x2 I  hw
  unfold wp_X10_cell_53 at hw
  refine r_aload_n hC dX10_cell_53 rfl rfl (j := 0) rfl ?_
  refine r_iload_n hC dX10_cell_54 rfl rfl (j := 1) rfl ?_
  refine r_iload_n hC dX10_cell_55 rfl rfl (j := 2) rfl ?_
  refine r_callI hC (a_V hC (k := 10) (c_X10_noCell hG hw) ci_X10_noCell gX10_cell_X10_noCell rfl ⟨Nat.le_of_ble_eq_true rfl, Nat.le_of_ble_eq_true rfl⟩ ⟨Nat.le_of_ble_eq_true rfl, Nat.le_of_ble_eq_true rfl⟩ rfl (by decide) hG.o.1 (List.mem_singleton.mp hG.o.2) rfl rfl (Nat.le_of_ble_eq_true rfl) dX10_cell_56) ⟨rfl, rfl⟩ rfl (fun r9 J10 hw => ?_)
  refine r_if_le hC (tgt := 75) dX10_cell_59 rfl (by decide) hw (fun hw => ?_) (fun hw => ?_)
  · refine r_aload_n hC dX10_cell_75 rfl rfl (j := 0) rfl ?_
    refine r_getR hC dX10_cell_76 rfl hG.o.1 hG.o.2 ffg_X10_cell_52 hG.a27.2 ?_
    refine r_bipush hC (v := (60 : Int32)) dX10_cell_79 rfl (by decide) ?_
    refine r_iload_n hC dX10_cell_81 rfl rfl (j := 1) rfl ?_
    refine r_imul hC dX10_cell_82 rfl ?_
    refine r_iload_n hC dX10_cell_83 rfl rfl (j := 2) rfl ?_
    refine r_iadd hC dX10_cell_84 rfl ?_
    obtain ⟨hi, hw⟩ := hw
    refine r_iald hC dX10_cell_85 rfl (hG.a27.1).1 (hG.a27.1).2.1 (by rw [(hG.a27.1).2.2]; exact hi) ?_
    refine r_i2l hC dX10_cell_86 rfl ?_
    exact r_retL hC hR ⟨rfl, rfl⟩ dX10_cell_87 hw
  · refine r_aload_n hC dX10_cell_62 rfl rfl (j := 0) rfl ?_
    refine r_aload_n hC dX10_cell_63 rfl rfl (j := 0) rfl ?_
    refine r_iload_n hC dX10_cell_64 rfl rfl (j := 1) rfl ?_
    refine r_iload_n hC dX10_cell_65 rfl rfl (j := 2) rfl ?_
    refine r_callI hC (a_V hC (k := 10) (c_X10_noCell hG hw) ci_X10_noCell gX10_cell_X10_noCell rfl ⟨Nat.le_of_ble_eq_true rfl, Nat.le_of_ble_eq_true rfl⟩ ⟨Nat.le_of_ble_eq_true rfl, Nat.le_of_ble_eq_true rfl⟩ rfl (by decide) hG.o.1 (List.mem_singleton.mp hG.o.2) rfl rfl (Nat.le_of_ble_eq_true rfl) dX10_cell_66) ⟨rfl, rfl⟩ rfl (fun r11 J12 hw => ?_)
    refine r_callL hC (a_V hC (k := 10) (c_X10_failedLong hG hw) ci_X10_failedLong gX10_cell_X10_failedLong rfl ⟨Nat.le_of_ble_eq_true rfl, Nat.le_of_ble_eq_true rfl⟩ ⟨Nat.le_of_ble_eq_true rfl, Nat.le_of_ble_eq_true rfl⟩ rfl (by decide) hG.o.1 (List.mem_singleton.mp hG.o.2) rfl rfl (Nat.le_of_ble_eq_true rfl) dX10_cell_69) ⟨rfl, rfl⟩ rfl (fun r13 J14 hw => ?_)
    refine r_goto hC (tgt := 87) dX10_cell_72 (by decide) ?_
    exact r_retL hC hR ⟨rfl, rfl⟩ dX10_cell_87 hw
set_option maxRecDepth 100000 in
set_option maxHeartbeats 4000000 in
theorem t_X10_cell_0 {f : Fx} {g : Gm}  {Post : Int64 → Mm → Prop} {x1 : Int32} {x2 : Int32} {x3 : Int32} {I : Mm} (hC : Cx f cX10_cell 4 RX10 wsX10_cell rm_X10_cell) (hG : shM g) (hR : RtL f cX10_cell (fun r u => u.1 = g ∧ Post r u.2)) (hw : wp_X10_cell  x1 x2 x3 I Post) : PW f 0 0 g I 0 [(0, .ref (gA g 100)), (1, .int x1), (2, .int x2), (3, .int x3)] [] := by
  unfold wp_X10_cell at hw
  refine r_aload_n hC dX10_cell_0 rfl rfl (j := 0) rfl ?_
  refine r_iconst hC (v := (0 : Int32)) dX10_cell_1 rfl (by decide) ?_
  refine r_putI hC dX10_cell_2 rfl hG.o.1 hG.o.2 ffp_X10_cell_60 ?_
  refine r_iload_n hC dX10_cell_5 rfl rfl (j := 1) rfl ?_
  refine r_callI hC (a_S hC (c_X10_noSheet  hw) ci_X10_noSheet gX10_cell_X10_noSheet ⟨Nat.le_of_ble_eq_true rfl, Nat.le_of_ble_eq_true rfl⟩ ⟨Nat.le_of_ble_eq_true rfl, Nat.le_of_ble_eq_true rfl⟩ rfl rfl (Nat.le_of_ble_eq_true rfl) dX10_cell_6) ⟨rfl, rfl⟩ rfl (fun r1 J2 hw => ?_)
  refine r_if_ne hC (tgt := 24) dX10_cell_9 rfl (by decide) hw (fun hw => ?_) (fun hw => ?_)
  · exact r_sub (lv' := []) [] rfl (t_X10_cell_24 hC hG hR _ hw)
  · refine r_iload_n hC dX10_cell_12 rfl rfl (j := 3) rfl ?_
    refine r_i2l hC dX10_cell_13 rfl ?_
    refine r_lconst hC (v := (0 : Int64)) dX10_cell_14 rfl (by decide) ?_
    refine r_ldc2 hC (v := (2 : Int64)) dX10_cell_15 rfl (List.mem_of_getElem? (i := 2) rfl) ?_
    refine r_callI hC (a_S hC (c_X10_in  hw) ci_X10_in gX10_cell_X10_in ⟨Nat.le_of_ble_eq_true rfl, Nat.le_of_ble_eq_true rfl⟩ ⟨Nat.le_of_ble_eq_true rfl, Nat.le_of_ble_eq_true rfl⟩ rfl rfl (Nat.le_of_ble_eq_true rfl) dX10_cell_18) ⟨rfl, rfl⟩ rfl (fun r3 J4 hw => ?_)
    refine r_if_ne hC (tgt := 28) dX10_cell_21 rfl (by decide) hw (fun hw => ?_) (fun hw => ?_)
    · refine r_aload_n hC dX10_cell_28 rfl rfl (j := 0) rfl ?_
      refine r_getR hC dX10_cell_29 rfl hG.o.1 hG.o.2 ffg_X10_cell_46 hG.a25.2 ?_
      refine r_iload_n hC dX10_cell_32 rfl rfl (j := 1) rfl ?_
      obtain ⟨hi, hw⟩ := hw
      refine r_iald hC dX10_cell_33 rfl (hG.a25.1).1 (hG.a25.1).2.1 (by rw [(hG.a25.1).2.2]; exact hi) ?_
      refine r_if_lt hC (tgt := 53) dX10_cell_34 rfl (by decide) hw (fun hw => ?_) (fun hw => ?_)
      · exact r_sub (lv' := [(0, .ref (gA g 100)), (1, .int x1), (2, .int x2)]) [0, 1, 2] rfl (t_X10_cell_53 hC hG hR _ _ _ hw)
      · refine r_aload_n hC dX10_cell_37 rfl rfl (j := 0) rfl ?_
        refine r_getR hC dX10_cell_38 rfl hG.o.1 hG.o.2 ffg_X10_cell_49 hG.a26.2 ?_
        refine r_iload_n hC dX10_cell_41 rfl rfl (j := 1) rfl ?_
        obtain ⟨hi, hw⟩ := hw
        refine r_iald hC dX10_cell_42 rfl (hG.a26.1).1 (hG.a26.1).2.1 (by rw [(hG.a26.1).2.2]; exact hi) ?_
        refine r_iload_n hC dX10_cell_43 rfl rfl (j := 3) rfl ?_
        refine r_icmp_eq hC (tgt := 53) dX10_cell_44 rfl (by decide) hw (fun hw => ?_) (fun hw => ?_)
        · exact r_sub (lv' := [(0, .ref (gA g 100)), (1, .int x1), (2, .int x2)]) [0, 1, 2] rfl (t_X10_cell_53 hC hG hR _ _ _ hw)
        · refine r_aload_n hC dX10_cell_47 rfl rfl (j := 0) rfl ?_
          refine r_iconst hC (v := (2 : Int32)) dX10_cell_48 rfl (by decide) ?_
          refine r_callL hC (a_V hC (k := 10) (c_X10_failedLong hG hw) ci_X10_failedLong gX10_cell_X10_failedLong rfl ⟨Nat.le_of_ble_eq_true rfl, Nat.le_of_ble_eq_true rfl⟩ ⟨Nat.le_of_ble_eq_true rfl, Nat.le_of_ble_eq_true rfl⟩ rfl (by decide) hG.o.1 (List.mem_singleton.mp hG.o.2) rfl rfl (Nat.le_of_ble_eq_true rfl) dX10_cell_49) ⟨rfl, rfl⟩ rfl (fun r5 J6 hw => ?_)
          exact r_retL hC hR ⟨rfl, rfl⟩ dX10_cell_52 hw
    · exact r_sub (lv' := []) [] rfl (t_X10_cell_24 hC hG hR _ hw)
set_option maxRecDepth 100000 in
theorem c_X10_cell {l : Launch} {x : Gx} {g : Gm}  {x1 : Int32} {x2 : Int32} {x3 : Int32} {I : Mm} {Post : Int64 → Mm → Prop} (hG : shM g) (hw : wp_X10_cell  x1 x2 x3 I Post) : KL l x yX10_cell wsX10_cell rm_X10_cell g I [.ref (gA g 100), .int x1, .int x2, .int x3] (fun r u => u.1 = g ∧ Post r u.2) := KL_of (by decide) rfl rfl (Nat.le_of_ble_eq_true rfl) (fun f hC _ _ hR => t_X10_cell_0 hC hG hR hw)

/-! X10_copy -/
abbrev rm_X10_copy : Room := { frames := 2, cells := 0, slots := 0, locals := 45 }
theorem ci_X10_copy : CI yX10_copy wsX10_copy cX10_copy 7 (some .int) 5 := ⟨⟨_, rfl⟩, by decide, by decide, by decide +kernel⟩
def wp_X10_copy_14   (Post : Int32 → Mm → Prop)  (I : Mm) : Prop := wp_X10_refused (-1 : Int32) I (fun r11 J12 => Post r11 J12)
def wp_X10_copy_38   (Post : Int32 → Mm → Prop)  (I : Mm) : Prop := wp_X10_failed (1 : Int32) I (fun r13 J14 => Post r13 J14)
def wp_X10_copy_98   (Post : Int32 → Mm → Prop)  (I : Mm) : Prop := wp_X10_failed (3 : Int32) I (fun r15 J16 => Post r15 J16)
def wp_X10_copy_107  (K141 : Int32 → Int32 → Int32 → Mm → Prop) (Post : Int32 → Mm → Prop) : Nat → Int32 → Int32 → Int32 → Int32 → Int32 → Int32 → Mm → Prop
  | 0, _, _, _, _, _, _, _ => False
  | nn107 + 1, x1, x2, x3, x4, x5, x6, I => if x5 ≤ x6 then (K141 x3 x4 x5 I) else (vp_in ((((60 : Int32) * x1) + x2) + x6) 240 ∧ (vp_in x6 60 ∧ (wp_X10_copy_107 K141 Post nn107 x1 x2 x3 x4 x5 (x6 + 1) (up2 I 128 x6.toNatClampNeg (I 127 ((((60 : Int32) * x1) + x2) + x6).toNatClampNeg)))))
def wp_X10_copy_144  (K179 : Int32 → Mm → Prop) (Post : Int32 → Mm → Prop) : Nat → Int32 → Int32 → Int32 → Int32 → Mm → Prop
  | 0, _, _, _, _, _ => False
  | nn144 + 1, x3, x4, x5, x6, I => if x5 ≤ x6 then (K179 x5 I) else (vp_in x6 60 ∧ (vp_in ((((60 : Int32) * x3) + x4) + x6) 240 ∧ (wp_X10_copy_144 K179 Post nn144 x3 x4 x5 (x6 + 1) (up2 I 127 ((((60 : Int32) * x3) + x4) + x6).toNatClampNeg (I 128 x6.toNatClampNeg)))))
def wp_X10_copy_179   (Post : Int32 → Mm → Prop) (x5 : Int32) (I : Mm) : Prop := wp_X10_refused x5 I (fun r17 J18 => Post r17 J18)
def wp_X10_copy_141   (Post : Int32 → Mm → Prop) (x3 : Int32) (x4 : Int32) (x5 : Int32) (I : Mm) : Prop := ∃ nn144, wp_X10_copy_144 (fun x5 I => wp_X10_copy_179  Post x5 I) Post nn144 x3 x4 x5 (0 : Int32) I
def wp_X10_copy  (x1 : Int32) (x2 : Int32) (x3 : Int32) (x4 : Int32) (x5 : Int32) (I : Mm) (Post : Int32 → Mm → Prop) : Prop := wp_X10_noSheet x1 I (fun r1 J2 => if r1 = 0 then (wp_X10_noSheet x3 J2 (fun r3 J4 => if r3 = 0 then (vp_in x1 4 ∧ (if (J4 125 x1.toNatClampNeg) < 0 then (wp_X10_copy_38  Post  J4) else (vp_in x3 4 ∧ (if 0 ≤ (J4 125 x3.toNatClampNeg) then (vp_in x1 4 ∧ (vp_in x3 4 ∧ (if (J4 126 x1.toNatClampNeg) = (J4 126 x3.toNatClampNeg) then (vp_in x1 4 ∧ (wp_X10_isBeyond x2 x5.toInt64 (J4 125 x1.toNatClampNeg) J4 (fun r5 J6 => if r5 = 0 then (vp_in x3 4 ∧ (wp_X10_isBeyond x4 x5.toInt64 (J6 125 x3.toNatClampNeg) J6 (fun r7 J8 => if r7 = 0 then (∃ nn107, wp_X10_copy_107 (fun x3 x4 x5 I => wp_X10_copy_141  Post x3 x4 x5 I) Post nn107 x1 x2 x3 x4 x5 (0 : Int32) J8) else (wp_X10_copy_98  Post  J8)))) else (wp_X10_copy_98  Post  J6)))) else (wp_X10_failed (2 : Int32) J4 (fun r9 J10 => Post r9 J10))))) else (wp_X10_copy_38  Post  J4))))) else (wp_X10_copy_14  Post  J4))) else (wp_X10_copy_14  Post  J2))
set_option maxRecDepth 20000 in
theorem uw_X10_copy_10 : ∀ w ∈ u_ws RX10 TX10 30, w ∈ wsX10_copy := by decide +kernel
set_option maxRecDepth 20000 in
theorem ffg_X10_copy_46 : ∀ k ∈ ([10] : List Nat), FF wsX10_copy RX10 46 k 25 ∧ fR k 25 = true := List.forall_mem_cons.mpr ⟨⟨⟨RX10, TX10, 30, "PageDesksModel", rfl, rfl, by decide, by decide, uw_X10_copy_10, (List.mem_of_getElem? (i := 1) rfl), Or.inl rfl⟩, rfl⟩, fun _ h => absurd h List.not_mem_nil⟩
set_option maxRecDepth 20000 in
theorem ffg_X10_copy_49 : ∀ k ∈ ([10] : List Nat), FF wsX10_copy RX10 49 k 26 ∧ fR k 26 = true := List.forall_mem_cons.mpr ⟨⟨⟨RX10, TX10, 30, "PageDesksModel", rfl, rfl, by decide, by decide, uw_X10_copy_10, (List.mem_of_getElem? (i := 2) rfl), Or.inl rfl⟩, rfl⟩, fun _ h => absurd h List.not_mem_nil⟩
set_option maxRecDepth 20000 in
theorem ffg_X10_copy_55 : ∀ k ∈ ([10] : List Nat), FF wsX10_copy RX10 55 k 28 ∧ fR k 28 = true := List.forall_mem_cons.mpr ⟨⟨⟨RX10, TX10, 30, "PageDesksModel", rfl, rfl, by decide, by decide, uw_X10_copy_10, (List.mem_of_getElem? (i := 3) rfl), Or.inl rfl⟩, rfl⟩, fun _ h => absurd h List.not_mem_nil⟩
set_option maxRecDepth 20000 in
theorem ffg_X10_copy_52 : ∀ k ∈ ([10] : List Nat), FF wsX10_copy RX10 52 k 27 ∧ fR k 27 = true := List.forall_mem_cons.mpr ⟨⟨⟨RX10, TX10, 30, "PageDesksModel", rfl, rfl, by decide, by decide, uw_X10_copy_10, (List.mem_of_getElem? (i := 4) rfl), Or.inl rfl⟩, rfl⟩, fun _ h => absurd h List.not_mem_nil⟩
set_option maxRecDepth 100000 in
set_option maxHeartbeats 4000000 in
theorem t_X10_copy_14 {f : Fx} {g : Gm}  {Post : Int32 → Mm → Prop}  (hC : Cx f cX10_copy 7 RX10 wsX10_copy rm_X10_copy) (hG : shM g) (hR : RtI f cX10_copy (fun r u => u.1 = g ∧ Post r u.2))  : ∀  (I : Mm) , wp_X10_copy_14   Post  I → PW f 0 0 g I 14 [(0, .ref (gA g 100))] [] := by
  intro  I  hw
  unfold wp_X10_copy_14 at hw
  refine r_aload_n hC dX10_copy_14 rfl rfl (j := 0) rfl ?_
  refine r_iconst hC (v := (-1 : Int32)) dX10_copy_15 rfl (by decide) ?_
  refine r_callI hC (a_V hC (k := 10) (c_X10_refused hG hw) ci_X10_refused gX10_copy_X10_refused rfl ⟨Nat.le_of_ble_eq_true rfl, Nat.le_of_ble_eq_true rfl⟩ ⟨Nat.le_of_ble_eq_true rfl, Nat.le_of_ble_eq_true rfl⟩ rfl (by decide) hG.o.1 (List.mem_singleton.mp hG.o.2) rfl rfl (Nat.le_of_ble_eq_true rfl) dX10_copy_16) ⟨rfl, rfl⟩ rfl (fun r11 J12 hw => ?_)
  exact r_retI hC hR ⟨rfl, rfl⟩ dX10_copy_19 hw
set_option maxRecDepth 100000 in
set_option maxHeartbeats 4000000 in
theorem t_X10_copy_38 {f : Fx} {g : Gm}  {Post : Int32 → Mm → Prop}  (hC : Cx f cX10_copy 7 RX10 wsX10_copy rm_X10_copy) (hG : shM g) (hR : RtI f cX10_copy (fun r u => u.1 = g ∧ Post r u.2))  : ∀  (I : Mm) , wp_X10_copy_38   Post  I → PW f 0 0 g I 38 [(0, .ref (gA g 100))] [] := by
  intro  I  hw
  unfold wp_X10_copy_38 at hw
  refine r_aload_n hC dX10_copy_38 rfl rfl (j := 0) rfl ?_
  refine r_iconst hC (v := (1 : Int32)) dX10_copy_39 rfl (by decide) ?_
  refine r_callI hC (a_V hC (k := 10) (c_X10_failed hG hw) ci_X10_failed gX10_copy_X10_failed rfl ⟨Nat.le_of_ble_eq_true rfl, Nat.le_of_ble_eq_true rfl⟩ ⟨Nat.le_of_ble_eq_true rfl, Nat.le_of_ble_eq_true rfl⟩ rfl (by decide) hG.o.1 (List.mem_singleton.mp hG.o.2) rfl rfl (Nat.le_of_ble_eq_true rfl) dX10_copy_40) ⟨rfl, rfl⟩ rfl (fun r13 J14 hw => ?_)
  exact r_retI hC hR ⟨rfl, rfl⟩ dX10_copy_43 hw
set_option maxRecDepth 100000 in
set_option maxHeartbeats 4000000 in
theorem t_X10_copy_98 {f : Fx} {g : Gm}  {Post : Int32 → Mm → Prop}  (hC : Cx f cX10_copy 7 RX10 wsX10_copy rm_X10_copy) (hG : shM g) (hR : RtI f cX10_copy (fun r u => u.1 = g ∧ Post r u.2))  : ∀  (I : Mm) , wp_X10_copy_98   Post  I → PW f 0 0 g I 98 [(0, .ref (gA g 100))] [] := by
  intro  I  hw
  unfold wp_X10_copy_98 at hw
  refine r_aload_n hC dX10_copy_98 rfl rfl (j := 0) rfl ?_
  refine r_iconst hC (v := (3 : Int32)) dX10_copy_99 rfl (by decide) ?_
  refine r_callI hC (a_V hC (k := 10) (c_X10_failed hG hw) ci_X10_failed gX10_copy_X10_failed rfl ⟨Nat.le_of_ble_eq_true rfl, Nat.le_of_ble_eq_true rfl⟩ ⟨Nat.le_of_ble_eq_true rfl, Nat.le_of_ble_eq_true rfl⟩ rfl (by decide) hG.o.1 (List.mem_singleton.mp hG.o.2) rfl rfl (Nat.le_of_ble_eq_true rfl) dX10_copy_100) ⟨rfl, rfl⟩ rfl (fun r15 J16 hw => ?_)
  exact r_retI hC hR ⟨rfl, rfl⟩ dX10_copy_103 hw
set_option maxRecDepth 100000 in
set_option maxHeartbeats 4000000 in
theorem t_X10_copy_107 {f : Fx} {g : Gm}  {Post : Int32 → Mm → Prop} {K141 : Int32 → Int32 → Int32 → Mm → Prop} (hC : Cx f cX10_copy 7 RX10 wsX10_copy rm_X10_copy) (hG : shM g) (hR : RtI f cX10_copy (fun r u => u.1 = g ∧ Post r u.2)) (hK141 : ∀ (x3 : Int32) (x4 : Int32) (x5 : Int32) (I : Mm) , K141 x3 x4 x5 I → PW f 0 0 g I 141 [(0, .ref (gA g 100)), (3, .int x3), (4, .int x4), (5, .int x5)] []) : ∀ (nn107 : Nat) (x1 : Int32) (x2 : Int32) (x3 : Int32) (x4 : Int32) (x5 : Int32) (x6 : Int32) (I : Mm) , wp_X10_copy_107  K141 Post nn107 x1 x2 x3 x4 x5 x6 I → PW f 0 0 g I 107 [(0, .ref (gA g 100)), (1, .int x1), (2, .int x2), (3, .int x3), (4, .int x4), (5, .int x5), (6, .int x6)] [] := by
  intro nn107
  induction nn107 with
  | zero =>
    intro x1 x2 x3 x4 x5 x6 I  hw
    exact absurd hw id
  | succ nn107 ih =>
    intro x1 x2 x3 x4 x5 x6 I  hw
    unfold wp_X10_copy_107 at hw
    refine r_iload hC dX10_copy_107 rfl (j := 6) rfl ?_
    refine r_iload hC dX10_copy_109 rfl (j := 5) rfl ?_
    refine r_icmp_ge hC (tgt := 141) dX10_copy_111 rfl (by decide) hw (fun hw => ?_) (fun hw => ?_)
    · exact r_sub (lv' := [(0, .ref (gA g 100)), (3, .int x3), (4, .int x4), (5, .int x5)]) [0, 3, 4, 5] rfl (hK141 _ _ _ _ hw)
    · refine r_aload_n hC dX10_copy_114 rfl rfl (j := 0) rfl ?_
      refine r_getR hC dX10_copy_115 rfl hG.o.1 hG.o.2 ffg_X10_copy_55 hG.a28.2 ?_
      refine r_iload hC dX10_copy_118 rfl (j := 6) rfl ?_
      refine r_aload_n hC dX10_copy_120 rfl rfl (j := 0) rfl ?_
      refine r_getR hC dX10_copy_121 rfl hG.o.1 hG.o.2 ffg_X10_copy_52 hG.a27.2 ?_
      refine r_bipush hC (v := (60 : Int32)) dX10_copy_124 rfl (by decide) ?_
      refine r_iload_n hC dX10_copy_126 rfl rfl (j := 1) rfl ?_
      refine r_imul hC dX10_copy_127 rfl ?_
      refine r_iload_n hC dX10_copy_128 rfl rfl (j := 2) rfl ?_
      refine r_iadd hC dX10_copy_129 rfl ?_
      refine r_iload hC dX10_copy_130 rfl (j := 6) rfl ?_
      refine r_iadd hC dX10_copy_132 rfl ?_
      obtain ⟨hi, hw⟩ := hw
      refine r_iald hC dX10_copy_133 rfl (hG.a27.1).1 (hG.a27.1).2.1 (by rw [(hG.a27.1).2.2]; exact hi) ?_
      obtain ⟨hi, hw⟩ := hw
      refine r_iast hC dX10_copy_134 rfl (hG.a28.1).1 (hG.a28.1).2.1 (by rw [(hG.a28.1).2.2]; exact hi) ?_
      refine r_iinc hC (k := 1) (lv' := [(6, .int (x6 + 1)), (0, .ref (gA g 100)), (1, .int x1), (2, .int x2), (3, .int x3), (4, .int x4), (5, .int x5)]) dX10_copy_135 rfl (j := 6) rfl (by decide) (by decide) rfl ?_
      refine r_goto hC (tgt := 107) dX10_copy_138 (by decide) ?_
      exact r_sub (lv' := [(0, .ref (gA g 100)), (1, .int x1), (2, .int x2), (3, .int x3), (4, .int x4), (5, .int x5), (6, .int (x6 + 1))]) [1, 2, 3, 4, 5, 6, 0] rfl (ih _ _ _ _ _ _ _ hw)
set_option maxRecDepth 100000 in
set_option maxHeartbeats 4000000 in
theorem t_X10_copy_144 {f : Fx} {g : Gm}  {Post : Int32 → Mm → Prop} {K179 : Int32 → Mm → Prop} (hC : Cx f cX10_copy 7 RX10 wsX10_copy rm_X10_copy) (hG : shM g) (hR : RtI f cX10_copy (fun r u => u.1 = g ∧ Post r u.2)) (hK179 : ∀ (x5 : Int32) (I : Mm) , K179 x5 I → PW f 0 0 g I 179 [(0, .ref (gA g 100)), (5, .int x5)] []) : ∀ (nn144 : Nat) (x3 : Int32) (x4 : Int32) (x5 : Int32) (x6 : Int32) (I : Mm) , wp_X10_copy_144  K179 Post nn144 x3 x4 x5 x6 I → PW f 0 0 g I 144 [(0, .ref (gA g 100)), (3, .int x3), (4, .int x4), (5, .int x5), (6, .int x6)] [] := by
  intro nn144
  induction nn144 with
  | zero =>
    intro x3 x4 x5 x6 I  hw
    exact absurd hw id
  | succ nn144 ih =>
    intro x3 x4 x5 x6 I  hw
    unfold wp_X10_copy_144 at hw
    refine r_iload hC dX10_copy_144 rfl (j := 4) rfl ?_
    refine r_iload hC dX10_copy_146 rfl (j := 3) rfl ?_
    refine r_icmp_ge hC (tgt := 179) dX10_copy_148 rfl (by decide) hw (fun hw => ?_) (fun hw => ?_)
    · exact r_sub (lv' := [(0, .ref (gA g 100)), (5, .int x5)]) [0, 3] rfl (hK179 _ _ hw)
    · refine r_aload_n hC dX10_copy_151 rfl rfl (j := 0) rfl ?_
      refine r_getR hC dX10_copy_152 rfl hG.o.1 hG.o.2 ffg_X10_copy_52 hG.a27.2 ?_
      refine r_bipush hC (v := (60 : Int32)) dX10_copy_155 rfl (by decide) ?_
      refine r_iload_n hC dX10_copy_157 rfl rfl (j := 1) rfl ?_
      refine r_imul hC dX10_copy_158 rfl ?_
      refine r_iload hC dX10_copy_159 rfl (j := 2) rfl ?_
      refine r_iadd hC dX10_copy_161 rfl ?_
      refine r_iload hC dX10_copy_162 rfl (j := 4) rfl ?_
      refine r_iadd hC dX10_copy_164 rfl ?_
      refine r_aload_n hC dX10_copy_165 rfl rfl (j := 0) rfl ?_
      refine r_getR hC dX10_copy_166 rfl hG.o.1 hG.o.2 ffg_X10_copy_55 hG.a28.2 ?_
      refine r_iload hC dX10_copy_169 rfl (j := 4) rfl ?_
      obtain ⟨hi, hw⟩ := hw
      refine r_iald hC dX10_copy_171 rfl (hG.a28.1).1 (hG.a28.1).2.1 (by rw [(hG.a28.1).2.2]; exact hi) ?_
      obtain ⟨hi, hw⟩ := hw
      refine r_iast hC dX10_copy_172 rfl (hG.a27.1).1 (hG.a27.1).2.1 (by rw [(hG.a27.1).2.2]; exact hi) ?_
      refine r_iinc hC (k := 1) (lv' := [(6, .int (x6 + 1)), (0, .ref (gA g 100)), (3, .int x3), (4, .int x4), (5, .int x5)]) dX10_copy_173 rfl (j := 4) rfl (by decide) (by decide) rfl ?_
      refine r_goto hC (tgt := 144) dX10_copy_176 (by decide) ?_
      exact r_sub (lv' := [(0, .ref (gA g 100)), (3, .int x3), (4, .int x4), (5, .int x5), (6, .int (x6 + 1))]) [1, 2, 3, 4, 0] rfl (ih _ _ _ _ _ hw)
set_option maxRecDepth 100000 in
set_option maxHeartbeats 4000000 in
theorem t_X10_copy_179 {f : Fx} {g : Gm}  {Post : Int32 → Mm → Prop}  (hC : Cx f cX10_copy 7 RX10 wsX10_copy rm_X10_copy) (hG : shM g) (hR : RtI f cX10_copy (fun r u => u.1 = g ∧ Post r u.2))  : ∀ (x5 : Int32) (I : Mm) , wp_X10_copy_179   Post x5 I → PW f 0 0 g I 179 [(0, .ref (gA g 100)), (5, .int x5)] [] := by
  intro x5 I  hw
  unfold wp_X10_copy_179 at hw
  refine r_aload_n hC dX10_copy_179 rfl rfl (j := 0) rfl ?_
  refine r_iload hC dX10_copy_180 rfl (j := 1) rfl ?_
  refine r_callI hC (a_V hC (k := 10) (c_X10_refused hG hw) ci_X10_refused gX10_copy_X10_refused rfl ⟨Nat.le_of_ble_eq_true rfl, Nat.le_of_ble_eq_true rfl⟩ ⟨Nat.le_of_ble_eq_true rfl, Nat.le_of_ble_eq_true rfl⟩ rfl (by decide) hG.o.1 (List.mem_singleton.mp hG.o.2) rfl rfl (Nat.le_of_ble_eq_true rfl) dX10_copy_182) ⟨rfl, rfl⟩ rfl (fun r17 J18 hw => ?_)
  exact r_retI hC hR ⟨rfl, rfl⟩ dX10_copy_185 hw
set_option maxRecDepth 100000 in
set_option maxHeartbeats 4000000 in
theorem t_X10_copy_141 {f : Fx} {g : Gm}  {Post : Int32 → Mm → Prop}  (hC : Cx f cX10_copy 7 RX10 wsX10_copy rm_X10_copy) (hG : shM g) (hR : RtI f cX10_copy (fun r u => u.1 = g ∧ Post r u.2))  : ∀ (x3 : Int32) (x4 : Int32) (x5 : Int32) (I : Mm) , wp_X10_copy_141   Post x3 x4 x5 I → PW f 0 0 g I 141 [(0, .ref (gA g 100)), (3, .int x3), (4, .int x4), (5, .int x5)] [] := by
  intro x3 x4 x5 I  hw
  unfold wp_X10_copy_141 at hw
  refine r_iconst hC (v := (0 : Int32)) dX10_copy_141 rfl (by decide) ?_
  refine r_istore hC (lv' := [(6, .int (0 : Int32)), (0, .ref (gA g 100)), (3, .int x3), (4, .int x4), (5, .int x5)]) dX10_copy_142 rfl (by decide) rfl ?_
  obtain ⟨nn144, hw⟩ := hw
  exact r_sub (lv' := [(0, .ref (gA g 100)), (3, .int x3), (4, .int x4), (5, .int x5), (6, .int (0 : Int32))]) [1, 2, 3, 4, 0] rfl ((t_X10_copy_144 hC hG hR (fun x5 I  hw => t_X10_copy_179 hC hG hR _ _ hw) nn144 _ _ _ _ _ hw))
set_option maxRecDepth 100000 in
set_option maxHeartbeats 4000000 in
theorem t_X10_copy_0 {f : Fx} {g : Gm}  {Post : Int32 → Mm → Prop} {x1 : Int32} {x2 : Int32} {x3 : Int32} {x4 : Int32} {x5 : Int32} {I : Mm} (hC : Cx f cX10_copy 7 RX10 wsX10_copy rm_X10_copy) (hG : shM g) (hR : RtI f cX10_copy (fun r u => u.1 = g ∧ Post r u.2)) (hw : wp_X10_copy  x1 x2 x3 x4 x5 I Post) : PW f 0 0 g I 0 [(0, .ref (gA g 100)), (1, .int x1), (2, .int x2), (3, .int x3), (4, .int x4), (5, .int x5)] [] := by
  unfold wp_X10_copy at hw
  refine r_iload_n hC dX10_copy_0 rfl rfl (j := 1) rfl ?_
  refine r_callI hC (a_S hC (c_X10_noSheet  hw) ci_X10_noSheet gX10_copy_X10_noSheet ⟨Nat.le_of_ble_eq_true rfl, Nat.le_of_ble_eq_true rfl⟩ ⟨Nat.le_of_ble_eq_true rfl, Nat.le_of_ble_eq_true rfl⟩ rfl rfl (Nat.le_of_ble_eq_true rfl) dX10_copy_1) ⟨rfl, rfl⟩ rfl (fun r1 J2 hw => ?_)
  refine r_if_ne hC (tgt := 14) dX10_copy_4 rfl (by decide) hw (fun hw => ?_) (fun hw => ?_)
  · exact r_sub (lv' := [(0, .ref (gA g 100))]) [0] rfl (t_X10_copy_14 hC hG hR _ hw)
  · refine r_iload_n hC dX10_copy_7 rfl rfl (j := 3) rfl ?_
    refine r_callI hC (a_S hC (c_X10_noSheet  hw) ci_X10_noSheet gX10_copy_X10_noSheet ⟨Nat.le_of_ble_eq_true rfl, Nat.le_of_ble_eq_true rfl⟩ ⟨Nat.le_of_ble_eq_true rfl, Nat.le_of_ble_eq_true rfl⟩ rfl rfl (Nat.le_of_ble_eq_true rfl) dX10_copy_8) ⟨rfl, rfl⟩ rfl (fun r3 J4 hw => ?_)
    refine r_if_eq hC (tgt := 20) dX10_copy_11 rfl (by decide) hw (fun hw => ?_) (fun hw => ?_)
    · refine r_aload_n hC dX10_copy_20 rfl rfl (j := 0) rfl ?_
      refine r_getR hC dX10_copy_21 rfl hG.o.1 hG.o.2 ffg_X10_copy_46 hG.a25.2 ?_
      refine r_iload_n hC dX10_copy_24 rfl rfl (j := 1) rfl ?_
      obtain ⟨hi, hw⟩ := hw
      refine r_iald hC dX10_copy_25 rfl (hG.a25.1).1 (hG.a25.1).2.1 (by rw [(hG.a25.1).2.2]; exact hi) ?_
      refine r_if_lt hC (tgt := 38) dX10_copy_26 rfl (by decide) hw (fun hw => ?_) (fun hw => ?_)
      · exact r_sub (lv' := [(0, .ref (gA g 100))]) [0] rfl (t_X10_copy_38 hC hG hR _ hw)
      · refine r_aload_n hC dX10_copy_29 rfl rfl (j := 0) rfl ?_
        refine r_getR hC dX10_copy_30 rfl hG.o.1 hG.o.2 ffg_X10_copy_46 hG.a25.2 ?_
        refine r_iload_n hC dX10_copy_33 rfl rfl (j := 3) rfl ?_
        obtain ⟨hi, hw⟩ := hw
        refine r_iald hC dX10_copy_34 rfl (hG.a25.1).1 (hG.a25.1).2.1 (by rw [(hG.a25.1).2.2]; exact hi) ?_
        refine r_if_ge hC (tgt := 44) dX10_copy_35 rfl (by decide) hw (fun hw => ?_) (fun hw => ?_)
        · refine r_aload_n hC dX10_copy_44 rfl rfl (j := 0) rfl ?_
          refine r_getR hC dX10_copy_45 rfl hG.o.1 hG.o.2 ffg_X10_copy_49 hG.a26.2 ?_
          refine r_iload_n hC dX10_copy_48 rfl rfl (j := 1) rfl ?_
          obtain ⟨hi, hw⟩ := hw
          refine r_iald hC dX10_copy_49 rfl (hG.a26.1).1 (hG.a26.1).2.1 (by rw [(hG.a26.1).2.2]; exact hi) ?_
          refine r_aload_n hC dX10_copy_50 rfl rfl (j := 0) rfl ?_
          refine r_getR hC dX10_copy_51 rfl hG.o.1 hG.o.2 ffg_X10_copy_49 hG.a26.2 ?_
          refine r_iload_n hC dX10_copy_54 rfl rfl (j := 3) rfl ?_
          obtain ⟨hi, hw⟩ := hw
          refine r_iald hC dX10_copy_55 rfl (hG.a26.1).1 (hG.a26.1).2.1 (by rw [(hG.a26.1).2.2]; exact hi) ?_
          refine r_icmp_eq hC (tgt := 65) dX10_copy_56 rfl (by decide) hw (fun hw => ?_) (fun hw => ?_)
          · refine r_iload_n hC dX10_copy_65 rfl rfl (j := 2) rfl ?_
            refine r_iload hC dX10_copy_66 rfl (j := 5) rfl ?_
            refine r_i2l hC dX10_copy_68 rfl ?_
            refine r_aload_n hC dX10_copy_69 rfl rfl (j := 0) rfl ?_
            refine r_getR hC dX10_copy_70 rfl hG.o.1 hG.o.2 ffg_X10_copy_46 hG.a25.2 ?_
            refine r_iload_n hC dX10_copy_73 rfl rfl (j := 1) rfl ?_
            obtain ⟨hi, hw⟩ := hw
            refine r_iald hC dX10_copy_74 rfl (hG.a25.1).1 (hG.a25.1).2.1 (by rw [(hG.a25.1).2.2]; exact hi) ?_
            refine r_callI hC (a_S hC (c_X10_isBeyond  hw) ci_X10_isBeyond gX10_copy_X10_isBeyond ⟨Nat.le_of_ble_eq_true rfl, Nat.le_of_ble_eq_true rfl⟩ ⟨Nat.le_of_ble_eq_true rfl, Nat.le_of_ble_eq_true rfl⟩ rfl rfl (Nat.le_of_ble_eq_true rfl) dX10_copy_75) ⟨rfl, rfl⟩ rfl (fun r5 J6 hw => ?_)
            refine r_if_ne hC (tgt := 98) dX10_copy_78 rfl (by decide) hw (fun hw => ?_) (fun hw => ?_)
            · exact r_sub (lv' := [(0, .ref (gA g 100))]) [0] rfl (t_X10_copy_98 hC hG hR _ hw)
            · refine r_iload hC dX10_copy_81 rfl (j := 4) rfl ?_
              refine r_iload hC dX10_copy_83 rfl (j := 5) rfl ?_
              refine r_i2l hC dX10_copy_85 rfl ?_
              refine r_aload_n hC dX10_copy_86 rfl rfl (j := 0) rfl ?_
              refine r_getR hC dX10_copy_87 rfl hG.o.1 hG.o.2 ffg_X10_copy_46 hG.a25.2 ?_
              refine r_iload_n hC dX10_copy_90 rfl rfl (j := 3) rfl ?_
              obtain ⟨hi, hw⟩ := hw
              refine r_iald hC dX10_copy_91 rfl (hG.a25.1).1 (hG.a25.1).2.1 (by rw [(hG.a25.1).2.2]; exact hi) ?_
              refine r_callI hC (a_S hC (c_X10_isBeyond  hw) ci_X10_isBeyond gX10_copy_X10_isBeyond ⟨Nat.le_of_ble_eq_true rfl, Nat.le_of_ble_eq_true rfl⟩ ⟨Nat.le_of_ble_eq_true rfl, Nat.le_of_ble_eq_true rfl⟩ rfl rfl (Nat.le_of_ble_eq_true rfl) dX10_copy_92) ⟨rfl, rfl⟩ rfl (fun r7 J8 hw => ?_)
              refine r_if_eq hC (tgt := 104) dX10_copy_95 rfl (by decide) hw (fun hw => ?_) (fun hw => ?_)
              · refine r_iconst hC (v := (0 : Int32)) dX10_copy_104 rfl (by decide) ?_
                refine r_istore hC (lv' := [(6, .int (0 : Int32)), (0, .ref (gA g 100)), (1, .int x1), (2, .int x2), (3, .int x3), (4, .int x4), (5, .int x5)]) dX10_copy_105 rfl (by decide) rfl ?_
                obtain ⟨nn107, hw⟩ := hw
                exact r_sub (lv' := [(0, .ref (gA g 100)), (1, .int x1), (2, .int x2), (3, .int x3), (4, .int x4), (5, .int x5), (6, .int (0 : Int32))]) [1, 2, 3, 4, 5, 6, 0] rfl ((t_X10_copy_107 hC hG hR (fun x3 x4 x5 I  hw => t_X10_copy_141 hC hG hR _ _ _ _ hw) nn107 _ _ _ _ _ _ _ hw))
              · exact r_sub (lv' := [(0, .ref (gA g 100))]) [0] rfl (t_X10_copy_98 hC hG hR _ hw)
          · refine r_aload_n hC dX10_copy_59 rfl rfl (j := 0) rfl ?_
            refine r_iconst hC (v := (2 : Int32)) dX10_copy_60 rfl (by decide) ?_
            refine r_callI hC (a_V hC (k := 10) (c_X10_failed hG hw) ci_X10_failed gX10_copy_X10_failed rfl ⟨Nat.le_of_ble_eq_true rfl, Nat.le_of_ble_eq_true rfl⟩ ⟨Nat.le_of_ble_eq_true rfl, Nat.le_of_ble_eq_true rfl⟩ rfl (by decide) hG.o.1 (List.mem_singleton.mp hG.o.2) rfl rfl (Nat.le_of_ble_eq_true rfl) dX10_copy_61) ⟨rfl, rfl⟩ rfl (fun r9 J10 hw => ?_)
            exact r_retI hC hR ⟨rfl, rfl⟩ dX10_copy_64 hw
        · exact r_sub (lv' := [(0, .ref (gA g 100))]) [0] rfl (t_X10_copy_38 hC hG hR _ hw)
    · exact r_sub (lv' := [(0, .ref (gA g 100))]) [0] rfl (t_X10_copy_14 hC hG hR _ hw)
set_option maxRecDepth 100000 in
theorem c_X10_copy {l : Launch} {x : Gx} {g : Gm}  {x1 : Int32} {x2 : Int32} {x3 : Int32} {x4 : Int32} {x5 : Int32} {I : Mm} {Post : Int32 → Mm → Prop} (hG : shM g) (hw : wp_X10_copy  x1 x2 x3 x4 x5 I Post) : KI l x yX10_copy wsX10_copy rm_X10_copy g I [.ref (gA g 100), .int x1, .int x2, .int x3, .int x4, .int x5] (fun r u => u.1 = g ∧ Post r u.2) := KI_of (by decide) rfl rfl (Nat.le_of_ble_eq_true rfl) (fun f hC _ _ hR => t_X10_copy_0 hC hG hR hw)

/-! X10_traced -/
abbrev rm_X10_traced : Room := { frames := 0, cells := 0, slots := 0, locals := 0 }
theorem ci_X10_traced : CI yX10_traced wsX10_traced cX10_traced 2 none 1 := ⟨⟨_, rfl⟩, by decide, by decide, by decide +kernel⟩
def wp_X10_traced  (x1 : Int32) (I : Mm) (Post : Mm → Prop) : Prop := Post (up2 I 100 29 (((31 : Int32) * (I 100 29)) + x1))
set_option maxRecDepth 20000 in
theorem uw_X10_traced_10 : ∀ w ∈ u_ws RX10 TX10 30, w ∈ wsX10_traced := by decide +kernel
set_option maxRecDepth 20000 in
theorem ffg_X10_traced_245 : ∀ k ∈ ([10] : List Nat), FF wsX10_traced RX10 245 k 29 ∧ fR k 29 = false := List.forall_mem_cons.mpr ⟨⟨⟨RX10, TX10, 30, "PageDesksModel", rfl, rfl, by decide, by decide, uw_X10_traced_10, (List.mem_of_getElem? (i := 1) rfl), Or.inl rfl⟩, rfl⟩, fun _ h => absurd h List.not_mem_nil⟩
set_option maxRecDepth 20000 in
theorem ffp_X10_traced_245 : ∀ k ∈ ([10] : List Nat), FF wsX10_traced RX10 245 k 29 ∧ fR k 29 = false ∧ FP k 29 := List.forall_mem_cons.mpr ⟨⟨⟨RX10, TX10, 30, "PageDesksModel", rfl, rfl, by decide, by decide, uw_X10_traced_10, (List.mem_of_getElem? (i := 1) rfl), Or.inl rfl⟩, rfl, ⟨RX10, TX10, 30, tyX10, rfl, tyX10_ok, nmX10, rfl, rfl⟩⟩, fun _ h => absurd h List.not_mem_nil⟩
set_option maxRecDepth 100000 in
set_option maxHeartbeats 4000000 in
theorem t_X10_traced_0 {f : Fx} {g : Gm}  {Post : Mm → Prop} {x1 : Int32} {I : Mm} (hC : Cx f cX10_traced 2 RX10 wsX10_traced rm_X10_traced) (hG : shM g) (hR : RtV f cX10_traced (fun u => u.1 = g ∧ Post u.2)) (hw : wp_X10_traced  x1 I Post) : PW f 0 0 g I 0 [(0, .ref (gA g 100)), (1, .int x1)] [] := by
  unfold wp_X10_traced at hw
  refine r_aload_n hC dX10_traced_0 rfl rfl (j := 0) rfl ?_
  refine r_bipush hC (v := (31 : Int32)) dX10_traced_1 rfl (by decide) ?_
  refine r_aload_n hC dX10_traced_3 rfl rfl (j := 0) rfl ?_
  refine r_getI hC dX10_traced_4 rfl hG.o.1 hG.o.2 ffg_X10_traced_245 ?_
  refine r_imul hC dX10_traced_7 rfl ?_
  refine r_iload_n hC dX10_traced_8 rfl rfl (j := 1) rfl ?_
  refine r_iadd hC dX10_traced_9 rfl ?_
  refine r_putI hC dX10_traced_10 rfl hG.o.1 hG.o.2 ffp_X10_traced_245 ?_
  exact r_retV hC hR ⟨rfl, rfl⟩ dX10_traced_13 hw
set_option maxRecDepth 100000 in
theorem c_X10_traced {l : Launch} {x : Gx} {g : Gm}  {x1 : Int32} {I : Mm} {Post : Mm → Prop} (hG : shM g) (hw : wp_X10_traced  x1 I Post) : KV l x yX10_traced wsX10_traced rm_X10_traced g I [.ref (gA g 100), .int x1] (fun u => u.1 = g ∧ Post u.2) := KV_of (by decide) rfl rfl (Nat.le_of_ble_eq_true rfl) (fun f hC _ _ hR => t_X10_traced_0 hC hG hR hw)

/-! X10_tell -/
abbrev rm_X10_tell : Room := { frames := 2, cells := 0, slots := 0, locals := 46 }
theorem ci_X10_tell : CI yX10_tell wsX10_tell cX10_tell 4 (some .int) 1 := ⟨⟨_, rfl⟩, by decide, by decide, by decide +kernel⟩
def wp_X10_tell_51   (Post : Int32 → Mm → Prop) (x1 : Int32) (x2 : Int32) (I : Mm) : Prop := vp_in x1 4 ∧ (if x2 = 0 then (Post (I 105 x1.toNatClampNeg) I) else (if x2 = (1 : Int32) then (Post ((I 105 x1.toNatClampNeg) + (100 : Int32)) I) else (Post (((2 : Int32) * (I 105 x1.toNatClampNeg)) + (100 : Int32)) I)))
def wp_X10_tell_36   (Post : Int32 → Mm → Prop) (x1 : Int32) (x2 : Int32) (I : Mm) : Prop := wp_X10_traced (1 : Int32) I (fun J8 => if x2 = (2 : Int32) then (wp_X10_traced (1 : Int32) J8 (fun J10 => wp_X10_tell_51  Post x1 x2 J10)) else (wp_X10_tell_51  Post x1 x2 J8))
def wp_X10_tell_27   (Post : Int32 → Mm → Prop) (x1 : Int32) (x2 : Int32) (I : Mm) : Prop := if x2 ≤ 0 then (wp_X10_tell_36  Post x1 x2 I) else (wp_X10_traced (2 : Int32) I (fun J6 => wp_X10_tell_36  Post x1 x2 J6))
def wp_X10_tell  (x1 : Int32) (I : Mm) (Post : Int32 → Mm → Prop) : Prop := wp_X10_noDesk x1 I (fun r1 J2 => if r1 = 0 then (vp_in x1 4 ∧ (if (J2 104 x1.toNatClampNeg) = (2 : Int32) then (wp_X10_traced (3 : Int32) J2 (fun J4 => wp_X10_tell_27  Post x1 (J2 104 x1.toNatClampNeg) J4)) else (wp_X10_tell_27  Post x1 (J2 104 x1.toNatClampNeg) J2))) else (Post (-1 : Int32) J2))
set_option maxRecDepth 20000 in
theorem uw_X10_tell_10 : ∀ w ∈ u_ws RX10 TX10 30, w ∈ wsX10_tell := by decide +kernel
set_option maxRecDepth 20000 in
theorem ffg_X10_tell_7 : ∀ k ∈ ([10] : List Nat), FF wsX10_tell RX10 7 k 4 ∧ fR k 4 = true := List.forall_mem_cons.mpr ⟨⟨⟨RX10, TX10, 30, "PageDesksModel", rfl, rfl, by decide, by decide, uw_X10_tell_10, (List.mem_of_getElem? (i := 1) rfl), Or.inl rfl⟩, rfl⟩, fun _ h => absurd h List.not_mem_nil⟩
set_option maxRecDepth 20000 in
theorem ffg_X10_tell_13 : ∀ k ∈ ([10] : List Nat), FF wsX10_tell RX10 13 k 5 ∧ fR k 5 = true := List.forall_mem_cons.mpr ⟨⟨⟨RX10, TX10, 30, "PageDesksModel", rfl, rfl, by decide, by decide, uw_X10_tell_10, (List.mem_of_getElem? (i := 2) rfl), Or.inl rfl⟩, rfl⟩, fun _ h => absurd h List.not_mem_nil⟩
set_option maxRecDepth 100000 in
set_option maxHeartbeats 4000000 in
theorem t_X10_tell_51 {f : Fx} {g : Gm}  {Post : Int32 → Mm → Prop}  (hC : Cx f cX10_tell 4 RX10 wsX10_tell rm_X10_tell) (hG : shM g) (hR : RtI f cX10_tell (fun r u => u.1 = g ∧ Post r u.2))  : ∀ (x1 : Int32) (x2 : Int32) (I : Mm) , wp_X10_tell_51   Post x1 x2 I → PW f 0 0 g I 51 [(0, .ref (gA g 100)), (1, .int x1), (2, .int x2)] [] := by
  intro x1 x2 I  hw
  unfold wp_X10_tell_51 at hw
  refine r_aload_n hC dX10_tell_51 rfl rfl (j := 0) rfl ?_
  refine r_getR hC dX10_tell_52 rfl hG.o.1 hG.o.2 ffg_X10_tell_13 hG.a5.2 ?_
  refine r_iload_n hC dX10_tell_55 rfl rfl (j := 1) rfl ?_
  obtain ⟨hi, hw⟩ := hw
  refine r_iald hC dX10_tell_56 rfl (hG.a5.1).1 (hG.a5.1).2.1 (by rw [(hG.a5.1).2.2]; exact hi) ?_
  refine r_istore_n hC (lv' := [(3, .int (I 105 x1.toNatClampNeg)), (0, .ref (gA g 100)), (1, .int x1), (2, .int x2)]) dX10_tell_57 rfl rfl (by decide) rfl ?_
  refine r_iload_n hC dX10_tell_58 rfl rfl (j := 3) rfl ?_
  refine r_if_ne hC (tgt := 66) dX10_tell_59 rfl (by decide) hw (fun hw => ?_) (fun hw => ?_)
  · refine r_iload_n hC dX10_tell_66 rfl rfl (j := 3) rfl ?_
    refine r_iconst hC (v := (1 : Int32)) dX10_tell_67 rfl (by decide) ?_
    refine r_icmp_ne hC (tgt := 78) dX10_tell_68 rfl (by decide) hw (fun hw => ?_) (fun hw => ?_)
    · refine r_iconst hC (v := (2 : Int32)) dX10_tell_78 rfl (by decide) ?_
      refine r_iload_n hC dX10_tell_79 rfl rfl (j := 0) rfl ?_
      refine r_imul hC dX10_tell_80 rfl ?_
      refine r_bipush hC (v := (100 : Int32)) dX10_tell_81 rfl (by decide) ?_
      refine r_iadd hC dX10_tell_83 rfl ?_
      exact r_retI hC hR ⟨rfl, rfl⟩ dX10_tell_84 hw
    · refine r_iload_n hC dX10_tell_71 rfl rfl (j := 0) rfl ?_
      refine r_bipush hC (v := (100 : Int32)) dX10_tell_72 rfl (by decide) ?_
      refine r_iadd hC dX10_tell_74 rfl ?_
      refine r_goto hC (tgt := 84) dX10_tell_75 (by decide) ?_
      exact r_retI hC hR ⟨rfl, rfl⟩ dX10_tell_84 hw
  · refine r_iload_n hC dX10_tell_62 rfl rfl (j := 0) rfl ?_
    refine r_goto hC (tgt := 84) dX10_tell_63 (by decide) ?_
    exact r_retI hC hR ⟨rfl, rfl⟩ dX10_tell_84 hw
set_option maxRecDepth 100000 in
set_option maxHeartbeats 4000000 in
theorem t_X10_tell_36 {f : Fx} {g : Gm}  {Post : Int32 → Mm → Prop}  (hC : Cx f cX10_tell 4 RX10 wsX10_tell rm_X10_tell) (hG : shM g) (hR : RtI f cX10_tell (fun r u => u.1 = g ∧ Post r u.2))  : ∀ (x1 : Int32) (x2 : Int32) (I : Mm) , wp_X10_tell_36   Post x1 x2 I → PW f 0 0 g I 36 [(0, .ref (gA g 100)), (1, .int x1), (2, .int x2)] [] := by
  intro x1 x2 I  hw
  unfold wp_X10_tell_36 at hw
  refine r_aload_n hC dX10_tell_36 rfl rfl (j := 0) rfl ?_
  refine r_iconst hC (v := (1 : Int32)) dX10_tell_37 rfl (by decide) ?_
  refine r_callV hC (a_V hC (k := 10) (c_X10_traced hG hw) ci_X10_traced gX10_tell_X10_traced rfl ⟨Nat.le_of_ble_eq_true rfl, Nat.le_of_ble_eq_true rfl⟩ ⟨Nat.le_of_ble_eq_true rfl, Nat.le_of_ble_eq_true rfl⟩ rfl (by decide) hG.o.1 (List.mem_singleton.mp hG.o.2) rfl rfl (Nat.le_of_ble_eq_true rfl) dX10_tell_38) ⟨rfl, rfl⟩ rfl (fun J8 hw => ?_)
  refine r_iload_n hC dX10_tell_41 rfl rfl (j := 2) rfl ?_
  refine r_iconst hC (v := (2 : Int32)) dX10_tell_42 rfl (by decide) ?_
  refine r_icmp_ne hC (tgt := 51) dX10_tell_43 rfl (by decide) hw (fun hw => ?_) (fun hw => ?_)
  · exact r_sub (lv' := [(0, .ref (gA g 100)), (1, .int x1), (2, .int x2)]) [0, 1, 2] rfl (t_X10_tell_51 hC hG hR _ _ _ hw)
  · refine r_aload_n hC dX10_tell_46 rfl rfl (j := 0) rfl ?_
    refine r_iconst hC (v := (1 : Int32)) dX10_tell_47 rfl (by decide) ?_
    refine r_callV hC (a_V hC (k := 10) (c_X10_traced hG hw) ci_X10_traced gX10_tell_X10_traced rfl ⟨Nat.le_of_ble_eq_true rfl, Nat.le_of_ble_eq_true rfl⟩ ⟨Nat.le_of_ble_eq_true rfl, Nat.le_of_ble_eq_true rfl⟩ rfl (by decide) hG.o.1 (List.mem_singleton.mp hG.o.2) rfl rfl (Nat.le_of_ble_eq_true rfl) dX10_tell_48) ⟨rfl, rfl⟩ rfl (fun J10 hw => ?_)
    exact r_sub (lv' := [(0, .ref (gA g 100)), (1, .int x1), (2, .int x2)]) [0, 1, 2] rfl (t_X10_tell_51 hC hG hR _ _ _ hw)
set_option maxRecDepth 100000 in
set_option maxHeartbeats 4000000 in
theorem t_X10_tell_27 {f : Fx} {g : Gm}  {Post : Int32 → Mm → Prop}  (hC : Cx f cX10_tell 4 RX10 wsX10_tell rm_X10_tell) (hG : shM g) (hR : RtI f cX10_tell (fun r u => u.1 = g ∧ Post r u.2))  : ∀ (x1 : Int32) (x2 : Int32) (I : Mm) , wp_X10_tell_27   Post x1 x2 I → PW f 0 0 g I 27 [(0, .ref (gA g 100)), (1, .int x1), (2, .int x2)] [] := by
  intro x1 x2 I  hw
  unfold wp_X10_tell_27 at hw
  refine r_iload_n hC dX10_tell_27 rfl rfl (j := 2) rfl ?_
  refine r_if_le hC (tgt := 36) dX10_tell_28 rfl (by decide) hw (fun hw => ?_) (fun hw => ?_)
  · exact r_sub (lv' := [(0, .ref (gA g 100)), (1, .int x1), (2, .int x2)]) [0, 1, 2] rfl (t_X10_tell_36 hC hG hR _ _ _ hw)
  · refine r_aload_n hC dX10_tell_31 rfl rfl (j := 0) rfl ?_
    refine r_iconst hC (v := (2 : Int32)) dX10_tell_32 rfl (by decide) ?_
    refine r_callV hC (a_V hC (k := 10) (c_X10_traced hG hw) ci_X10_traced gX10_tell_X10_traced rfl ⟨Nat.le_of_ble_eq_true rfl, Nat.le_of_ble_eq_true rfl⟩ ⟨Nat.le_of_ble_eq_true rfl, Nat.le_of_ble_eq_true rfl⟩ rfl (by decide) hG.o.1 (List.mem_singleton.mp hG.o.2) rfl rfl (Nat.le_of_ble_eq_true rfl) dX10_tell_33) ⟨rfl, rfl⟩ rfl (fun J6 hw => ?_)
    exact r_sub (lv' := [(0, .ref (gA g 100)), (1, .int x1), (2, .int x2)]) [0, 1, 2] rfl (t_X10_tell_36 hC hG hR _ _ _ hw)
set_option maxRecDepth 100000 in
set_option maxHeartbeats 4000000 in
theorem t_X10_tell_0 {f : Fx} {g : Gm}  {Post : Int32 → Mm → Prop} {x1 : Int32} {I : Mm} (hC : Cx f cX10_tell 4 RX10 wsX10_tell rm_X10_tell) (hG : shM g) (hR : RtI f cX10_tell (fun r u => u.1 = g ∧ Post r u.2)) (hw : wp_X10_tell  x1 I Post) : PW f 0 0 g I 0 [(0, .ref (gA g 100)), (1, .int x1)] [] := by
  unfold wp_X10_tell at hw
  refine r_aload_n hC dX10_tell_0 rfl rfl (j := 0) rfl ?_
  refine r_iload_n hC dX10_tell_1 rfl rfl (j := 1) rfl ?_
  refine r_callI hC (a_V hC (k := 10) (c_X10_noDesk hG hw) ci_X10_noDesk gX10_tell_X10_noDesk rfl ⟨Nat.le_of_ble_eq_true rfl, Nat.le_of_ble_eq_true rfl⟩ ⟨Nat.le_of_ble_eq_true rfl, Nat.le_of_ble_eq_true rfl⟩ rfl (by decide) hG.o.1 (List.mem_singleton.mp hG.o.2) rfl rfl (Nat.le_of_ble_eq_true rfl) dX10_tell_2) ⟨rfl, rfl⟩ rfl (fun r1 J2 hw => ?_)
  refine r_if_eq hC (tgt := 10) dX10_tell_5 rfl (by decide) hw (fun hw => ?_) (fun hw => ?_)
  · refine r_aload_n hC dX10_tell_10 rfl rfl (j := 0) rfl ?_
    refine r_getR hC dX10_tell_11 rfl hG.o.1 hG.o.2 ffg_X10_tell_7 hG.a4.2 ?_
    refine r_iload_n hC dX10_tell_14 rfl rfl (j := 1) rfl ?_
    obtain ⟨hi, hw⟩ := hw
    refine r_iald hC dX10_tell_15 rfl (hG.a4.1).1 (hG.a4.1).2.1 (by rw [(hG.a4.1).2.2]; exact hi) ?_
    refine r_istore_n hC (lv' := [(2, .int (J2 104 x1.toNatClampNeg)), (0, .ref (gA g 100)), (1, .int x1)]) dX10_tell_16 rfl rfl (by decide) rfl ?_
    refine r_iload_n hC dX10_tell_17 rfl rfl (j := 0) rfl ?_
    refine r_iconst hC (v := (2 : Int32)) dX10_tell_18 rfl (by decide) ?_
    refine r_icmp_ne hC (tgt := 27) dX10_tell_19 rfl (by decide) hw (fun hw => ?_) (fun hw => ?_)
    · exact r_sub (lv' := [(0, .ref (gA g 100)), (1, .int x1), (2, .int (J2 104 x1.toNatClampNeg))]) [1, 2, 0] rfl (t_X10_tell_27 hC hG hR _ _ _ hw)
    · refine r_aload_n hC dX10_tell_22 rfl rfl (j := 1) rfl ?_
      refine r_iconst hC (v := (3 : Int32)) dX10_tell_23 rfl (by decide) ?_
      refine r_callV hC (a_V hC (k := 10) (c_X10_traced hG hw) ci_X10_traced gX10_tell_X10_traced rfl ⟨Nat.le_of_ble_eq_true rfl, Nat.le_of_ble_eq_true rfl⟩ ⟨Nat.le_of_ble_eq_true rfl, Nat.le_of_ble_eq_true rfl⟩ rfl (by decide) hG.o.1 (List.mem_singleton.mp hG.o.2) rfl rfl (Nat.le_of_ble_eq_true rfl) dX10_tell_24) ⟨rfl, rfl⟩ rfl (fun J4 hw => ?_)
      exact r_sub (lv' := [(0, .ref (gA g 100)), (1, .int x1), (2, .int (J2 104 x1.toNatClampNeg))]) [1, 2, 0] rfl (t_X10_tell_27 hC hG hR _ _ _ hw)
  · refine r_iconst hC (v := (-1 : Int32)) dX10_tell_8 rfl (by decide) ?_
    exact r_retI hC hR ⟨rfl, rfl⟩ dX10_tell_9 hw
set_option maxRecDepth 100000 in
theorem c_X10_tell {l : Launch} {x : Gx} {g : Gm}  {x1 : Int32} {I : Mm} {Post : Int32 → Mm → Prop} (hG : shM g) (hw : wp_X10_tell  x1 I Post) : KI l x yX10_tell wsX10_tell rm_X10_tell g I [.ref (gA g 100), .int x1] (fun r u => u.1 = g ∧ Post r u.2) := KI_of (by decide) rfl rfl (Nat.le_of_ble_eq_true rfl) (fun f hC _ _ hR => t_X10_tell_0 hC hG hR hw)

/-! X10_tally -/
abbrev rm_X10_tally : Room := { frames := 5, cells := 0, slots := 0, locals := 111 }
theorem ci_X10_tally : CI yX10_tally wsX10_tally cX10_tally 2 (some .int) 1 := ⟨⟨_, rfl⟩, by decide, by decide, by decide +kernel⟩
def wp_X10_tally_26   (Post : Int32 → Mm → Prop) (x1 : Int32) (s0 : Int32) (I : Mm) : Prop := wp_X10_traced s0 I (fun J4 => wp_X10_playsNow x1 J4 (fun J6 => vp_in x1 4 ∧ (if (J6 104 x1.toNatClampNeg) = (2 : Int32) then (Post (60 : Int32) J6) else (Post (J6 100 17) J6))))
def wp_X10_tally  (x1 : Int32) (I : Mm) (Post : Int32 → Mm → Prop) : Prop := wp_X10_noDesk x1 I (fun r1 J2 => if r1 = 0 then (vp_in x1 4 ∧ (if (J2 104 x1.toNatClampNeg) = (2 : Int32) then (wp_X10_tally_26  Post x1 (5 : Int32) J2) else (wp_X10_tally_26  Post x1 (4 : Int32) J2))) else (Post (-1 : Int32) J2))
set_option maxRecDepth 20000 in
theorem uw_X10_tally_10 : ∀ w ∈ u_ws RX10 TX10 30, w ∈ wsX10_tally := by decide +kernel
set_option maxRecDepth 20000 in
theorem ffg_X10_tally_7 : ∀ k ∈ ([10] : List Nat), FF wsX10_tally RX10 7 k 4 ∧ fR k 4 = true := List.forall_mem_cons.mpr ⟨⟨⟨RX10, TX10, 30, "PageDesksModel", rfl, rfl, by decide, by decide, uw_X10_tally_10, (List.mem_of_getElem? (i := 1) rfl), Or.inl rfl⟩, rfl⟩, fun _ h => absurd h List.not_mem_nil⟩
set_option maxRecDepth 20000 in
theorem ffg_X10_tally_147 : ∀ k ∈ ([10] : List Nat), FF wsX10_tally RX10 147 k 17 ∧ fR k 17 = false := List.forall_mem_cons.mpr ⟨⟨⟨RX10, TX10, 30, "PageDesksModel", rfl, rfl, by decide, by decide, uw_X10_tally_10, (List.mem_of_getElem? (i := 2) rfl), Or.inl rfl⟩, rfl⟩, fun _ h => absurd h List.not_mem_nil⟩
set_option maxRecDepth 100000 in
set_option maxHeartbeats 4000000 in
theorem t_X10_tally_26 {f : Fx} {g : Gm}  {Post : Int32 → Mm → Prop}  (hC : Cx f cX10_tally 2 RX10 wsX10_tally rm_X10_tally) (hG : shM g) (hR : RtI f cX10_tally (fun r u => u.1 = g ∧ Post r u.2))  : ∀ (x1 : Int32) (s0 : Int32) (I : Mm) , wp_X10_tally_26   Post x1 s0 I → PW f 0 0 g I 26 [(0, .ref (gA g 100)), (1, .int x1)] [.int s0, .ref (gA g 100)] := by
  intro x1 s0 I  hw
  unfold wp_X10_tally_26 at hw
  refine r_callV hC (a_V hC (k := 10) (c_X10_traced hG hw) ci_X10_traced gX10_tally_X10_traced rfl ⟨Nat.le_of_ble_eq_true rfl, Nat.le_of_ble_eq_true rfl⟩ ⟨Nat.le_of_ble_eq_true rfl, Nat.le_of_ble_eq_true rfl⟩ rfl (by decide) hG.o.1 (List.mem_singleton.mp hG.o.2) rfl rfl (Nat.le_of_ble_eq_true rfl) dX10_tally_26) ⟨rfl, rfl⟩ rfl (fun J4 hw => ?_)
  refine r_aload_n hC dX10_tally_29 rfl rfl (j := 0) rfl ?_
  refine r_iload_n hC dX10_tally_30 rfl rfl (j := 1) rfl ?_
  refine r_callV hC (a_V hC (k := 10) (c_X10_playsNow hG hw) ci_X10_playsNow gX10_tally_X10_playsNow rfl ⟨Nat.le_of_ble_eq_true rfl, Nat.le_of_ble_eq_true rfl⟩ ⟨Nat.le_of_ble_eq_true rfl, Nat.le_of_ble_eq_true rfl⟩ rfl (by decide) hG.o.1 (List.mem_singleton.mp hG.o.2) rfl rfl (Nat.le_of_ble_eq_true rfl) dX10_tally_31) ⟨rfl, rfl⟩ rfl (fun J6 hw => ?_)
  refine r_aload_n hC dX10_tally_34 rfl rfl (j := 0) rfl ?_
  refine r_getR hC dX10_tally_35 rfl hG.o.1 hG.o.2 ffg_X10_tally_7 hG.a4.2 ?_
  refine r_iload_n hC dX10_tally_38 rfl rfl (j := 1) rfl ?_
  obtain ⟨hi, hw⟩ := hw
  refine r_iald hC dX10_tally_39 rfl (hG.a4.1).1 (hG.a4.1).2.1 (by rw [(hG.a4.1).2.2]; exact hi) ?_
  refine r_iconst hC (v := (2 : Int32)) dX10_tally_40 rfl (by decide) ?_
  refine r_icmp_ne hC (tgt := 49) dX10_tally_41 rfl (by decide) hw (fun hw => ?_) (fun hw => ?_)
  · refine r_aload_n hC dX10_tally_49 rfl rfl (j := 0) rfl ?_
    refine r_getI hC dX10_tally_50 rfl hG.o.1 hG.o.2 ffg_X10_tally_147 ?_
    exact r_retI hC hR ⟨rfl, rfl⟩ dX10_tally_53 hw
  · refine r_bipush hC (v := (60 : Int32)) dX10_tally_44 rfl (by decide) ?_
    refine r_goto hC (tgt := 53) dX10_tally_46 (by decide) ?_
    exact r_retI hC hR ⟨rfl, rfl⟩ dX10_tally_53 hw
set_option maxRecDepth 100000 in
set_option maxHeartbeats 4000000 in
theorem t_X10_tally_0 {f : Fx} {g : Gm}  {Post : Int32 → Mm → Prop} {x1 : Int32} {I : Mm} (hC : Cx f cX10_tally 2 RX10 wsX10_tally rm_X10_tally) (hG : shM g) (hR : RtI f cX10_tally (fun r u => u.1 = g ∧ Post r u.2)) (hw : wp_X10_tally  x1 I Post) : PW f 0 0 g I 0 [(0, .ref (gA g 100)), (1, .int x1)] [] := by
  unfold wp_X10_tally at hw
  refine r_aload_n hC dX10_tally_0 rfl rfl (j := 0) rfl ?_
  refine r_iload_n hC dX10_tally_1 rfl rfl (j := 1) rfl ?_
  refine r_callI hC (a_V hC (k := 10) (c_X10_noDesk hG hw) ci_X10_noDesk gX10_tally_X10_noDesk rfl ⟨Nat.le_of_ble_eq_true rfl, Nat.le_of_ble_eq_true rfl⟩ ⟨Nat.le_of_ble_eq_true rfl, Nat.le_of_ble_eq_true rfl⟩ rfl (by decide) hG.o.1 (List.mem_singleton.mp hG.o.2) rfl rfl (Nat.le_of_ble_eq_true rfl) dX10_tally_2) ⟨rfl, rfl⟩ rfl (fun r1 J2 hw => ?_)
  refine r_if_eq hC (tgt := 10) dX10_tally_5 rfl (by decide) hw (fun hw => ?_) (fun hw => ?_)
  · refine r_aload_n hC dX10_tally_10 rfl rfl (j := 0) rfl ?_
    refine r_aload_n hC dX10_tally_11 rfl rfl (j := 0) rfl ?_
    refine r_getR hC dX10_tally_12 rfl hG.o.1 hG.o.2 ffg_X10_tally_7 hG.a4.2 ?_
    refine r_iload_n hC dX10_tally_15 rfl rfl (j := 1) rfl ?_
    obtain ⟨hi, hw⟩ := hw
    refine r_iald hC dX10_tally_16 rfl (hG.a4.1).1 (hG.a4.1).2.1 (by rw [(hG.a4.1).2.2]; exact hi) ?_
    refine r_iconst hC (v := (2 : Int32)) dX10_tally_17 rfl (by decide) ?_
    refine r_icmp_ne hC (tgt := 25) dX10_tally_18 rfl (by decide) hw (fun hw => ?_) (fun hw => ?_)
    · refine r_iconst hC (v := (4 : Int32)) dX10_tally_25 rfl (by decide) ?_
      exact r_sub (lv' := [(0, .ref (gA g 100)), (1, .int x1)]) [0, 1] rfl (t_X10_tally_26 hC hG hR _ _ _ hw)
    · refine r_iconst hC (v := (5 : Int32)) dX10_tally_21 rfl (by decide) ?_
      refine r_goto hC (tgt := 26) dX10_tally_22 (by decide) ?_
      exact r_sub (lv' := [(0, .ref (gA g 100)), (1, .int x1)]) [0, 1] rfl (t_X10_tally_26 hC hG hR _ _ _ hw)
  · refine r_iconst hC (v := (-1 : Int32)) dX10_tally_8 rfl (by decide) ?_
    exact r_retI hC hR ⟨rfl, rfl⟩ dX10_tally_9 hw
set_option maxRecDepth 100000 in
theorem c_X10_tally {l : Launch} {x : Gx} {g : Gm}  {x1 : Int32} {I : Mm} {Post : Int32 → Mm → Prop} (hG : shM g) (hw : wp_X10_tally  x1 I Post) : KI l x yX10_tally wsX10_tally rm_X10_tally g I [.ref (gA g 100), .int x1] (fun r u => u.1 = g ∧ Post r u.2) := KI_of (by decide) rfl rfl (Nat.le_of_ble_eq_true rfl) (fun f hC _ _ hR => t_X10_tally_0 hC hG hR hw)
