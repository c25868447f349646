/-! X9_isWithin -/
abbrev rm_X9_isWithin : Room := { frames := 0, cells := 0, slots := 0, locals := 0 }
theorem ci_X9_isWithin : CI yX9_isWithin wsX9_isWithin cX9_isWithin 3 (some .boolean) 3 := ⟨⟨_, rfl⟩, by decide, by decide, by decide +kernel⟩
def wp_X9_isWithin  (x0 : Int32) (x1 : Int32) (x2 : Int32) (I : Mm) (Post : Int32 → Mm → Prop) : Prop := if x0 < x1 then (Post (0 : Int32) I) else (if x2 < x0 then (Post (0 : Int32) I) else (Post (1 : Int32) I))

set_option maxRecDepth 100000 in
set_option maxHeartbeats 4000000 in
theorem t_X9_isWithin_0 {f : Fx} {g : Gm}  {Post : Int32 → Mm → Prop} {x0 : Int32} {x1 : Int32} {x2 : Int32} {I : Mm} (hC : Cx f cX9_isWithin 3 RX9 wsX9_isWithin rm_X9_isWithin)  (hR : RtZ f cX9_isWithin (fun r u => u.1 = g ∧ Post r u.2)) (hw : wp_X9_isWithin  x0 x1 x2 I Post) : PW f 0 0 g I 0 [(0, .int x0), (1, .int x1), (2, .int x2)] [] := by
  unfold wp_X9_isWithin at hw
  refine r_iload_n hC dX9_isWithin_0 rfl rfl (j := 0) rfl ?_
  refine r_iload_n hC dX9_isWithin_1 rfl rfl (j := 1) rfl ?_
  refine r_icmp_lt hC (tgt := 14) dX9_isWithin_2 rfl (by decide) hw (fun hw => ?_) (fun hw => ?_)
  · refine r_iconst hC (v := (0 : Int32)) dX9_isWithin_14 rfl (by decide) ?_
    exact r_retZ hC hR ⟨rfl, rfl⟩ dX9_isWithin_15 (by decide) hw
  · refine r_iload_n hC dX9_isWithin_5 rfl rfl (j := 0) rfl ?_
    refine r_iload_n hC dX9_isWithin_6 rfl rfl (j := 2) rfl ?_
    refine r_icmp_gt hC (tgt := 14) dX9_isWithin_7 rfl (by decide) hw (fun hw => ?_) (fun hw => ?_)
    · refine r_iconst hC (v := (0 : Int32)) dX9_isWithin_14 rfl (by decide) ?_
      exact r_retZ hC hR ⟨rfl, rfl⟩ dX9_isWithin_15 (by decide) hw
    · refine r_iconst hC (v := (1 : Int32)) dX9_isWithin_10 rfl (by decide) ?_
      refine r_goto hC (tgt := 15) dX9_isWithin_11 (by decide) ?_
      exact r_retZ hC hR ⟨rfl, rfl⟩ dX9_isWithin_15 (by decide) hw
set_option maxRecDepth 100000 in
theorem c_X9_isWithin {l : Launch} {x : Gx} {g : Gm}  {x0 : Int32} {x1 : Int32} {x2 : Int32} {I : Mm} {Post : Int32 → Mm → Prop}  (hw : wp_X9_isWithin  x0 x1 x2 I Post) : KI l x yX9_isWithin wsX9_isWithin rm_X9_isWithin g I [.int x0, .int x1, .int x2] (fun r u => u.1 = g ∧ Post r u.2) := KZ_of (by decide) rfl rfl (Nat.le_of_ble_eq_true rfl) (fun f hC _ _ hR => t_X9_isWithin_0 hC  hR hw)

/-! X2_has -/
abbrev rm_X2_has : Room := { frames := 1, cells := 0, slots := 0, locals := 22 }
theorem ci_X2_has : CI yX2_has wsX2_has cX2_has 2 (some .boolean) 1 := ⟨⟨_, rfl⟩, by decide, by decide, by decide +kernel⟩
def wp_X2_has  (x1 : Int32) (I : Mm) (Post : Int32 → Mm → Prop) : Prop := wp_X9_isWithin x1 (0 : Int32) ((I 8 1) - (1 : Int32)) I (fun r1 J2 => (r1 = 0 ∨ r1 = 1) ∧ Post r1 J2)
set_option maxRecDepth 20000 in
theorem uw_X2_has_2 : ∀ w ∈ u_ws RX2 TX2 2, w ∈ wsX2_has := by decide +kernel
set_option maxRecDepth 20000 in
theorem ffg_X2_has_21 : ∀ k ∈ ([2] : List Nat), FF wsX2_has RX2 21 k 1 ∧ fR k 1 = false := List.forall_mem_cons.mpr ⟨⟨⟨RX2, TX2, 2, "PageDesks$Line", rfl, rfl, by decide, by decide, uw_X2_has_2, (List.mem_of_getElem? (i := 1) rfl), Or.inl rfl⟩, rfl⟩, fun _ h => absurd h List.not_mem_nil⟩
set_option maxRecDepth 100000 in
set_option maxHeartbeats 4000000 in
theorem t_X2_has_0 {f : Fx} {g : Gm}  {Post : Int32 → Mm → Prop} {x1 : Int32} {I : Mm} (hC : Cx f cX2_has 2 RX2 wsX2_has rm_X2_has) (hG : shN g) (hR : RtZ f cX2_has (fun r u => u.1 = g ∧ Post r u.2)) (hw : wp_X2_has  x1 I Post) : PW f 0 0 g I 0 [(0, .ref (gA g 8)), (1, .int x1)] [] := by
  unfold wp_X2_has at hw
  refine r_iload_n hC dX2_has_0 rfl rfl (j := 1) rfl ?_
  refine r_iconst hC (v := (0 : Int32)) dX2_has_1 rfl (by decide) ?_
  refine r_aload_n hC dX2_has_2 rfl rfl (j := 0) rfl ?_
  refine r_getI hC dX2_has_3 rfl (hG).1.1 (hG).1.2 ffg_X2_has_21 ?_
  refine r_iconst hC (v := (1 : Int32)) dX2_has_6 rfl (by decide) ?_
  refine r_isub hC dX2_has_7 rfl ?_
  refine r_callI hC (a_SN hC (host := RX9) (c_X9_isWithin  hw) ci_X9_isWithin gX2_has_X9_isWithin_n25 (by decide) (List.mem_of_getElem? (i := 3) rfl) (List.mem_of_getElem? (i := 2) rfl) ⟨Nat.le_of_ble_eq_true rfl, Nat.le_of_ble_eq_true rfl⟩ ⟨Nat.le_of_ble_eq_true rfl, Nat.le_of_ble_eq_true rfl⟩ rfl rfl (Nat.le_of_ble_eq_true rfl) dX2_has_8) ⟨rfl, rfl⟩ rfl (fun r1 J2 hw => ?_)
  exact r_retZ hC hR ⟨rfl, rfl⟩ dX2_has_11 (zb_of hw.1) hw.2
set_option maxRecDepth 100000 in
theorem c_X2_has {l : Launch} {x : Gx} {g : Gm}  {x1 : Int32} {I : Mm} {Post : Int32 → Mm → Prop} (hG : shN g) (hw : wp_X2_has  x1 I Post) : KI l x yX2_has wsX2_has rm_X2_has g I [.ref (gA g 8), .int x1] (fun r u => u.1 = g ∧ Post r u.2) := KZ_of (by decide) rfl rfl (Nat.le_of_ble_eq_true rfl) (fun f hC _ _ hR => t_X2_has_0 hC hG hR hw)

/-! X2_pagesOf -/
abbrev rm_X2_pagesOf : Room := { frames := 0, cells := 0, slots := 0, locals := 0 }
theorem ci_X2_pagesOf : CI yX2_pagesOf wsX2_pagesOf cX2_pagesOf 5 (some .int) 2 := ⟨⟨_, rfl⟩, by decide, by decide, by decide +kernel⟩
def wp_X2_pagesOf_5   (Post : Int32 → Mm → Prop) : Nat → Int32 → Int32 → Int32 → Mm → Prop
  | 0, _, _, _, _ => False
  | nn5 + 1, x2, x3, x4, I => if x2 < x4 then (Post x3 I) else (vp_in x4 24 ∧ (wp_X2_pagesOf_5  Post nn5 x2 (x3 ||| ((1 : Int32) <<< ((I 9 x4.toNatClampNeg) &&& 31))) (x4 + 1) I))
def wp_X2_pagesOf  (x1 : Int32) (x2 : Int32) (I : Mm) (Post : Int32 → Mm → Prop) : Prop := ∃ nn5, wp_X2_pagesOf_5  Post nn5 x2 (0 : Int32) x1 I
set_option maxRecDepth 20000 in
theorem uw_X2_pagesOf_2 : ∀ w ∈ u_ws RX2 TX2 2, w ∈ wsX2_pagesOf := by decide +kernel
set_option maxRecDepth 20000 in
theorem ffg_X2_pagesOf_9 : ∀ k ∈ ([2] : List Nat), FF wsX2_pagesOf RX2 9 k 0 ∧ fR k 0 = true := List.forall_mem_cons.mpr ⟨⟨⟨RX2, TX2, 2, "PageDesks$Line", rfl, rfl, by decide, by decide, uw_X2_pagesOf_2, (List.mem_of_getElem? (i := 1) rfl), Or.inl rfl⟩, rfl⟩, fun _ h => absurd h List.not_mem_nil⟩
set_option maxRecDepth 100000 in
set_option maxHeartbeats 4000000 in
theorem t_X2_pagesOf_5 {f : Fx} {g : Gm}  {Post : Int32 → Mm → Prop}  (hC : Cx f cX2_pagesOf 5 RX2 wsX2_pagesOf rm_X2_pagesOf) (hG : shN g) (hR : RtI f cX2_pagesOf (fun r u => u.1 = g ∧ Post r u.2))  : ∀ (nn5 : Nat) (x2 : Int32) (x3 : Int32) (x4 : Int32) (I : Mm) , wp_X2_pagesOf_5   Post nn5 x2 x3 x4 I → PW f 0 0 g I 5 [(0, .ref (gA g 8)), (2, .int x2), (3, .int x3), (4, .int x4)] [] := by
  intro nn5
  induction nn5 with
  | zero =>
    intro x2 x3 x4 I  hw
    exact absurd hw id
  | succ nn5 ih =>
    intro x2 x3 x4 I  hw
    unfold wp_X2_pagesOf_5 at hw
    refine r_iload hC dX2_pagesOf_5 rfl (j := 3) rfl ?_
    refine r_iload_n hC dX2_pagesOf_7 rfl rfl (j := 1) rfl ?_
    refine r_icmp_gt hC (tgt := 29) dX2_pagesOf_8 rfl (by decide) hw (fun hw => ?_) (fun hw => ?_)
    · refine r_iload_n hC dX2_pagesOf_29 rfl rfl (j := 2) rfl ?_
      exact r_retI hC hR ⟨rfl, rfl⟩ dX2_pagesOf_30 hw
    · refine r_iload_n hC dX2_pagesOf_11 rfl rfl (j := 2) rfl ?_
      refine r_iconst hC (v := (1 : Int32)) dX2_pagesOf_12 rfl (by decide) ?_
      refine r_aload_n hC dX2_pagesOf_13 rfl rfl (j := 0) rfl ?_
      refine r_getR hC dX2_pagesOf_14 rfl (hG).1.1 (hG).1.2 ffg_X2_pagesOf_9 (hG).2.2 ?_
      refine r_iload hC dX2_pagesOf_17 rfl (j := 3) rfl ?_
      obtain ⟨hi, hw⟩ := hw
      refine r_iald hC dX2_pagesOf_19 rfl ((hG).2.1).1 ((hG).2.1).2.1 (by rw [((hG).2.1).2.2]; exact hi) ?_
      refine r_ishl hC dX2_pagesOf_20 rfl ?_
      refine r_ior hC dX2_pagesOf_21 rfl ?_
      refine r_istore_n hC (lv' := [(3, .int (x3 ||| ((1 : Int32) <<< ((I 9 x4.toNatClampNeg) &&& 31)))), (0, .ref (gA g 8)), (2, .int x2), (4, .int x4)]) dX2_pagesOf_22 rfl rfl (by decide) rfl ?_
      refine r_iinc hC (k := 1) (lv' := [(4, .int (x4 + 1)), (3, .int (x3 ||| ((1 : Int32) <<< ((I 9 x4.toNatClampNeg) &&& 31)))), (0, .ref (gA g 8)), (2, .int x2)]) dX2_pagesOf_23 rfl (j := 3) rfl (by decide) (by decide) rfl ?_
      refine r_goto hC (tgt := 5) dX2_pagesOf_26 (by decide) ?_
      exact r_sub (lv' := [(0, .ref (gA g 8)), (2, .int x2), (3, .int (x3 ||| ((1 : Int32) <<< ((I 9 x4.toNatClampNeg) &&& 31)))), (4, .int (x4 + 1))]) [2, 3, 1, 0] rfl (ih _ _ _ _ hw)
set_option maxRecDepth 100000 in
set_option maxHeartbeats 4000000 in
theorem t_X2_pagesOf_0 {f : Fx} {g : Gm}  {Post : Int32 → Mm → Prop} {x1 : Int32} {x2 : Int32} {I : Mm} (hC : Cx f cX2_pagesOf 5 RX2 wsX2_pagesOf rm_X2_pagesOf) (hG : shN g) (hR : RtI f cX2_pagesOf (fun r u => u.1 = g ∧ Post r u.2)) (hw : wp_X2_pagesOf  x1 x2 I Post) : PW f 0 0 g I 0 [(0, .ref (gA g 8)), (1, .int x1), (2, .int x2)] [] := by
  unfold wp_X2_pagesOf at hw
  refine r_iconst hC (v := (0 : Int32)) dX2_pagesOf_0 rfl (by decide) ?_
  refine r_istore_n hC (lv' := [(3, .int (0 : Int32)), (0, .ref (gA g 8)), (1, .int x1), (2, .int x2)]) dX2_pagesOf_1 rfl rfl (by decide) rfl ?_
  refine r_iload_n hC dX2_pagesOf_2 rfl rfl (j := 2) rfl ?_
  refine r_istore hC (lv' := [(4, .int x1), (3, .int (0 : Int32)), (0, .ref (gA g 8)), (1, .int x1), (2, .int x2)]) dX2_pagesOf_3 rfl (by decide) rfl ?_
  obtain ⟨nn5, hw⟩ := hw
  exact r_sub (lv' := [(0, .ref (gA g 8)), (2, .int x2), (3, .int (0 : Int32)), (4, .int x1)]) [2, 4, 1, 0] rfl ((t_X2_pagesOf_5 hC hG hR nn5 _ _ _ _ hw))
set_option maxRecDepth 100000 in
theorem c_X2_pagesOf {l : Launch} {x : Gx} {g : Gm}  {x1 : Int32} {x2 : Int32} {I : Mm} {Post : Int32 → Mm → Prop} (hG : shN g) (hw : wp_X2_pagesOf  x1 x2 I Post) : KI l x yX2_pagesOf wsX2_pagesOf rm_X2_pagesOf g I [.ref (gA g 8), .int x1, .int x2] (fun r u => u.1 = g ∧ Post r u.2) := KI_of (by decide) rfl rfl (Nat.le_of_ble_eq_true rfl) (fun f hC _ _ hR => t_X2_pagesOf_0 hC hG hR hw)

/-! X2_sameAhead -/
abbrev rm_X2_sameAhead : Room := { frames := 0, cells := 0, slots := 0, locals := 0 }
theorem ci_X2_sameAhead : CI yX2_sameAhead wsX2_sameAhead cX2_sameAhead 3 (some .int) 1 := ⟨⟨_, rfl⟩, by decide, by decide, by decide +kernel⟩
def wp_X2_sameAhead_4   (Post : Int32 → Mm → Prop) : Nat → Int32 → Int32 → Mm → Prop
  | 0, _, _, _ => False
  | nn4 + 1, x1, x2, I => if x2 < 0 then (Post (-9 : Int32) I) else (vp_in x2 24 ∧ (vp_in x1 24 ∧ (if (I 9 x2.toNatClampNeg) = (I 9 x1.toNatClampNeg) then (Post x2 I) else (wp_X2_sameAhead_4  Post nn4 x1 (x2 + (-1)) I))))
def wp_X2_sameAhead  (x1 : Int32) (I : Mm) (Post : Int32 → Mm → Prop) : Prop := ∃ nn4, wp_X2_sameAhead_4  Post nn4 x1 (x1 - (1 : Int32)) I
set_option maxRecDepth 20000 in
theorem uw_X2_sameAhead_2 : ∀ w ∈ u_ws RX2 TX2 2, w ∈ wsX2_sameAhead := by decide +kernel
set_option maxRecDepth 20000 in
theorem ffg_X2_sameAhead_9 : ∀ k ∈ ([2] : List Nat), FF wsX2_sameAhead RX2 9 k 0 ∧ fR k 0 = true := List.forall_mem_cons.mpr ⟨⟨⟨RX2, TX2, 2, "PageDesks$Line", rfl, rfl, by decide, by decide, uw_X2_sameAhead_2, (List.mem_of_getElem? (i := 1) rfl), Or.inl rfl⟩, rfl⟩, fun _ h => absurd h List.not_mem_nil⟩
set_option maxRecDepth 100000 in
set_option maxHeartbeats 4000000 in
theorem t_X2_sameAhead_4 {f : Fx} {g : Gm}  {Post : Int32 → Mm → Prop}  (hC : Cx f cX2_sameAhead 3 RX2 wsX2_sameAhead rm_X2_sameAhead) (hG : shN g) (hR : RtI f cX2_sameAhead (fun r u => u.1 = g ∧ Post r u.2))  : ∀ (nn4 : Nat) (x1 : Int32) (x2 : Int32) (I : Mm) , wp_X2_sameAhead_4   Post nn4 x1 x2 I → PW f 0 0 g I 4 [(0, .ref (gA g 8)), (1, .int x1), (2, .int x2)] [] := by
  intro nn4
  induction nn4 with
  | zero =>
    intro x1 x2 I  hw
    exact absurd hw id
  | succ nn4 ih =>
    intro x1 x2 I  hw
    unfold wp_X2_sameAhead_4 at hw
    refine r_iload_n hC dX2_sameAhead_4 rfl rfl (j := 2) rfl ?_
    refine r_if_lt hC (tgt := 31) dX2_sameAhead_5 rfl (by decide) hw (fun hw => ?_) (fun hw => ?_)
    · refine r_bipush hC (v := (-9 : Int32)) dX2_sameAhead_31 rfl (by decide) ?_
      exact r_retI hC hR ⟨rfl, rfl⟩ dX2_sameAhead_33 hw
    · refine r_aload_n hC dX2_sameAhead_8 rfl rfl (j := 0) rfl ?_
      refine r_getR hC dX2_sameAhead_9 rfl (hG).1.1 (hG).1.2 ffg_X2_sameAhead_9 (hG).2.2 ?_
      refine r_iload_n hC dX2_sameAhead_12 rfl rfl (j := 2) rfl ?_
      obtain ⟨hi, hw⟩ := hw
      refine r_iald hC dX2_sameAhead_13 rfl ((hG).2.1).1 ((hG).2.1).2.1 (by rw [((hG).2.1).2.2]; exact hi) ?_
      refine r_aload_n hC dX2_sameAhead_14 rfl rfl (j := 0) rfl ?_
      refine r_getR hC dX2_sameAhead_15 rfl (hG).1.1 (hG).1.2 ffg_X2_sameAhead_9 (hG).2.2 ?_
      refine r_iload_n hC dX2_sameAhead_18 rfl rfl (j := 1) rfl ?_
      obtain ⟨hi, hw⟩ := hw
      refine r_iald hC dX2_sameAhead_19 rfl ((hG).2.1).1 ((hG).2.1).2.1 (by rw [((hG).2.1).2.2]; exact hi) ?_
      refine r_icmp_ne hC (tgt := 25) dX2_sameAhead_20 rfl (by decide) hw (fun hw => ?_) (fun hw => ?_)
      · refine r_iinc hC (k := -1) (lv' := [(2, .int (x2 + (-1))), (0, .ref (gA g 8)), (1, .int x1)]) dX2_sameAhead_25 rfl (j := 2) rfl (by decide) (by decide) rfl ?_
        refine r_goto hC (tgt := 4) dX2_sameAhead_28 (by decide) ?_
        exact r_sub (lv' := [(0, .ref (gA g 8)), (1, .int x1), (2, .int (x2 + (-1)))]) [1, 2, 0] rfl (ih _ _ _ hw)
      · refine r_iload_n hC dX2_sameAhead_23 rfl rfl (j := 2) rfl ?_
        exact r_retI hC hR ⟨rfl, rfl⟩ dX2_sameAhead_24 hw
set_option maxRecDepth 100000 in
set_option maxHeartbeats 4000000 in
theorem t_X2_sameAhead_0 {f : Fx} {g : Gm}  {Post : Int32 → Mm → Prop} {x1 : Int32} {I : Mm} (hC : Cx f cX2_sameAhead 3 RX2 wsX2_sameAhead rm_X2_sameAhead) (hG : shN g) (hR : RtI f cX2_sameAhead (fun r u => u.1 = g ∧ Post r u.2)) (hw : wp_X2_sameAhead  x1 I Post) : PW f 0 0 g I 0 [(0, .ref (gA g 8)), (1, .int x1)] [] := by
  unfold wp_X2_sameAhead at hw
  refine r_iload_n hC dX2_sameAhead_0 rfl rfl (j := 1) rfl ?_
  refine r_iconst hC (v := (1 : Int32)) dX2_sameAhead_1 rfl (by decide) ?_
  refine r_isub hC dX2_sameAhead_2 rfl ?_
  refine r_istore_n hC (lv' := [(2, .int (x1 - (1 : Int32))), (0, .ref (gA g 8)), (1, .int x1)]) dX2_sameAhead_3 rfl rfl (by decide) rfl ?_
  obtain ⟨nn4, hw⟩ := hw
  exact r_sub (lv' := [(0, .ref (gA g 8)), (1, .int x1), (2, .int (x1 - (1 : Int32)))]) [1, 2, 0] rfl ((t_X2_sameAhead_4 hC hG hR nn4 _ _ _ hw))
set_option maxRecDepth 100000 in
theorem c_X2_sameAhead {l : Launch} {x : Gx} {g : Gm}  {x1 : Int32} {I : Mm} {Post : Int32 → Mm → Prop} (hG : shN g) (hw : wp_X2_sameAhead  x1 I Post) : KI l x yX2_sameAhead wsX2_sameAhead rm_X2_sameAhead g I [.ref (gA g 8), .int x1] (fun r u => u.1 = g ∧ Post r u.2) := KI_of (by decide) rfl rfl (Nat.le_of_ble_eq_true rfl) (fun f hC _ _ hR => t_X2_sameAhead_0 hC hG hR hw)

/-! X3_kind -/
abbrev rm_X3_kind : Room := { frames := 0, cells := 0, slots := 0, locals := 0 }
theorem ci_X3_kind : CI yX3_kind wsX3_kind cX3_kind 1 (some .int) 0 := ⟨⟨_, rfl⟩, by decide, by decide, by decide +kernel⟩
def wp_X3_kind (ki : Nat → Nat) (d : Nat)  (I : Mm) (Post : Int32 → Mm → Prop) : Prop := Post (0 : Int32) I

set_option maxRecDepth 100000 in
set_option maxHeartbeats 4000000 in
theorem t_X3_kind_0 {f : Fx} {g : Gm} {d : Nat} {Post : Int32 → Mm → Prop}  {I : Mm} (hC : Cx f cX3_kind 1 RX3 wsX3_kind rm_X3_kind) (hd : shD g [0, 3, 5] d) (hR : RtI f cX3_kind (fun r u => u.1 = g ∧ Post r u.2)) (hw : wp_X3_kind (gK g) d  I Post) : PW f 0 0 g I 0 [(0, .ref (gA g d))] [] := by
  unfold wp_X3_kind at hw
  refine r_iconst hC (v := (0 : Int32)) dX3_kind_0 rfl (by decide) ?_
  exact r_retI hC hR ⟨rfl, rfl⟩ dX3_kind_1 hw
set_option maxRecDepth 100000 in
theorem c_X3_kind {l : Launch} {x : Gx} {g : Gm} {d : Nat}  {I : Mm} {Post : Int32 → Mm → Prop} (hd : shD g [0, 3, 5] d) (hw : wp_X3_kind (gK g) d  I Post) : KI l x yX3_kind wsX3_kind rm_X3_kind g I [.ref (gA g d)] (fun r u => u.1 = g ∧ Post r u.2) := KI_of (by decide) rfl rfl (Nat.le_of_ble_eq_true rfl) (fun f hC _ _ hR => t_X3_kind_0 hC hd hR hw)

/-! X3_clear -/
abbrev rm_X3_clear : Room := { frames := 0, cells := 0, slots := 0, locals := 0 }
theorem ci_X3_clear : CI yX3_clear wsX3_clear cX3_clear 2 none 1 := ⟨⟨_, rfl⟩, by decide, by decide, by decide +kernel⟩
def wp_X3_clear (ki : Nat → Nat) (d : Nat) (x1 : Int32) (I : Mm) (Post : Mm → Prop) : Prop := Post (up2 (up2 (up2 (up2 I d 1 x1) d 2 (0 : Int32)) d 3 (0 : Int32)) d 4 (0 : Int32))
set_option maxRecDepth 20000 in
theorem uw_X3_clear_0 : ∀ w ∈ u_ws RX0 TX0 5, w ∈ wsX3_clear := by decide +kernel
set_option maxRecDepth 20000 in
theorem uw_X3_clear_3 : ∀ w ∈ u_ws RX3 TX3 5, w ∈ wsX3_clear := by decide +kernel
set_option maxRecDepth 20000 in
theorem uw_X3_clear_5 : ∀ w ∈ u_ws RX5 TX5 5, w ∈ wsX3_clear := by decide +kernel
set_option maxRecDepth 20000 in
theorem ffp_X3_clear_15 : ∀ k ∈ ([0, 3, 5] : List Nat), FF wsX3_clear RX3 15 k 1 ∧ fR k 1 = false ∧ FP k 1 := List.forall_mem_cons.mpr ⟨⟨⟨RX0, TX0, 5, "PageDesks$Queue", rfl, rfl, by decide, by decide, uw_X3_clear_0, (List.mem_of_getElem? (i := 1) rfl), Or.inl rfl⟩, rfl, ⟨RX0, TX0, 5, tyX0, rfl, tyX0_ok, nmX0, rfl, rfl⟩⟩, List.forall_mem_cons.mpr ⟨⟨⟨RX3, TX3, 5, "PageDesks$Queue", rfl, rfl, by decide, by decide, uw_X3_clear_3, (List.mem_of_getElem? (i := 1) rfl), Or.inl rfl⟩, rfl, ⟨RX3, TX3, 5, tyX3, rfl, tyX3_ok, nmX3, rfl, rfl⟩⟩, List.forall_mem_cons.mpr ⟨⟨⟨RX5, TX5, 5, "PageDesks$Queue", rfl, rfl, by decide, by decide, uw_X3_clear_5, (List.mem_of_getElem? (i := 1) rfl), Or.inl rfl⟩, rfl, ⟨RX5, TX5, 5, tyX5, rfl, tyX5_ok, nmX5, rfl, rfl⟩⟩, fun _ h => absurd h List.not_mem_nil⟩⟩⟩
set_option maxRecDepth 20000 in
theorem ffp_X3_clear_19 : ∀ k ∈ ([0, 3, 5] : List Nat), FF wsX3_clear RX3 19 k 2 ∧ fR k 2 = false ∧ FP k 2 := List.forall_mem_cons.mpr ⟨⟨⟨RX0, TX0, 5, "PageDesks$Queue", rfl, rfl, by decide, by decide, uw_X3_clear_0, (List.mem_of_getElem? (i := 2) rfl), Or.inl rfl⟩, rfl, ⟨RX0, TX0, 5, tyX0, rfl, tyX0_ok, nmX0, rfl, rfl⟩⟩, List.forall_mem_cons.mpr ⟨⟨⟨RX3, TX3, 5, "PageDesks$Queue", rfl, rfl, by decide, by decide, uw_X3_clear_3, (List.mem_of_getElem? (i := 2) rfl), Or.inl rfl⟩, rfl, ⟨RX3, TX3, 5, tyX3, rfl, tyX3_ok, nmX3, rfl, rfl⟩⟩, List.forall_mem_cons.mpr ⟨⟨⟨RX5, TX5, 5, "PageDesks$Queue", rfl, rfl, by decide, by decide, uw_X3_clear_5, (List.mem_of_getElem? (i := 2) rfl), Or.inl rfl⟩, rfl, ⟨RX5, TX5, 5, tyX5, rfl, tyX5_ok, nmX5, rfl, rfl⟩⟩, fun _ h => absurd h List.not_mem_nil⟩⟩⟩
set_option maxRecDepth 20000 in
theorem ffp_X3_clear_22 : ∀ k ∈ ([0, 3, 5] : List Nat), FF wsX3_clear RX3 22 k 3 ∧ fR k 3 = false ∧ FP k 3 := List.forall_mem_cons.mpr ⟨⟨⟨RX0, TX0, 5, "PageDesks$Queue", rfl, rfl, by decide, by decide, uw_X3_clear_0, (List.mem_of_getElem? (i := 3) rfl), Or.inl rfl⟩, rfl, ⟨RX0, TX0, 5, tyX0, rfl, tyX0_ok, nmX0, rfl, rfl⟩⟩, List.forall_mem_cons.mpr ⟨⟨⟨RX3, TX3, 5, "PageDesks$Queue", rfl, rfl, by decide, by decide, uw_X3_clear_3, (List.mem_of_getElem? (i := 3) rfl), Or.inl rfl⟩, rfl, ⟨RX3, TX3, 5, tyX3, rfl, tyX3_ok, nmX3, rfl, rfl⟩⟩, List.forall_mem_cons.mpr ⟨⟨⟨RX5, TX5, 5, "PageDesks$Queue", rfl, rfl, by decide, by decide, uw_X3_clear_5, (List.mem_of_getElem? (i := 3) rfl), Or.inl rfl⟩, rfl, ⟨RX5, TX5, 5, tyX5, rfl, tyX5_ok, nmX5, rfl, rfl⟩⟩, fun _ h => absurd h List.not_mem_nil⟩⟩⟩
set_option maxRecDepth 20000 in
theorem ffp_X3_clear_25 : ∀ k ∈ ([0, 3, 5] : List Nat), FF wsX3_clear RX3 25 k 4 ∧ fR k 4 = false ∧ FP k 4 := List.forall_mem_cons.mpr ⟨⟨⟨RX0, TX0, 5, "PageDesks$Queue", rfl, rfl, by decide, by decide, uw_X3_clear_0, (List.mem_of_getElem? (i := 4) rfl), Or.inl rfl⟩, rfl, ⟨RX0, TX0, 5, tyX0, rfl, tyX0_ok, nmX0, rfl, rfl⟩⟩, List.forall_mem_cons.mpr ⟨⟨⟨RX3, TX3, 5, "PageDesks$Queue", rfl, rfl, by decide, by decide, uw_X3_clear_3, (List.mem_of_getElem? (i := 4) rfl), Or.inl rfl⟩, rfl, ⟨RX3, TX3, 5, tyX3, rfl, tyX3_ok, nmX3, rfl, rfl⟩⟩, List.forall_mem_cons.mpr ⟨⟨⟨RX5, TX5, 5, "PageDesks$Queue", rfl, rfl, by decide, by decide, uw_X3_clear_5, (List.mem_of_getElem? (i := 4) rfl), Or.inl rfl⟩, rfl, ⟨RX5, TX5, 5, tyX5, rfl, tyX5_ok, nmX5, rfl, rfl⟩⟩, fun _ h => absurd h List.not_mem_nil⟩⟩⟩
set_option maxRecDepth 100000 in
set_option maxHeartbeats 4000000 in
theorem t_X3_clear_0 {f : Fx} {g : Gm} {d : Nat} {Post : Mm → Prop} {x1 : Int32} {I : Mm} (hC : Cx f cX3_clear 2 RX3 wsX3_clear rm_X3_clear) (hd : shD g [0, 3, 5] d) (hR : RtV f cX3_clear (fun u => u.1 = g ∧ Post u.2)) (hw : wp_X3_clear (gK g) d x1 I Post) : PW f 0 0 g I 0 [(0, .ref (gA g d)), (1, .int x1)] [] := by
  unfold wp_X3_clear at hw
  refine r_aload_n hC dX3_clear_0 rfl rfl (j := 0) rfl ?_
  refine r_iload_n hC dX3_clear_1 rfl rfl (j := 1) rfl ?_
  refine r_putI hC dX3_clear_2 rfl (hd).1.1 (hd).1.2 ffp_X3_clear_15 ?_
  refine r_aload_n hC dX3_clear_5 rfl rfl (j := 0) rfl ?_
  refine r_iconst hC (v := (0 : Int32)) dX3_clear_6 rfl (by decide) ?_
  refine r_putI hC dX3_clear_7 rfl (hd).1.1 (hd).1.2 ffp_X3_clear_19 ?_
  refine r_aload_n hC dX3_clear_10 rfl rfl (j := 0) rfl ?_
  refine r_iconst hC (v := (0 : Int32)) dX3_clear_11 rfl (by decide) ?_
  refine r_putI hC dX3_clear_12 rfl (hd).1.1 (hd).1.2 ffp_X3_clear_22 ?_
  refine r_aload_n hC dX3_clear_15 rfl rfl (j := 0) rfl ?_
  refine r_iconst hC (v := (0 : Int32)) dX3_clear_16 rfl (by decide) ?_
  refine r_putI hC dX3_clear_17 rfl (hd).1.1 (hd).1.2 ffp_X3_clear_25 ?_
  exact r_retV hC hR ⟨rfl, rfl⟩ dX3_clear_20 hw
set_option maxRecDepth 100000 in
theorem c_X3_clear {l : Launch} {x : Gx} {g : Gm} {d : Nat} {x1 : Int32} {I : Mm} {Post : Mm → Prop} (hd : shD g [0, 3, 5] d) (hw : wp_X3_clear (gK g) d x1 I Post) : KV l x yX3_clear wsX3_clear rm_X3_clear g I [.ref (gA g d), .int x1] (fun u => u.1 = g ∧ Post u.2) := KV_of (by decide) rfl rfl (Nat.le_of_ble_eq_true rfl) (fun f hC _ _ hR => t_X3_clear_0 hC hd hR hw)

/-! X3_become -/
abbrev rm_X3_become : Room := { frames := 1, cells := 0, slots := 0, locals := 48 }
theorem ci_X3_become : CI yX3_become wsX3_become cX3_become 2 none 1 := ⟨⟨_, rfl⟩, by decide, by decide, by decide +kernel⟩
def wp_X3_become (ki : Nat → Nat) (d : Nat) (o : Nat)  (I : Mm) (Post : Mm → Prop) : Prop := (¬ (0 : Int32) < 0 ∧ ¬ (0 : Int32) < 0 ∧ ¬ (8 : Int32) < 0 ∧ (0 : Int32).toNatClampNeg + (8 : Int32).toNatClampNeg ≤ 8 ∧ (0 : Int32).toNatClampNeg + (8 : Int32).toNatClampNeg ≤ 8) ∧ (Post (up2 (up2 (up2 (up2 (va_up I (d + 20) (va_cpy (I (o + 20)) (I (d + 20)) (0 : Int32).toNatClampNeg (0 : Int32).toNatClampNeg (8 : Int32).toNatClampNeg)) d 1 ((va_up I (d + 20) (va_cpy (I (o + 20)) (I (d + 20)) (0 : Int32).toNatClampNeg (0 : Int32).toNatClampNeg (8 : Int32).toNatClampNeg)) o 1)) d 2 ((up2 (va_up I (d + 20) (va_cpy (I (o + 20)) (I (d + 20)) (0 : Int32).toNatClampNeg (0 : Int32).toNatClampNeg (8 : Int32).toNatClampNeg)) d 1 ((va_up I (d + 20) (va_cpy (I (o + 20)) (I (d + 20)) (0 : Int32).toNatClampNeg (0 : Int32).toNatClampNeg (8 : Int32).toNatClampNeg)) o 1)) o 2)) d 3 ((up2 (up2 (va_up I (d + 20) (va_cpy (I (o + 20)) (I (d + 20)) (0 : Int32).toNatClampNeg (0 : Int32).toNatClampNeg (8 : Int32).toNatClampNeg)) d 1 ((va_up I (d + 20) (va_cpy (I (o + 20)) (I (d + 20)) (0 : Int32).toNatClampNeg (0 : Int32).toNatClampNeg (8 : Int32).toNatClampNeg)) o 1)) d 2 ((up2 (va_up I (d + 20) (va_cpy (I (o + 20)) (I (d + 20)) (0 : Int32).toNatClampNeg (0 : Int32).toNatClampNeg (8 : Int32).toNatClampNeg)) d 1 ((va_up I (d + 20) (va_cpy (I (o + 20)) (I (d + 20)) (0 : Int32).toNatClampNeg (0 : Int32).toNatClampNeg (8 : Int32).toNatClampNeg)) o 1)) o 2)) o 3)) d 4 ((up2 (up2 (up2 (va_up I (d + 20) (va_cpy (I (o + 20)) (I (d + 20)) (0 : Int32).toNatClampNeg (0 : Int32).toNatClampNeg (8 : Int32).toNatClampNeg)) d 1 ((va_up I (d + 20) (va_cpy (I (o + 20)) (I (d + 20)) (0 : Int32).toNatClampNeg (0 : Int32).toNatClampNeg (8 : Int32).toNatClampNeg)) o 1)) d 2 ((up2 (va_up I (d + 20) (va_cpy (I (o + 20)) (I (d + 20)) (0 : Int32).toNatClampNeg (0 : Int32).toNatClampNeg (8 : Int32).toNatClampNeg)) d 1 ((va_up I (d + 20) (va_cpy (I (o + 20)) (I (d + 20)) (0 : Int32).toNatClampNeg (0 : Int32).toNatClampNeg (8 : Int32).toNatClampNeg)) o 1)) o 2)) d 3 ((up2 (up2 (va_up I (d + 20) (va_cpy (I (o + 20)) (I (d + 20)) (0 : Int32).toNatClampNeg (0 : Int32).toNatClampNeg (8 : Int32).toNatClampNeg)) d 1 ((va_up I (d + 20) (va_cpy (I (o + 20)) (I (d + 20)) (0 : Int32).toNatClampNeg (0 : Int32).toNatClampNeg (8 : Int32).toNatClampNeg)) o 1)) d 2 ((up2 (va_up I (d + 20) (va_cpy (I (o + 20)) (I (d + 20)) (0 : Int32).toNatClampNeg (0 : Int32).toNatClampNeg (8 : Int32).toNatClampNeg)) d 1 ((va_up I (d + 20) (va_cpy (I (o + 20)) (I (d + 20)) (0 : Int32).toNatClampNeg (0 : Int32).toNatClampNeg (8 : Int32).toNatClampNeg)) o 1)) o 2)) o 3)) o 4)))
set_option maxRecDepth 20000 in
theorem uw_X3_become_0 : ∀ w ∈ u_ws RX0 TX0 5, w ∈ wsX3_become := by decide +kernel
set_option maxRecDepth 20000 in
theorem uw_X3_become_3 : ∀ w ∈ u_ws RX3 TX3 5, w ∈ wsX3_become := by decide +kernel
set_option maxRecDepth 20000 in
theorem uw_X3_become_5 : ∀ w ∈ u_ws RX5 TX5 5, w ∈ wsX3_become := by decide +kernel
set_option maxRecDepth 20000 in
theorem ffg_X3_become_9 : ∀ k ∈ ([0, 3, 5] : List Nat), FF wsX3_become RX3 9 k 0 ∧ fR k 0 = true := List.forall_mem_cons.mpr ⟨⟨⟨RX0, TX0, 5, "PageDesks$Queue", rfl, rfl, by decide, by decide, uw_X3_become_0, (List.mem_of_getElem? (i := 1) rfl), Or.inl rfl⟩, rfl⟩, List.forall_mem_cons.mpr ⟨⟨⟨RX3, TX3, 5, "PageDesks$Queue", rfl, rfl, by decide, by decide, uw_X3_become_3, (List.mem_of_getElem? (i := 1) rfl), Or.inl rfl⟩, rfl⟩, List.forall_mem_cons.mpr ⟨⟨⟨RX5, TX5, 5, "PageDesks$Queue", rfl, rfl, by decide, by decide, uw_X3_become_5, (List.mem_of_getElem? (i := 1) rfl), Or.inl rfl⟩, rfl⟩, fun _ h => absurd h List.not_mem_nil⟩⟩⟩
set_option maxRecDepth 20000 in
theorem ffg_X3_become_15 : ∀ k ∈ ([0, 3, 5] : List Nat), FF wsX3_become RX3 15 k 1 ∧ fR k 1 = false := List.forall_mem_cons.mpr ⟨⟨⟨RX0, TX0, 5, "PageDesks$Queue", rfl, rfl, by decide, by decide, uw_X3_become_0, (List.mem_of_getElem? (i := 6) rfl), Or.inl rfl⟩, rfl⟩, List.forall_mem_cons.mpr ⟨⟨⟨RX3, TX3, 5, "PageDesks$Queue", rfl, rfl, by decide, by decide, uw_X3_become_3, (List.mem_of_getElem? (i := 6) rfl), Or.inl rfl⟩, rfl⟩, List.forall_mem_cons.mpr ⟨⟨⟨RX5, TX5, 5, "PageDesks$Queue", rfl, rfl, by decide, by decide, uw_X3_become_5, (List.mem_of_getElem? (i := 6) rfl), Or.inl rfl⟩, rfl⟩, fun _ h => absurd h List.not_mem_nil⟩⟩⟩
set_option maxRecDepth 20000 in
theorem ffp_X3_become_15 : ∀ k ∈ ([0, 3, 5] : List Nat), FF wsX3_become RX3 15 k 1 ∧ fR k 1 = false ∧ FP k 1 := List.forall_mem_cons.mpr ⟨⟨⟨RX0, TX0, 5, "PageDesks$Queue", rfl, rfl, by decide, by decide, uw_X3_become_0, (List.mem_of_getElem? (i := 6) rfl), Or.inl rfl⟩, rfl, ⟨RX0, TX0, 5, tyX0, rfl, tyX0_ok, nmX0, rfl, rfl⟩⟩, List.forall_mem_cons.mpr ⟨⟨⟨RX3, TX3, 5, "PageDesks$Queue", rfl, rfl, by decide, by decide, uw_X3_become_3, (List.mem_of_getElem? (i := 6) rfl), Or.inl rfl⟩, rfl, ⟨RX3, TX3, 5, tyX3, rfl, tyX3_ok, nmX3, rfl, rfl⟩⟩, List.forall_mem_cons.mpr ⟨⟨⟨RX5, TX5, 5, "PageDesks$Queue", rfl, rfl, by decide, by decide, uw_X3_become_5, (List.mem_of_getElem? (i := 6) rfl), Or.inl rfl⟩, rfl, ⟨RX5, TX5, 5, tyX5, rfl, tyX5_ok, nmX5, rfl, rfl⟩⟩, fun _ h => absurd h List.not_mem_nil⟩⟩⟩
set_option maxRecDepth 20000 in
theorem ffg_X3_become_19 : ∀ k ∈ ([0, 3, 5] : List Nat), FF wsX3_become RX3 19 k 2 ∧ fR k 2 = false := List.forall_mem_cons.mpr ⟨⟨⟨RX0, TX0, 5, "PageDesks$Queue", rfl, rfl, by decide, by decide, uw_X3_become_0, (List.mem_of_getElem? (i := 7) rfl), Or.inl rfl⟩, rfl⟩, List.forall_mem_cons.mpr ⟨⟨⟨RX3, TX3, 5, "PageDesks$Queue", rfl, rfl, by decide, by decide, uw_X3_become_3, (List.mem_of_getElem? (i := 7) rfl), Or.inl rfl⟩, rfl⟩, List.forall_mem_cons.mpr ⟨⟨⟨RX5, TX5, 5, "PageDesks$Queue", rfl, rfl, by decide, by decide, uw_X3_become_5, (List.mem_of_getElem? (i := 7) rfl), Or.inl rfl⟩, rfl⟩, fun _ h => absurd h List.not_mem_nil⟩⟩⟩
set_option maxRecDepth 20000 in
theorem ffp_X3_become_19 : ∀ k ∈ ([0, 3, 5] : List Nat), FF wsX3_become RX3 19 k 2 ∧ fR k 2 = false ∧ FP k 2 := List.forall_mem_cons.mpr ⟨⟨⟨RX0, TX0, 5, "PageDesks$Queue", rfl, rfl, by decide, by decide, uw_X3_become_0, (List.mem_of_getElem? (i := 7) rfl), Or.inl rfl⟩, rfl, ⟨RX0, TX0, 5, tyX0, rfl, tyX0_ok, nmX0, rfl, rfl⟩⟩, List.forall_mem_cons.mpr ⟨⟨⟨RX3, TX3, 5, "PageDesks$Queue", rfl, rfl, by decide, by decide, uw_X3_become_3, (List.mem_of_getElem? (i := 7) rfl), Or.inl rfl⟩, rfl, ⟨RX3, TX3, 5, tyX3, rfl, tyX3_ok, nmX3, rfl, rfl⟩⟩, List.forall_mem_cons.mpr ⟨⟨⟨RX5, TX5, 5, "PageDesks$Queue", rfl, rfl, by decide, by decide, uw_X3_become_5, (List.mem_of_getElem? (i := 7) rfl), Or.inl rfl⟩, rfl, ⟨RX5, TX5, 5, tyX5, rfl, tyX5_ok, nmX5, rfl, rfl⟩⟩, fun _ h => absurd h List.not_mem_nil⟩⟩⟩
set_option maxRecDepth 20000 in
theorem ffg_X3_become_22 : ∀ k ∈ ([0, 3, 5] : List Nat), FF wsX3_become RX3 22 k 3 ∧ fR k 3 = false := List.forall_mem_cons.mpr ⟨⟨⟨RX0, TX0, 5, "PageDesks$Queue", rfl, rfl, by decide, by decide, uw_X3_become_0, (List.mem_of_getElem? (i := 8) rfl), Or.inl rfl⟩, rfl⟩, List.forall_mem_cons.mpr ⟨⟨⟨RX3, TX3, 5, "PageDesks$Queue", rfl, rfl, by decide, by decide, uw_X3_become_3, (List.mem_of_getElem? (i := 8) rfl), Or.inl rfl⟩, rfl⟩, List.forall_mem_cons.mpr ⟨⟨⟨RX5, TX5, 5, "PageDesks$Queue", rfl, rfl, by decide, by decide, uw_X3_become_5, (List.mem_of_getElem? (i := 8) rfl), Or.inl rfl⟩, rfl⟩, fun _ h => absurd h List.not_mem_nil⟩⟩⟩
set_option maxRecDepth 20000 in
theorem ffp_X3_become_22 : ∀ k ∈ ([0, 3, 5] : List Nat), FF wsX3_become RX3 22 k 3 ∧ fR k 3 = false ∧ FP k 3 := List.forall_mem_cons.mpr ⟨⟨⟨RX0, TX0, 5, "PageDesks$Queue", rfl, rfl, by decide, by decide, uw_X3_become_0, (List.mem_of_getElem? (i := 8) rfl), Or.inl rfl⟩, rfl, ⟨RX0, TX0, 5, tyX0, rfl, tyX0_ok, nmX0, rfl, rfl⟩⟩, List.forall_mem_cons.mpr ⟨⟨⟨RX3, TX3, 5, "PageDesks$Queue", rfl, rfl, by decide, by decide, uw_X3_become_3, (List.mem_of_getElem? (i := 8) rfl), Or.inl rfl⟩, rfl, ⟨RX3, TX3, 5, tyX3, rfl, tyX3_ok, nmX3, rfl, rfl⟩⟩, List.forall_mem_cons.mpr ⟨⟨⟨RX5, TX5, 5, "PageDesks$Queue", rfl, rfl, by decide, by decide, uw_X3_become_5, (List.mem_of_getElem? (i := 8) rfl), Or.inl rfl⟩, rfl, ⟨RX5, TX5, 5, tyX5, rfl, tyX5_ok, nmX5, rfl, rfl⟩⟩, fun _ h => absurd h List.not_mem_nil⟩⟩⟩
set_option maxRecDepth 20000 in
theorem ffg_X3_become_25 : ∀ k ∈ ([0, 3, 5] : List Nat), FF wsX3_become RX3 25 k 4 ∧ fR k 4 = false := List.forall_mem_cons.mpr ⟨⟨⟨RX0, TX0, 5, "PageDesks$Queue", rfl, rfl, by decide, by decide, uw_X3_become_0, (List.mem_of_getElem? (i := 9) rfl), Or.inl rfl⟩, rfl⟩, List.forall_mem_cons.mpr ⟨⟨⟨RX3, TX3, 5, "PageDesks$Queue", rfl, rfl, by decide, by decide, uw_X3_become_3, (List.mem_of_getElem? (i := 9) rfl), Or.inl rfl⟩, rfl⟩, List.forall_mem_cons.mpr ⟨⟨⟨RX5, TX5, 5, "PageDesks$Queue", rfl, rfl, by decide, by decide, uw_X3_become_5, (List.mem_of_getElem? (i := 9) rfl), Or.inl rfl⟩, rfl⟩, fun _ h => absurd h List.not_mem_nil⟩⟩⟩
set_option maxRecDepth 20000 in
theorem ffp_X3_become_25 : ∀ k ∈ ([0, 3, 5] : List Nat), FF wsX3_become RX3 25 k 4 ∧ fR k 4 = false ∧ FP k 4 := List.forall_mem_cons.mpr ⟨⟨⟨RX0, TX0, 5, "PageDesks$Queue", rfl, rfl, by decide, by decide, uw_X3_become_0, (List.mem_of_getElem? (i := 9) rfl), Or.inl rfl⟩, rfl, ⟨RX0, TX0, 5, tyX0, rfl, tyX0_ok, nmX0, rfl, rfl⟩⟩, List.forall_mem_cons.mpr ⟨⟨⟨RX3, TX3, 5, "PageDesks$Queue", rfl, rfl, by decide, by decide, uw_X3_become_3, (List.mem_of_getElem? (i := 9) rfl), Or.inl rfl⟩, rfl, ⟨RX3, TX3, 5, tyX3, rfl, tyX3_ok, nmX3, rfl, rfl⟩⟩, List.forall_mem_cons.mpr ⟨⟨⟨RX5, TX5, 5, "PageDesks$Queue", rfl, rfl, by decide, by decide, uw_X3_become_5, (List.mem_of_getElem? (i := 9) rfl), Or.inl rfl⟩, rfl, ⟨RX5, TX5, 5, tyX5, rfl, tyX5_ok, nmX5, rfl, rfl⟩⟩, fun _ h => absurd h List.not_mem_nil⟩⟩⟩
set_option maxRecDepth 100000 in
set_option maxHeartbeats 4000000 in
theorem t_X3_become_0 {f : Fx} {g : Gm} {d : Nat} {o : Nat} {Post : Mm → Prop}  {I : Mm} (hC : Cx f cX3_become 2 RX3 wsX3_become rm_X3_become) (hd : shD g [0, 3, 5] d) (ho : shD g [0, 3, 5] o) (hR : RtV f cX3_become (fun u => u.1 = g ∧ Post u.2)) (hw : wp_X3_become (gK g) d o  I Post) : PW f 0 0 g I 0 [(0, .ref (gA g d)), (1, .ref (gA g o))] [] := by
  unfold wp_X3_become at hw
  refine r_aload_n hC dX3_become_0 rfl rfl (j := 1) rfl ?_
  refine r_getR hC dX3_become_1 rfl (ho).1.1 (ho).1.2 ffg_X3_become_9 (ho).2.2 ?_
  refine r_iconst hC (v := (0 : Int32)) dX3_become_4 rfl (by decide) ?_
  refine r_aload_n hC dX3_become_5 rfl rfl (j := 0) rfl ?_
  refine r_getR hC dX3_become_6 rfl (hd).1.1 (hd).1.2 ffg_X3_become_9 (hd).2.2 ?_
  refine r_iconst hC (v := (0 : Int32)) dX3_become_9 rfl (by decide) ?_
  refine r_bipush hC (v := (8 : Int32)) dX3_become_10 rfl (by decide) ?_
  obtain ⟨⟨h1, h2, h3, h4, h5⟩, hw⟩ := hw
  refine r_copy hC dX3_become_12 rfl ((ho).2.1).1 ((ho).2.1).2.1 ((hd).2.1).1 ((hd).2.1).2.1 h1 h2 h3 (by rw [((ho).2.1).2.2]; exact h4) (by rw [((hd).2.1).2.2]; exact h5) (List.mem_of_getElem? (i := 2) rfl) (List.mem_of_getElem? (i := 3) rfl) (List.mem_of_getElem? (i := 4) rfl) (List.mem_of_getElem? (i := 5) rfl) (by decide) (Nat.le_of_ble_eq_true rfl) ?_
  refine r_aload_n hC dX3_become_15 rfl rfl (j := 0) rfl ?_
  refine r_aload_n hC dX3_become_16 rfl rfl (j := 1) rfl ?_
  refine r_getI hC dX3_become_17 rfl (ho).1.1 (ho).1.2 ffg_X3_become_15 ?_
  refine r_putI hC dX3_become_20 rfl (hd).1.1 (hd).1.2 ffp_X3_become_15 ?_
  refine r_aload_n hC dX3_become_23 rfl rfl (j := 0) rfl ?_
  refine r_aload_n hC dX3_become_24 rfl rfl (j := 1) rfl ?_
  refine r_getI hC dX3_become_25 rfl (ho).1.1 (ho).1.2 ffg_X3_become_19 ?_
  refine r_putI hC dX3_become_28 rfl (hd).1.1 (hd).1.2 ffp_X3_become_19 ?_
  refine r_aload_n hC dX3_become_31 rfl rfl (j := 0) rfl ?_
  refine r_aload_n hC dX3_become_32 rfl rfl (j := 1) rfl ?_
  refine r_getI hC dX3_become_33 rfl (ho).1.1 (ho).1.2 ffg_X3_become_22 ?_
  refine r_putI hC dX3_become_36 rfl (hd).1.1 (hd).1.2 ffp_X3_become_22 ?_
  refine r_aload_n hC dX3_become_39 rfl rfl (j := 0) rfl ?_
  refine r_aload_n hC dX3_become_40 rfl rfl (j := 1) rfl ?_
  refine r_getI hC dX3_become_41 rfl (ho).1.1 (ho).1.2 ffg_X3_become_25 ?_
  refine r_putI hC dX3_become_44 rfl (hd).1.1 (hd).1.2 ffp_X3_become_25 ?_
  exact r_retV hC hR ⟨rfl, rfl⟩ dX3_become_47 hw
set_option maxRecDepth 100000 in
theorem c_X3_become {l : Launch} {x : Gx} {g : Gm} {d : Nat} {o : Nat}  {I : Mm} {Post : Mm → Prop} (hd : shD g [0, 3, 5] d) (ho : shD g [0, 3, 5] o) (hw : wp_X3_become (gK g) d o  I Post) : KV l x yX3_become wsX3_become rm_X3_become g I [.ref (gA g d), .ref (gA g o)] (fun u => u.1 = g ∧ Post u.2) := KV_of (by decide) rfl rfl (Nat.le_of_ble_eq_true rfl) (fun f hC _ _ hR => t_X3_become_0 hC hd ho hR hw)

/-! X3_placeOf -/
abbrev rm_X3_placeOf : Room := { frames := 0, cells := 0, slots := 0, locals := 0 }
theorem ci_X3_placeOf : CI yX3_placeOf wsX3_placeOf cX3_placeOf 3 (some .int) 1 := ⟨⟨_, rfl⟩, by decide, by decide, by decide +kernel⟩
def wp_X3_placeOf_2 (ki : Nat → Nat) (d : Nat)  (Post : Int32 → Mm → Prop) : Nat → Int32 → Int32 → Mm → Prop
  | 0, _, _, _ => False
  | nn2 + 1, x1, x2, I => if (I d 2) ≤ x2 then (Post (-9 : Int32) I) else (vp_in x2 8 ∧ (if (I (d + 20) x2.toNatClampNeg) = x1 then (Post x2 I) else (wp_X3_placeOf_2 ki d Post nn2 x1 (x2 + 1) I)))
def wp_X3_placeOf (ki : Nat → Nat) (d : Nat) (x1 : Int32) (I : Mm) (Post : Int32 → Mm → Prop) : Prop := ∃ nn2, wp_X3_placeOf_2 ki d Post nn2 x1 (0 : Int32) I
set_option maxRecDepth 20000 in
theorem uw_X3_placeOf_0 : ∀ w ∈ u_ws RX0 TX0 5, w ∈ wsX3_placeOf := by decide +kernel
set_option maxRecDepth 20000 in
theorem uw_X3_placeOf_3 : ∀ w ∈ u_ws RX3 TX3 5, w ∈ wsX3_placeOf := by decide +kernel
set_option maxRecDepth 20000 in
theorem uw_X3_placeOf_5 : ∀ w ∈ u_ws RX5 TX5 5, w ∈ wsX3_placeOf := by decide +kernel
set_option maxRecDepth 20000 in
theorem ffg_X3_placeOf_19 : ∀ k ∈ ([0, 3, 5] : List Nat), FF wsX3_placeOf RX3 19 k 2 ∧ fR k 2 = false := List.forall_mem_cons.mpr ⟨⟨⟨RX0, TX0, 5, "PageDesks$Queue", rfl, rfl, by decide, by decide, uw_X3_placeOf_0, (List.mem_of_getElem? (i := 1) rfl), Or.inl rfl⟩, rfl⟩, List.forall_mem_cons.mpr ⟨⟨⟨RX3, TX3, 5, "PageDesks$Queue", rfl, rfl, by decide, by decide, uw_X3_placeOf_3, (List.mem_of_getElem? (i := 1) rfl), Or.inl rfl⟩, rfl⟩, List.forall_mem_cons.mpr ⟨⟨⟨RX5, TX5, 5, "PageDesks$Queue", rfl, rfl, by decide, by decide, uw_X3_placeOf_5, (List.mem_of_getElem? (i := 1) rfl), Or.inl rfl⟩, rfl⟩, fun _ h => absurd h List.not_mem_nil⟩⟩⟩
set_option maxRecDepth 20000 in
theorem ffg_X3_placeOf_9 : ∀ k ∈ ([0, 3, 5] : List Nat), FF wsX3_placeOf RX3 9 k 0 ∧ fR k 0 = true := List.forall_mem_cons.mpr ⟨⟨⟨RX0, TX0, 5, "PageDesks$Queue", rfl, rfl, by decide, by decide, uw_X3_placeOf_0, (List.mem_of_getElem? (i := 2) rfl), Or.inl rfl⟩, rfl⟩, List.forall_mem_cons.mpr ⟨⟨⟨RX3, TX3, 5, "PageDesks$Queue", rfl, rfl, by decide, by decide, uw_X3_placeOf_3, (List.mem_of_getElem? (i := 2) rfl), Or.inl rfl⟩, rfl⟩, List.forall_mem_cons.mpr ⟨⟨⟨RX5, TX5, 5, "PageDesks$Queue", rfl, rfl, by decide, by decide, uw_X3_placeOf_5, (List.mem_of_getElem? (i := 2) rfl), Or.inl rfl⟩, rfl⟩, fun _ h => absurd h List.not_mem_nil⟩⟩⟩
set_option maxRecDepth 100000 in
set_option maxHeartbeats 4000000 in
theorem t_X3_placeOf_2 {f : Fx} {g : Gm} {d : Nat} {Post : Int32 → Mm → Prop}  (hC : Cx f cX3_placeOf 3 RX3 wsX3_placeOf rm_X3_placeOf) (hd : shD g [0, 3, 5] d) (hR : RtI f cX3_placeOf (fun r u => u.1 = g ∧ Post r u.2))  : ∀ (nn2 : Nat) (x1 : Int32) (x2 : Int32) (I : Mm) , wp_X3_placeOf_2 (gK g) d  Post nn2 x1 x2 I → PW f 0 0 g I 2 [(0, .ref (gA g d)), (1, .int x1), (2, .int x2)] [] := by
  intro nn2
  induction nn2 with
  | zero =>
    intro x1 x2 I  hw
    exact absurd hw id
  | succ nn2 ih =>
    intro x1 x2 I  hw
    unfold wp_X3_placeOf_2 at hw
    refine r_iload_n hC dX3_placeOf_2 rfl rfl (j := 2) rfl ?_
    refine r_aload_n hC dX3_placeOf_3 rfl rfl (j := 0) rfl ?_
    refine r_getI hC dX3_placeOf_4 rfl (hd).1.1 (hd).1.2 ffg_X3_placeOf_19 ?_
    refine r_icmp_ge hC (tgt := 28) dX3_placeOf_7 rfl (by decide) hw (fun hw => ?_) (fun hw => ?_)
    · refine r_bipush hC (v := (-9 : Int32)) dX3_placeOf_28 rfl (by decide) ?_
      exact r_retI hC hR ⟨rfl, rfl⟩ dX3_placeOf_30 hw
    · refine r_aload_n hC dX3_placeOf_10 rfl rfl (j := 0) rfl ?_
      refine r_getR hC dX3_placeOf_11 rfl (hd).1.1 (hd).1.2 ffg_X3_placeOf_9 (hd).2.2 ?_
      refine r_iload_n hC dX3_placeOf_14 rfl rfl (j := 2) rfl ?_
      obtain ⟨hi, hw⟩ := hw
      refine r_iald hC dX3_placeOf_15 rfl ((hd).2.1).1 ((hd).2.1).2.1 (by rw [((hd).2.1).2.2]; exact hi) ?_
      refine r_iload_n hC dX3_placeOf_16 rfl rfl (j := 1) rfl ?_
      refine r_icmp_ne hC (tgt := 22) dX3_placeOf_17 rfl (by decide) hw (fun hw => ?_) (fun hw => ?_)
      · refine r_iinc hC (k := 1) (lv' := [(2, .int (x2 + 1)), (0, .ref (gA g d)), (1, .int x1)]) dX3_placeOf_22 rfl (j := 2) rfl (by decide) (by decide) rfl ?_
        refine r_goto hC (tgt := 2) dX3_placeOf_25 (by decide) ?_
        exact r_sub (lv' := [(0, .ref (gA g d)), (1, .int x1), (2, .int (x2 + 1))]) [1, 2, 0] rfl (ih _ _ _ hw)
      · refine r_iload_n hC dX3_placeOf_20 rfl rfl (j := 2) rfl ?_
        exact r_retI hC hR ⟨rfl, rfl⟩ dX3_placeOf_21 hw
set_option maxRecDepth 100000 in
set_option maxHeartbeats 4000000 in
theorem t_X3_placeOf_0 {f : Fx} {g : Gm} {d : Nat} {Post : Int32 → Mm → Prop} {x1 : Int32} {I : Mm} (hC : Cx f cX3_placeOf 3 RX3 wsX3_placeOf rm_X3_placeOf) (hd : shD g [0, 3, 5] d) (hR : RtI f cX3_placeOf (fun r u => u.1 = g ∧ Post r u.2)) (hw : wp_X3_placeOf (gK g) d x1 I Post) : PW f 0 0 g I 0 [(0, .ref (gA g d)), (1, .int x1)] [] := by
  unfold wp_X3_placeOf at hw
  refine r_iconst hC (v := (0 : Int32)) dX3_placeOf_0 rfl (by decide) ?_
  refine r_istore_n hC (lv' := [(2, .int (0 : Int32)), (0, .ref (gA g d)), (1, .int x1)]) dX3_placeOf_1 rfl rfl (by decide) rfl ?_
  obtain ⟨nn2, hw⟩ := hw
  exact r_sub (lv' := [(0, .ref (gA g d)), (1, .int x1), (2, .int (0 : Int32))]) [1, 2, 0] rfl ((t_X3_placeOf_2 hC hd hR nn2 _ _ _ hw))
set_option maxRecDepth 100000 in
theorem c_X3_placeOf {l : Launch} {x : Gx} {g : Gm} {d : Nat} {x1 : Int32} {I : Mm} {Post : Int32 → Mm → Prop} (hd : shD g [0, 3, 5] d) (hw : wp_X3_placeOf (gK g) d x1 I Post) : KI l x yX3_placeOf wsX3_placeOf rm_X3_placeOf g I [.ref (gA g d), .int x1] (fun r u => u.1 = g ∧ Post r u.2) := KI_of (by decide) rfl rfl (Nat.le_of_ble_eq_true rfl) (fun f hC _ _ hR => t_X3_placeOf_0 hC hd hR hw)

/-! X3_use -/
abbrev rm_X3_use : Room := { frames := 0, cells := 0, slots := 0, locals := 0 }
theorem ci_X3_use : CI yX3_use wsX3_use cX3_use 2 none 1 := ⟨⟨_, rfl⟩, by decide, by decide, by decide +kernel⟩
def wp_X3_use (ki : Nat → Nat) (d : Nat) (x1 : Int32) (I : Mm) (Post : Mm → Prop) : Prop := Post I

set_option maxRecDepth 100000 in
set_option maxHeartbeats 4000000 in
theorem t_X3_use_0 {f : Fx} {g : Gm} {d : Nat} {Post : Mm → Prop} {x1 : Int32} {I : Mm} (hC : Cx f cX3_use 2 RX3 wsX3_use rm_X3_use) (hd : shD g [0, 3, 5] d) (hR : RtV f cX3_use (fun u => u.1 = g ∧ Post u.2)) (hw : wp_X3_use (gK g) d x1 I Post) : PW f 0 0 g I 0 [(0, .ref (gA g d)), (1, .int x1)] [] := by
  unfold wp_X3_use at hw
  exact r_retV hC hR ⟨rfl, rfl⟩ dX3_use_0 hw
set_option maxRecDepth 100000 in
theorem c_X3_use {l : Launch} {x : Gx} {g : Gm} {d : Nat} {x1 : Int32} {I : Mm} {Post : Mm → Prop} (hd : shD g [0, 3, 5] d) (hw : wp_X3_use (gK g) d x1 I Post) : KV l x yX3_use wsX3_use rm_X3_use g I [.ref (gA g d), .int x1] (fun u => u.1 = g ∧ Post u.2) := KV_of (by decide) rfl rfl (Nat.le_of_ble_eq_true rfl) (fun f hC _ _ hR => t_X3_use_0 hC hd hR hw)

/-! X5_use -/
abbrev rm_X5_use : Room := { frames := 1, cells := 0, slots := 0, locals := 23 }
theorem ci_X5_use : CI yX5_use wsX5_use cX5_use 2 none 1 := ⟨⟨_, rfl⟩, by decide, by decide, by decide +kernel⟩
def wp_X5_use (ki : Nat → Nat) (d : Nat) (x1 : Int32) (I : Mm) (Post : Mm → Prop) : Prop := wp_X0_use ki d x1 I (fun J2 => wp_X3_lieBehindAll ki d x1 J2 (fun J4 => Post J4))

set_option maxRecDepth 100000 in
set_option maxHeartbeats 4000000 in
theorem t_X5_use_0 {f : Fx} {g : Gm} {d : Nat} {Post : Mm → Prop} {x1 : Int32} {I : Mm} (hC : Cx f cX5_use 2 RX5 wsX5_use rm_X5_use) (hd : shD g [5] d) (hR : RtV f cX5_use (fun u => u.1 = g ∧ Post u.2)) (hw : wp_X5_use (gK g) d x1 I Post) : PW f 0 0 g I 0 [(0, .ref (gA g d)), (1, .int x1)] [] := by
  unfold wp_X5_use at hw
  refine r_aload_n hC dX5_use_0 rfl rfl (j := 0) rfl ?_
  refine r_iload_n hC dX5_use_1 rfl rfl (j := 1) rfl ?_
  refine r_callV hC (a_SU hC (k := 5) (c_X0_use (shD.of hd (List.mem_singleton.mp (hd).1.2) (by decide)) hw) ci_X0_use gX5_use_X0_use_s9 (by decide) ⟨Nat.le_of_ble_eq_true rfl, Nat.le_of_ble_eq_true rfl⟩ ⟨Nat.le_of_ble_eq_true rfl, Nat.le_of_ble_eq_true rfl⟩ rfl (by decide) (hd).1.1 (List.mem_singleton.mp (hd).1.2) rfl rfl (Nat.le_of_ble_eq_true rfl) dX5_use_2) ⟨rfl, rfl⟩ rfl (fun J2 hw => ?_)
  refine r_aload_n hC dX5_use_5 rfl rfl (j := 0) rfl ?_
  refine r_iload_n hC dX5_use_6 rfl rfl (j := 1) rfl ?_
  refine r_callV hC (a_U hC (k := 5) (rmc := rm_X3_lieBehindAll) (c_X3_lieBehindAll (shD.of hd (List.mem_singleton.mp (hd).1.2) (by decide)) hw) ci_X3_lieBehindAll gX5_use_X3_lieBehindAll_u13X5 rfl ⟨Nat.le_of_ble_eq_true rfl, Nat.le_of_ble_eq_true rfl⟩ ⟨Nat.le_of_ble_eq_true rfl, Nat.le_of_ble_eq_true rfl⟩ rfl (by decide) (hd).1.1 (List.mem_singleton.mp (hd).1.2) rfl rfl (Nat.le_of_ble_eq_true rfl) dX5_use_7) ⟨rfl, rfl⟩ rfl (fun J4 hw => ?_)
  exact r_retV hC hR ⟨rfl, rfl⟩ dX5_use_10 hw
set_option maxRecDepth 100000 in
theorem c_X5_use {l : Launch} {x : Gx} {g : Gm} {d : Nat} {x1 : Int32} {I : Mm} {Post : Mm → Prop} (hd : shD g [5] d) (hw : wp_X5_use (gK g) d x1 I Post) : KV l x yX5_use wsX5_use rm_X5_use g I [.ref (gA g d), .int x1] (fun u => u.1 = g ∧ Post u.2) := KV_of (by decide) rfl rfl (Nat.le_of_ble_eq_true rfl) (fun f hC _ _ hR => t_X5_use_0 hC hd hR hw)

/-! X3_spareUsed -/
abbrev rm_X3_spareUsed : Room := { frames := 0, cells := 0, slots := 0, locals := 0 }
theorem ci_X3_spareUsed : CI yX3_spareUsed wsX3_spareUsed cX3_spareUsed 1 none 0 := ⟨⟨_, rfl⟩, by decide, by decide, by decide +kernel⟩
def wp_X3_spareUsed (ki : Nat → Nat) (d : Nat)  (I : Mm) (Post : Mm → Prop) : Prop := Post I

set_option maxRecDepth 100000 in
set_option maxHeartbeats 4000000 in
theorem t_X3_spareUsed_0 {f : Fx} {g : Gm} {d : Nat} {Post : Mm → Prop}  {I : Mm} (hC : Cx f cX3_spareUsed 1 RX3 wsX3_spareUsed rm_X3_spareUsed) (hd : shD g [0, 3, 5] d) (hR : RtV f cX3_spareUsed (fun u => u.1 = g ∧ Post u.2)) (hw : wp_X3_spareUsed (gK g) d  I Post) : PW f 0 0 g I 0 [(0, .ref (gA g d))] [] := by
  unfold wp_X3_spareUsed at hw
  exact r_retV hC hR ⟨rfl, rfl⟩ dX3_spareUsed_0 hw
set_option maxRecDepth 100000 in
theorem c_X3_spareUsed {l : Launch} {x : Gx} {g : Gm} {d : Nat}  {I : Mm} {Post : Mm → Prop} (hd : shD g [0, 3, 5] d) (hw : wp_X3_spareUsed (gK g) d  I Post) : KV l x yX3_spareUsed wsX3_spareUsed rm_X3_spareUsed g I [.ref (gA g d)] (fun u => u.1 = g ∧ Post u.2) := KV_of (by decide) rfl rfl (Nat.le_of_ble_eq_true rfl) (fun f hC _ _ hR => t_X3_spareUsed_0 hC hd hR hw)

/-! X5_spareUsed -/
abbrev rm_X5_spareUsed : Room := { frames := 0, cells := 0, slots := 0, locals := 0 }
theorem ci_X5_spareUsed : CI yX5_spareUsed wsX5_spareUsed cX5_spareUsed 1 none 0 := ⟨⟨_, rfl⟩, by decide, by decide, by decide +kernel⟩
def wp_X5_spareUsed (ki : Nat → Nat) (d : Nat)  (I : Mm) (Post : Mm → Prop) : Prop := Post I

set_option maxRecDepth 100000 in
set_option maxHeartbeats 4000000 in
theorem t_X5_spareUsed_0 {f : Fx} {g : Gm} {d : Nat} {Post : Mm → Prop}  {I : Mm} (hC : Cx f cX5_spareUsed 1 RX5 wsX5_spareUsed rm_X5_spareUsed) (hd : shD g [5] d) (hR : RtV f cX5_spareUsed (fun u => u.1 = g ∧ Post u.2)) (hw : wp_X5_spareUsed (gK g) d  I Post) : PW f 0 0 g I 0 [(0, .ref (gA g d))] [] := by
  unfold wp_X5_spareUsed at hw
  exact r_retV hC hR ⟨rfl, rfl⟩ dX5_spareUsed_0 hw
set_option maxRecDepth 100000 in
theorem c_X5_spareUsed {l : Launch} {x : Gx} {g : Gm} {d : Nat}  {I : Mm} {Post : Mm → Prop} (hd : shD g [5] d) (hw : wp_X5_spareUsed (gK g) d  I Post) : KV l x yX5_spareUsed wsX5_spareUsed rm_X5_spareUsed g I [.ref (gA g d)] (fun u => u.1 = g ∧ Post u.2) := KV_of (by decide) rfl rfl (Nat.le_of_ble_eq_true rfl) (fun f hC _ _ hR => t_X5_spareUsed_0 hC hd hR hw)

/-! X3_letFirstGo -/
abbrev rm_X3_letFirstGo : Room := { frames := 1, cells := 0, slots := 0, locals := 23 }
theorem ci_X3_letFirstGo : CI yX3_letFirstGo wsX3_letFirstGo cX3_letFirstGo 1 none 0 := ⟨⟨_, rfl⟩, by decide, by decide, by decide +kernel⟩
def wp_X3_letFirstGo (ki : Nat → Nat) (d : Nat)  (I : Mm) (Post : Mm → Prop) : Prop := vp_in (0 : Int32) 8 ∧ (wp_X3_lieBehindAll ki d (0 : Int32) (up2 I d 3 ((I d 3) &&& (((1 : Int32) <<< ((I (d + 20) (0 : Int32).toNatClampNeg) &&& 31)) ^^^ (-1 : Int32)))) (fun J2 => Post (up2 J2 d 2 ((J2 d 2) - (1 : Int32)))))
set_option maxRecDepth 20000 in
theorem uw_X3_letFirstGo_0 : ∀ w ∈ u_ws RX0 TX0 5, w ∈ wsX3_letFirstGo := by decide +kernel
set_option maxRecDepth 20000 in
theorem uw_X3_letFirstGo_3 : ∀ w ∈ u_ws RX3 TX3 5, w ∈ wsX3_letFirstGo := by decide +kernel
set_option maxRecDepth 20000 in
theorem uw_X3_letFirstGo_5 : ∀ w ∈ u_ws RX5 TX5 5, w ∈ wsX3_letFirstGo := by decide +kernel
set_option maxRecDepth 20000 in
theorem ffg_X3_letFirstGo_22 : ∀ k ∈ ([0, 3, 5] : List Nat), FF wsX3_letFirstGo RX3 22 k 3 ∧ fR k 3 = false := List.forall_mem_cons.mpr ⟨⟨⟨RX0, TX0, 5, "PageDesks$Queue", rfl, rfl, by decide, by decide, uw_X3_letFirstGo_0, (List.mem_of_getElem? (i := 1) rfl), Or.inl rfl⟩, rfl⟩, List.forall_mem_cons.mpr ⟨⟨⟨RX3, TX3, 5, "PageDesks$Queue", rfl, rfl, by decide, by decide, uw_X3_letFirstGo_3, (List.mem_of_getElem? (i := 1) rfl), Or.inl rfl⟩, rfl⟩, List.forall_mem_cons.mpr ⟨⟨⟨RX5, TX5, 5, "PageDesks$Queue", rfl, rfl, by decide, by decide, uw_X3_letFirstGo_5, (List.mem_of_getElem? (i := 1) rfl), Or.inl rfl⟩, rfl⟩, fun _ h => absurd h List.not_mem_nil⟩⟩⟩
set_option maxRecDepth 20000 in
theorem ffg_X3_letFirstGo_9 : ∀ k ∈ ([0, 3, 5] : List Nat), FF wsX3_letFirstGo RX3 9 k 0 ∧ fR k 0 = true := List.forall_mem_cons.mpr ⟨⟨⟨RX0, TX0, 5, "PageDesks$Queue", rfl, rfl, by decide, by decide, uw_X3_letFirstGo_0, (List.mem_of_getElem? (i := 2) rfl), Or.inl rfl⟩, rfl⟩, List.forall_mem_cons.mpr ⟨⟨⟨RX3, TX3, 5, "PageDesks$Queue", rfl, rfl, by decide, by decide, uw_X3_letFirstGo_3, (List.mem_of_getElem? (i := 2) rfl), Or.inl rfl⟩, rfl⟩, List.forall_mem_cons.mpr ⟨⟨⟨RX5, TX5, 5, "PageDesks$Queue", rfl, rfl, by decide, by decide, uw_X3_letFirstGo_5, (List.mem_of_getElem? (i := 2) rfl), Or.inl rfl⟩, rfl⟩, fun _ h => absurd h List.not_mem_nil⟩⟩⟩
set_option maxRecDepth 20000 in
theorem ffp_X3_letFirstGo_22 : ∀ k ∈ ([0, 3, 5] : List Nat), FF wsX3_letFirstGo RX3 22 k 3 ∧ fR k 3 = false ∧ FP k 3 := List.forall_mem_cons.mpr ⟨⟨⟨RX0, TX0, 5, "PageDesks$Queue", rfl, rfl, by decide, by decide, uw_X3_letFirstGo_0, (List.mem_of_getElem? (i := 1) rfl), Or.inl rfl⟩, rfl, ⟨RX0, TX0, 5, tyX0, rfl, tyX0_ok, nmX0, rfl, rfl⟩⟩, List.forall_mem_cons.mpr ⟨⟨⟨RX3, TX3, 5, "PageDesks$Queue", rfl, rfl, by decide, by decide, uw_X3_letFirstGo_3, (List.mem_of_getElem? (i := 1) rfl), Or.inl rfl⟩, rfl, ⟨RX3, TX3, 5, tyX3, rfl, tyX3_ok, nmX3, rfl, rfl⟩⟩, List.forall_mem_cons.mpr ⟨⟨⟨RX5, TX5, 5, "PageDesks$Queue", rfl, rfl, by decide, by decide, uw_X3_letFirstGo_5, (List.mem_of_getElem? (i := 1) rfl), Or.inl rfl⟩, rfl, ⟨RX5, TX5, 5, tyX5, rfl, tyX5_ok, nmX5, rfl, rfl⟩⟩, fun _ h => absurd h List.not_mem_nil⟩⟩⟩
set_option maxRecDepth 20000 in
theorem ffg_X3_letFirstGo_19 : ∀ k ∈ ([0, 3, 5] : List Nat), FF wsX3_letFirstGo RX3 19 k 2 ∧ fR k 2 = false := List.forall_mem_cons.mpr ⟨⟨⟨RX0, TX0, 5, "PageDesks$Queue", rfl, rfl, by decide, by decide, uw_X3_letFirstGo_0, (List.mem_of_getElem? (i := 3) rfl), Or.inl rfl⟩, rfl⟩, List.forall_mem_cons.mpr ⟨⟨⟨RX3, TX3, 5, "PageDesks$Queue", rfl, rfl, by decide, by decide, uw_X3_letFirstGo_3, (List.mem_of_getElem? (i := 3) rfl), Or.inl rfl⟩, rfl⟩, List.forall_mem_cons.mpr ⟨⟨⟨RX5, TX5, 5, "PageDesks$Queue", rfl, rfl, by decide, by decide, uw_X3_letFirstGo_5, (List.mem_of_getElem? (i := 3) rfl), Or.inl rfl⟩, rfl⟩, fun _ h => absurd h List.not_mem_nil⟩⟩⟩
set_option maxRecDepth 20000 in
theorem ffp_X3_letFirstGo_19 : ∀ k ∈ ([0, 3, 5] : List Nat), FF wsX3_letFirstGo RX3 19 k 2 ∧ fR k 2 = false ∧ FP k 2 := List.forall_mem_cons.mpr ⟨⟨⟨RX0, TX0, 5, "PageDesks$Queue", rfl, rfl, by decide, by decide, uw_X3_letFirstGo_0, (List.mem_of_getElem? (i := 3) rfl), Or.inl rfl⟩, rfl, ⟨RX0, TX0, 5, tyX0, rfl, tyX0_ok, nmX0, rfl, rfl⟩⟩, List.forall_mem_cons.mpr ⟨⟨⟨RX3, TX3, 5, "PageDesks$Queue", rfl, rfl, by decide, by decide, uw_X3_letFirstGo_3, (List.mem_of_getElem? (i := 3) rfl), Or.inl rfl⟩, rfl, ⟨RX3, TX3, 5, tyX3, rfl, tyX3_ok, nmX3, rfl, rfl⟩⟩, List.forall_mem_cons.mpr ⟨⟨⟨RX5, TX5, 5, "PageDesks$Queue", rfl, rfl, by decide, by decide, uw_X3_letFirstGo_5, (List.mem_of_getElem? (i := 3) rfl), Or.inl rfl⟩, rfl, ⟨RX5, TX5, 5, tyX5, rfl, tyX5_ok, nmX5, rfl, rfl⟩⟩, fun _ h => absurd h List.not_mem_nil⟩⟩⟩
set_option maxRecDepth 100000 in
set_option maxHeartbeats 4000000 in
theorem t_X3_letFirstGo_0 {f : Fx} {g : Gm} {d : Nat} {Post : Mm → Prop}  {I : Mm} (hC : Cx f cX3_letFirstGo 1 RX3 wsX3_letFirstGo rm_X3_letFirstGo) (hd : shD g [0, 3, 5] d) (hR : RtV f cX3_letFirstGo (fun u => u.1 = g ∧ Post u.2)) (hw : wp_X3_letFirstGo (gK g) d  I Post) : PW f 0 0 g I 0 [(0, .ref (gA g d))] [] := by
  unfold wp_X3_letFirstGo at hw
  refine r_aload_n hC dX3_letFirstGo_0 rfl rfl (j := 0) rfl ?_
  refine r_dup hC dX3_letFirstGo_1 rfl rfl ?_
  refine r_getI hC dX3_letFirstGo_2 rfl (hd).1.1 (hd).1.2 ffg_X3_letFirstGo_22 ?_
  refine r_iconst hC (v := (1 : Int32)) dX3_letFirstGo_5 rfl (by decide) ?_
  refine r_aload_n hC dX3_letFirstGo_6 rfl rfl (j := 0) rfl ?_
  refine r_getR hC dX3_letFirstGo_7 rfl (hd).1.1 (hd).1.2 ffg_X3_letFirstGo_9 (hd).2.2 ?_
  refine r_iconst hC (v := (0 : Int32)) dX3_letFirstGo_10 rfl (by decide) ?_
  obtain ⟨hi, hw⟩ := hw
  refine r_iald hC dX3_letFirstGo_11 rfl ((hd).2.1).1 ((hd).2.1).2.1 (by rw [((hd).2.1).2.2]; exact hi) ?_
  refine r_ishl hC dX3_letFirstGo_12 rfl ?_
  refine r_iconst hC (v := (-1 : Int32)) dX3_letFirstGo_13 rfl (by decide) ?_
  refine r_ixor hC dX3_letFirstGo_14 rfl ?_
  refine r_iand hC dX3_letFirstGo_15 rfl ?_
  refine r_putI hC dX3_letFirstGo_16 rfl (hd).1.1 (hd).1.2 ffp_X3_letFirstGo_22 ?_
  refine r_aload_n hC dX3_letFirstGo_19 rfl rfl (j := 0) rfl ?_
  refine r_iconst hC (v := (0 : Int32)) dX3_letFirstGo_20 rfl (by decide) ?_
  refine r_callV hC (rmc := rm_X3_lieBehindAll) (a_K hd (fun h => a_U hC (k := 0) (rmc := rm_X3_lieBehindAll) (c_X3_lieBehindAll hd hw) ci_X3_lieBehindAll gX3_letFirstGo_X3_lieBehindAll_u61X0 rfl ⟨Nat.le_of_ble_eq_true rfl, Nat.le_of_ble_eq_true rfl⟩ ⟨Nat.le_of_ble_eq_true rfl, Nat.le_of_ble_eq_true rfl⟩ rfl (by decide) (hd).1.1 h rfl rfl (Nat.le_of_ble_eq_true rfl) dX3_letFirstGo_21) (fun h => a_V hC (k := 3) (c_X3_lieBehindAll hd hw) ci_X3_lieBehindAll gX3_letFirstGo_X3_lieBehindAll rfl ⟨Nat.le_of_ble_eq_true rfl, Nat.le_of_ble_eq_true rfl⟩ ⟨Nat.le_of_ble_eq_true rfl, Nat.le_of_ble_eq_true rfl⟩ rfl (by decide) (hd).1.1 h rfl rfl (Nat.le_of_ble_eq_true rfl) dX3_letFirstGo_21) (fun h => a_U hC (k := 5) (rmc := rm_X3_lieBehindAll) (c_X3_lieBehindAll hd hw) ci_X3_lieBehindAll gX3_letFirstGo_X3_lieBehindAll_u61X5 rfl ⟨Nat.le_of_ble_eq_true rfl, Nat.le_of_ble_eq_true rfl⟩ ⟨Nat.le_of_ble_eq_true rfl, Nat.le_of_ble_eq_true rfl⟩ rfl (by decide) (hd).1.1 h rfl rfl (Nat.le_of_ble_eq_true rfl) dX3_letFirstGo_21)) ⟨rfl, rfl⟩ rfl (fun J2 hw => ?_)
  refine r_aload_n hC dX3_letFirstGo_24 rfl rfl (j := 0) rfl ?_
  refine r_dup hC dX3_letFirstGo_25 rfl rfl ?_
  refine r_getI hC dX3_letFirstGo_26 rfl (hd).1.1 (hd).1.2 ffg_X3_letFirstGo_19 ?_
  refine r_iconst hC (v := (1 : Int32)) dX3_letFirstGo_29 rfl (by decide) ?_
  refine r_isub hC dX3_letFirstGo_30 rfl ?_
  refine r_putI hC dX3_letFirstGo_31 rfl (hd).1.1 (hd).1.2 ffp_X3_letFirstGo_19 ?_
  exact r_retV hC hR ⟨rfl, rfl⟩ dX3_letFirstGo_34 hw
set_option maxRecDepth 100000 in
theorem c_X3_letFirstGo {l : Launch} {x : Gx} {g : Gm} {d : Nat}  {I : Mm} {Post : Mm → Prop} (hd : shD g [0, 3, 5] d) (hw : wp_X3_letFirstGo (gK g) d  I Post) : KV l x yX3_letFirstGo wsX3_letFirstGo rm_X3_letFirstGo g I [.ref (gA g d)] (fun u => u.1 = g ∧ Post u.2) := KV_of (by decide) rfl rfl (Nat.le_of_ble_eq_true rfl) (fun f hC _ _ hR => t_X3_letFirstGo_0 hC hd hR hw)

def wpv_spareUsed (ki : Nat → Nat) (d : Nat)  (I : Mm) (Post : Mm → Prop) : Prop := if ki d = 3 then wp_X3_spareUsed ki d  I Post else if ki d = 0 then wp_X0_spareUsed ki d  I Post else wp_X5_spareUsed ki d  I Post
theorem wpv_spareUsed_3 {ki : Nat → Nat} {d : Nat}  {I : Mm} {Post : Mm → Prop} (h : ki d = 3) (hw : wpv_spareUsed ki d  I Post) : wp_X3_spareUsed ki d  I Post := by
  unfold wpv_spareUsed at hw
  rw [if_pos h] at hw
  exact hw
theorem wpv_spareUsed_0 {ki : Nat → Nat} {d : Nat}  {I : Mm} {Post : Mm → Prop} (h : ki d = 0) (hw : wpv_spareUsed ki d  I Post) : wp_X0_spareUsed ki d  I Post := by
  unfold wpv_spareUsed at hw
  rw [if_neg (by rw [h]; decide), if_pos h] at hw
  exact hw
theorem wpv_spareUsed_5 {ki : Nat → Nat} {d : Nat}  {I : Mm} {Post : Mm → Prop} (h : ki d = 5) (hw : wpv_spareUsed ki d  I Post) : wp_X5_spareUsed ki d  I Post := by
  unfold wpv_spareUsed at hw
  rw [if_neg (by rw [h]; decide), if_neg (by rw [h]; decide)] at hw
  exact hw
def wpv_use (ki : Nat → Nat) (d : Nat) (x1 : Int32) (I : Mm) (Post : Mm → Prop) : Prop := if ki d = 3 then wp_X3_use ki d x1 I Post else if ki d = 0 then wp_X0_use ki d x1 I Post else wp_X5_use ki d x1 I Post
theorem wpv_use_3 {ki : Nat → Nat} {d : Nat} {x1 : Int32} {I : Mm} {Post : Mm → Prop} (h : ki d = 3) (hw : wpv_use ki d x1 I Post) : wp_X3_use ki d x1 I Post := by
  unfold wpv_use at hw
  rw [if_pos h] at hw
  exact hw
theorem wpv_use_0 {ki : Nat → Nat} {d : Nat} {x1 : Int32} {I : Mm} {Post : Mm → Prop} (h : ki d = 0) (hw : wpv_use ki d x1 I Post) : wp_X0_use ki d x1 I Post := by
  unfold wpv_use at hw
  rw [if_neg (by rw [h]; decide), if_pos h] at hw
  exact hw
theorem wpv_use_5 {ki : Nat → Nat} {d : Nat} {x1 : Int32} {I : Mm} {Post : Mm → Prop} (h : ki d = 5) (hw : wpv_use ki d x1 I Post) : wp_X5_use ki d x1 I Post := by
  unfold wpv_use at hw
  rw [if_neg (by rw [h]; decide), if_neg (by rw [h]; decide)] at hw
  exact hw
/-! X3_serve -/
abbrev rm_X3_serve : Room := { frames := 2, cells := 0, slots := 0, locals := 44 }
theorem ci_X3_serve : CI yX3_serve wsX3_serve cX3_serve 3 (some .boolean) 1 := ⟨⟨_, rfl⟩, by decide, by decide, by decide +kernel⟩
def wp_X3_serve_48 (ki : Nat → Nat) (d : Nat)  (Post : Int32 → Mm → Prop) (x1 : Int32) (I : Mm) : Prop := vp_in (I d 2) 8 ∧ (Post (0 : Int32) (up2 (up2 I (d + 20) (I d 2).toNatClampNeg x1) d 2 (((up2 I (d + 20) (I d 2).toNatClampNeg x1) d 2) + (1 : Int32))))
def wp_X3_serve (ki : Nat → Nat) (d : Nat) (x1 : Int32) (I : Mm) (Post : Int32 → Mm → Prop) : Prop := wp_X3_placeOf ki d x1 I (fun r1 J2 => if r1 = (-9 : Int32) then (if ((up2 J2 d 4 ((J2 d 4) + (1 : Int32))) d 2) < ((up2 J2 d 4 ((J2 d 4) + (1 : Int32))) d 1) then (wp_X3_serve_48 ki d Post x1 (up2 J2 d 4 ((J2 d 4) + (1 : Int32)))) else (wpv_spareUsed ki d (up2 J2 d 4 ((J2 d 4) + (1 : Int32))) (fun J4 => wp_X3_letFirstGo ki d J4 (fun J6 => wp_X3_serve_48 ki d Post x1 J6)))) else (wpv_use ki d r1 J2 (fun J8 => Post (1 : Int32) J8)))
set_option maxRecDepth 20000 in
theorem uw_X3_serve_0 : ∀ w ∈ u_ws RX0 TX0 5, w ∈ wsX3_serve := by decide +kernel
set_option maxRecDepth 20000 in
theorem uw_X3_serve_3 : ∀ w ∈ u_ws RX3 TX3 5, w ∈ wsX3_serve := by decide +kernel
set_option maxRecDepth 20000 in
theorem uw_X3_serve_5 : ∀ w ∈ u_ws RX5 TX5 5, w ∈ wsX3_serve := by decide +kernel
set_option maxRecDepth 20000 in
theorem ffg_X3_serve_25 : ∀ k ∈ ([0, 3, 5] : List Nat), FF wsX3_serve RX3 25 k 4 ∧ fR k 4 = false := List.forall_mem_cons.mpr ⟨⟨⟨RX0, TX0, 5, "PageDesks$Queue", rfl, rfl, by decide, by decide, uw_X3_serve_0, (List.mem_of_getElem? (i := 1) rfl), Or.inl rfl⟩, rfl⟩, List.forall_mem_cons.mpr ⟨⟨⟨RX3, TX3, 5, "PageDesks$Queue", rfl, rfl, by decide, by decide, uw_X3_serve_3, (List.mem_of_getElem? (i := 1) rfl), Or.inl rfl⟩, rfl⟩, List.forall_mem_cons.mpr ⟨⟨⟨RX5, TX5, 5, "PageDesks$Queue", rfl, rfl, by decide, by decide, uw_X3_serve_5, (List.mem_of_getElem? (i := 1) rfl), Or.inl rfl⟩, rfl⟩, fun _ h => absurd h List.not_mem_nil⟩⟩⟩
set_option maxRecDepth 20000 in
theorem ffp_X3_serve_25 : ∀ k ∈ ([0, 3, 5] : List Nat), FF wsX3_serve RX3 25 k 4 ∧ fR k 4 = false ∧ FP k 4 := List.forall_mem_cons.mpr ⟨⟨⟨RX0, TX0, 5, "PageDesks$Queue", rfl, rfl, by decide, by decide, uw_X3_serve_0, (List.mem_of_getElem? (i := 1) rfl), Or.inl rfl⟩, rfl, ⟨RX0, TX0, 5, tyX0, rfl, tyX0_ok, nmX0, rfl, rfl⟩⟩, List.forall_mem_cons.mpr ⟨⟨⟨RX3, TX3, 5, "PageDesks$Queue", rfl, rfl, by decide, by decide, uw_X3_serve_3, (List.mem_of_getElem? (i := 1) rfl), Or.inl rfl⟩, rfl, ⟨RX3, TX3, 5, tyX3, rfl, tyX3_ok, nmX3, rfl, rfl⟩⟩, List.forall_mem_cons.mpr ⟨⟨⟨RX5, TX5, 5, "PageDesks$Queue", rfl, rfl, by decide, by decide, uw_X3_serve_5, (List.mem_of_getElem? (i := 1) rfl), Or.inl rfl⟩, rfl, ⟨RX5, TX5, 5, tyX5, rfl, tyX5_ok, nmX5, rfl, rfl⟩⟩, fun _ h => absurd h List.not_mem_nil⟩⟩⟩
set_option maxRecDepth 20000 in
theorem ffg_X3_serve_19 : ∀ k ∈ ([0, 3, 5] : List Nat), FF wsX3_serve RX3 19 k 2 ∧ fR k 2 = false := List.forall_mem_cons.mpr ⟨⟨⟨RX0, TX0, 5, "PageDesks$Queue", rfl, rfl, by decide, by decide, uw_X3_serve_0, (List.mem_of_getElem? (i := 2) rfl), Or.inl rfl⟩, rfl⟩, List.forall_mem_cons.mpr ⟨⟨⟨RX3, TX3, 5, "PageDesks$Queue", rfl, rfl, by decide, by decide, uw_X3_serve_3, (List.mem_of_getElem? (i := 2) rfl), Or.inl rfl⟩, rfl⟩, List.forall_mem_cons.mpr ⟨⟨⟨RX5, TX5, 5, "PageDesks$Queue", rfl, rfl, by decide, by decide, uw_X3_serve_5, (List.mem_of_getElem? (i := 2) rfl), Or.inl rfl⟩, rfl⟩, fun _ h => absurd h List.not_mem_nil⟩⟩⟩
set_option maxRecDepth 20000 in
theorem ffg_X3_serve_15 : ∀ k ∈ ([0, 3, 5] : List Nat), FF wsX3_serve RX3 15 k 1 ∧ fR k 1 = false := List.forall_mem_cons.mpr ⟨⟨⟨RX0, TX0, 5, "PageDesks$Queue", rfl, rfl, by decide, by decide, uw_X3_serve_0, (List.mem_of_getElem? (i := 3) rfl), Or.inl rfl⟩, rfl⟩, List.forall_mem_cons.mpr ⟨⟨⟨RX3, TX3, 5, "PageDesks$Queue", rfl, rfl, by decide, by decide, uw_X3_serve_3, (List.mem_of_getElem? (i := 3) rfl), Or.inl rfl⟩, rfl⟩, List.forall_mem_cons.mpr ⟨⟨⟨RX5, TX5, 5, "PageDesks$Queue", rfl, rfl, by decide, by decide, uw_X3_serve_5, (List.mem_of_getElem? (i := 3) rfl), Or.inl rfl⟩, rfl⟩, fun _ h => absurd h List.not_mem_nil⟩⟩⟩
set_option maxRecDepth 20000 in
theorem ffg_X3_serve_9 : ∀ k ∈ ([0, 3, 5] : List Nat), FF wsX3_serve RX3 9 k 0 ∧ fR k 0 = true := List.forall_mem_cons.mpr ⟨⟨⟨RX0, TX0, 5, "PageDesks$Queue", rfl, rfl, by decide, by decide, uw_X3_serve_0, (List.mem_of_getElem? (i := 4) rfl), Or.inl rfl⟩, rfl⟩, List.forall_mem_cons.mpr ⟨⟨⟨RX3, TX3, 5, "PageDesks$Queue", rfl, rfl, by decide, by decide, uw_X3_serve_3, (List.mem_of_getElem? (i := 4) rfl), Or.inl rfl⟩, rfl⟩, List.forall_mem_cons.mpr ⟨⟨⟨RX5, TX5, 5, "PageDesks$Queue", rfl, rfl, by decide, by decide, uw_X3_serve_5, (List.mem_of_getElem? (i := 4) rfl), Or.inl rfl⟩, rfl⟩, fun _ h => absurd h List.not_mem_nil⟩⟩⟩
set_option maxRecDepth 20000 in
theorem ffp_X3_serve_19 : ∀ k ∈ ([0, 3, 5] : List Nat), FF wsX3_serve RX3 19 k 2 ∧ fR k 2 = false ∧ FP k 2 := List.forall_mem_cons.mpr ⟨⟨⟨RX0, TX0, 5, "PageDesks$Queue", rfl, rfl, by decide, by decide, uw_X3_serve_0, (List.mem_of_getElem? (i := 2) rfl), Or.inl rfl⟩, rfl, ⟨RX0, TX0, 5, tyX0, rfl, tyX0_ok, nmX0, rfl, rfl⟩⟩, List.forall_mem_cons.mpr ⟨⟨⟨RX3, TX3, 5, "PageDesks$Queue", rfl, rfl, by decide, by decide, uw_X3_serve_3, (List.mem_of_getElem? (i := 2) rfl), Or.inl rfl⟩, rfl, ⟨RX3, TX3, 5, tyX3, rfl, tyX3_ok, nmX3, rfl, rfl⟩⟩, List.forall_mem_cons.mpr ⟨⟨⟨RX5, TX5, 5, "PageDesks$Queue", rfl, rfl, by decide, by decide, uw_X3_serve_5, (List.mem_of_getElem? (i := 2) rfl), Or.inl rfl⟩, rfl, ⟨RX5, TX5, 5, tyX5, rfl, tyX5_ok, nmX5, rfl, rfl⟩⟩, fun _ h => absurd h List.not_mem_nil⟩⟩⟩
set_option maxRecDepth 100000 in
set_option maxHeartbeats 4000000 in
theorem t_X3_serve_48 {f : Fx} {g : Gm} {d : Nat} {Post : Int32 → Mm → Prop}  (hC : Cx f cX3_serve 3 RX3 wsX3_serve rm_X3_serve) (hd : shD g [0, 3, 5] d) (hR : RtZ f cX3_serve (fun r u => u.1 = g ∧ Post r u.2))  : ∀ (x1 : Int32) (I : Mm) , wp_X3_serve_48 (gK g) d  Post x1 I → PW f 0 0 g I 48 [(0, .ref (gA g d)), (1, .int x1)] [] := by
  intro x1 I  hw
  unfold wp_X3_serve_48 at hw
  refine r_aload_n hC dX3_serve_48 rfl rfl (j := 0) rfl ?_
  refine r_getR hC dX3_serve_49 rfl (hd).1.1 (hd).1.2 ffg_X3_serve_9 (hd).2.2 ?_
  refine r_aload_n hC dX3_serve_52 rfl rfl (j := 0) rfl ?_
  refine r_getI hC dX3_serve_53 rfl (hd).1.1 (hd).1.2 ffg_X3_serve_19 ?_
  refine r_iload_n hC dX3_serve_56 rfl rfl (j := 1) rfl ?_
  obtain ⟨hi, hw⟩ := hw
  refine r_iast hC dX3_serve_57 rfl ((hd).2.1).1 ((hd).2.1).2.1 (by rw [((hd).2.1).2.2]; exact hi) ?_
  refine r_aload_n hC dX3_serve_58 rfl rfl (j := 0) rfl ?_
  refine r_dup hC dX3_serve_59 rfl rfl ?_
  refine r_getI hC dX3_serve_60 rfl (hd).1.1 (hd).1.2 ffg_X3_serve_19 ?_
  refine r_iconst hC (v := (1 : Int32)) dX3_serve_63 rfl (by decide) ?_
  refine r_iadd hC dX3_serve_64 rfl ?_
  refine r_putI hC dX3_serve_65 rfl (hd).1.1 (hd).1.2 ffp_X3_serve_19 ?_
  refine r_iconst hC (v := (0 : Int32)) dX3_serve_68 rfl (by decide) ?_
  exact r_retZ hC hR ⟨rfl, rfl⟩ dX3_serve_69 (by decide) hw
set_option maxRecDepth 100000 in
set_option maxHeartbeats 4000000 in
theorem t_X3_serve_0 {f : Fx} {g : Gm} {d : Nat} {Post : Int32 → Mm → Prop} {x1 : Int32} {I : Mm} (hC : Cx f cX3_serve 3 RX3 wsX3_serve rm_X3_serve) (hd : shD g [0, 3, 5] d) (hR : RtZ f cX3_serve (fun r u => u.1 = g ∧ Post r u.2)) (hw : wp_X3_serve (gK g) d x1 I Post) : PW f 0 0 g I 0 [(0, .ref (gA g d)), (1, .int x1)] [] := by
  unfold wp_X3_serve at hw
  refine r_aload_n hC dX3_serve_0 rfl rfl (j := 0) rfl ?_
  refine r_iload_n hC dX3_serve_1 rfl rfl (j := 1) rfl ?_
  refine r_callI hC (rmc := rm_X3_placeOf) (a_K hd (fun h => a_U hC (k := 0) (rmc := rm_X3_placeOf) (c_X3_placeOf hd hw) ci_X3_placeOf gX3_serve_X3_placeOf_u34X0 rfl ⟨Nat.le_of_ble_eq_true rfl, Nat.le_of_ble_eq_true rfl⟩ ⟨Nat.le_of_ble_eq_true rfl, Nat.le_of_ble_eq_true rfl⟩ rfl (by decide) (hd).1.1 h rfl rfl (Nat.le_of_ble_eq_true rfl) dX3_serve_2) (fun h => a_V hC (k := 3) (c_X3_placeOf hd hw) ci_X3_placeOf gX3_serve_X3_placeOf rfl ⟨Nat.le_of_ble_eq_true rfl, Nat.le_of_ble_eq_true rfl⟩ ⟨Nat.le_of_ble_eq_true rfl, Nat.le_of_ble_eq_true rfl⟩ rfl (by decide) (hd).1.1 h rfl rfl (Nat.le_of_ble_eq_true rfl) dX3_serve_2) (fun h => a_U hC (k := 5) (rmc := rm_X3_placeOf) (c_X3_placeOf hd hw) ci_X3_placeOf gX3_serve_X3_placeOf_u34X5 rfl ⟨Nat.le_of_ble_eq_true rfl, Nat.le_of_ble_eq_true rfl⟩ ⟨Nat.le_of_ble_eq_true rfl, Nat.le_of_ble_eq_true rfl⟩ rfl (by decide) (hd).1.1 h rfl rfl (Nat.le_of_ble_eq_true rfl) dX3_serve_2)) ⟨rfl, rfl⟩ rfl (fun r1 J2 hw => ?_)
  refine r_istore_n hC (lv' := [(2, .int r1), (0, .ref (gA g d)), (1, .int x1)]) dX3_serve_5 rfl rfl (by decide) rfl ?_
  refine r_iload_n hC dX3_serve_6 rfl rfl (j := 0) rfl ?_
  refine r_bipush hC (v := (-9 : Int32)) dX3_serve_7 rfl (by decide) ?_
  refine r_icmp_eq hC (tgt := 19) dX3_serve_9 rfl (by decide) hw (fun hw => ?_) (fun hw => ?_)
  · refine r_aload_n hC dX3_serve_19 rfl rfl (j := 1) rfl ?_
    refine r_dup hC dX3_serve_20 rfl rfl ?_
    refine r_getI hC dX3_serve_21 rfl (hd).1.1 (hd).1.2 ffg_X3_serve_25 ?_
    refine r_iconst hC (v := (1 : Int32)) dX3_serve_24 rfl (by decide) ?_
    refine r_iadd hC dX3_serve_25 rfl ?_
    refine r_putI hC dX3_serve_26 rfl (hd).1.1 (hd).1.2 ffp_X3_serve_25 ?_
    refine r_aload_n hC dX3_serve_29 rfl rfl (j := 1) rfl ?_
    refine r_getI hC dX3_serve_30 rfl (hd).1.1 (hd).1.2 ffg_X3_serve_19 ?_
    refine r_aload_n hC dX3_serve_33 rfl rfl (j := 1) rfl ?_
    refine r_getI hC dX3_serve_34 rfl (hd).1.1 (hd).1.2 ffg_X3_serve_15 ?_
    refine r_icmp_lt hC (tgt := 48) dX3_serve_37 rfl (by decide) hw (fun hw => ?_) (fun hw => ?_)
    · exact r_sub (lv' := [(0, .ref (gA g d)), (1, .int x1)]) [1, 2] rfl (t_X3_serve_48 hC hd hR _ _ hw)
    · refine r_aload_n hC dX3_serve_40 rfl rfl (j := 1) rfl ?_
      refine r_callV hC (rmc := rm_X3_spareUsed) (a_K hd (fun h => a_O hC (k := 0) (rmc := rm_X0_spareUsed) (c_X0_spareUsed (shD.of hd h (by decide)) (wpv_spareUsed_0 h hw)) ci_X0_spareUsed gX3_serve_X0_spareUsed_u42X0 (List.mem_of_getElem? (i := 60) rfl) ⟨by decide, by decide⟩ rfl ⟨Nat.le_of_ble_eq_true rfl, Nat.le_of_ble_eq_true rfl⟩ ⟨Nat.le_of_ble_eq_true rfl, Nat.le_of_ble_eq_true rfl⟩ rfl (by decide) (hd).1.1 h rfl rfl (Nat.le_of_ble_eq_true rfl) dX3_serve_41) (fun h => a_V hC (k := 3) (c_X3_spareUsed hd (wpv_spareUsed_3 h hw)) ci_X3_spareUsed gX3_serve_X3_spareUsed rfl ⟨Nat.le_of_ble_eq_true rfl, Nat.le_of_ble_eq_true rfl⟩ ⟨Nat.le_of_ble_eq_true rfl, Nat.le_of_ble_eq_true rfl⟩ rfl (by decide) (hd).1.1 h rfl rfl (Nat.le_of_ble_eq_true rfl) dX3_serve_41) (fun h => a_O hC (k := 5) (rmc := rm_X5_spareUsed) (c_X5_spareUsed (shD.of hd h (by decide)) (wpv_spareUsed_5 h hw)) ci_X5_spareUsed gX3_serve_X5_spareUsed_u42X5 (List.mem_of_getElem? (i := 60) rfl) ⟨by decide, by decide⟩ rfl ⟨Nat.le_of_ble_eq_true rfl, Nat.le_of_ble_eq_true rfl⟩ ⟨Nat.le_of_ble_eq_true rfl, Nat.le_of_ble_eq_true rfl⟩ rfl (by decide) (hd).1.1 h rfl rfl (Nat.le_of_ble_eq_true rfl) dX3_serve_41)) ⟨rfl, rfl⟩ rfl (fun J4 hw => ?_)
      refine r_aload_n hC dX3_serve_44 rfl rfl (j := 1) rfl ?_
      refine r_callV hC (rmc := rm_X3_letFirstGo) (a_K hd (fun h => a_U hC (k := 0) (rmc := rm_X3_letFirstGo) (c_X3_letFirstGo hd hw) ci_X3_letFirstGo gX3_serve_X3_letFirstGo_u45X0 rfl ⟨Nat.le_of_ble_eq_true rfl, Nat.le_of_ble_eq_true rfl⟩ ⟨Nat.le_of_ble_eq_true rfl, Nat.le_of_ble_eq_true rfl⟩ rfl (by decide) (hd).1.1 h rfl rfl (Nat.le_of_ble_eq_true rfl) dX3_serve_45) (fun h => a_V hC (k := 3) (c_X3_letFirstGo hd hw) ci_X3_letFirstGo gX3_serve_X3_letFirstGo rfl ⟨Nat.le_of_ble_eq_true rfl, Nat.le_of_ble_eq_true rfl⟩ ⟨Nat.le_of_ble_eq_true rfl, Nat.le_of_ble_eq_true rfl⟩ rfl (by decide) (hd).1.1 h rfl rfl (Nat.le_of_ble_eq_true rfl) dX3_serve_45) (fun h => a_U hC (k := 5) (rmc := rm_X3_letFirstGo) (c_X3_letFirstGo hd hw) ci_X3_letFirstGo gX3_serve_X3_letFirstGo_u45X5 rfl ⟨Nat.le_of_ble_eq_true rfl, Nat.le_of_ble_eq_true rfl⟩ ⟨Nat.le_of_ble_eq_true rfl, Nat.le_of_ble_eq_true rfl⟩ rfl (by decide) (hd).1.1 h rfl rfl (Nat.le_of_ble_eq_true rfl) dX3_serve_45)) ⟨rfl, rfl⟩ rfl (fun J6 hw => ?_)
      exact r_sub (lv' := [(0, .ref (gA g d)), (1, .int x1)]) [1, 2] rfl (t_X3_serve_48 hC hd hR _ _ hw)
  · refine r_aload_n hC dX3_serve_12 rfl rfl (j := 1) rfl ?_
    refine r_iload_n hC dX3_serve_13 rfl rfl (j := 0) rfl ?_
    refine r_callV hC (rmc := rm_X3_use) (a_K hd (fun h => a_O hC (k := 0) (rmc := rm_X0_use) (c_X0_use (shD.of hd h (by decide)) (wpv_use_0 h hw)) ci_X0_use gX3_serve_X0_use_u38X0 (List.mem_of_getElem? (i := 25) rfl) ⟨by decide, by decide⟩ rfl ⟨Nat.le_of_ble_eq_true rfl, Nat.le_of_ble_eq_true rfl⟩ ⟨Nat.le_of_ble_eq_true rfl, Nat.le_of_ble_eq_true rfl⟩ rfl (by decide) (hd).1.1 h rfl rfl (Nat.le_of_ble_eq_true rfl) dX3_serve_14) (fun h => a_V hC (k := 3) (c_X3_use hd (wpv_use_3 h hw)) ci_X3_use gX3_serve_X3_use rfl ⟨Nat.le_of_ble_eq_true rfl, Nat.le_of_ble_eq_true rfl⟩ ⟨Nat.le_of_ble_eq_true rfl, Nat.le_of_ble_eq_true rfl⟩ rfl (by decide) (hd).1.1 h rfl rfl (Nat.le_of_ble_eq_true rfl) dX3_serve_14) (fun h => a_O hC (k := 5) (rmc := rm_X5_use) (c_X5_use (shD.of hd h (by decide)) (wpv_use_5 h hw)) ci_X5_use gX3_serve_X5_use_u38X5 (List.mem_of_getElem? (i := 25) rfl) ⟨by decide, by decide⟩ rfl ⟨Nat.le_of_ble_eq_true rfl, Nat.le_of_ble_eq_true rfl⟩ ⟨Nat.le_of_ble_eq_true rfl, Nat.le_of_ble_eq_true rfl⟩ rfl (by decide) (hd).1.1 h rfl rfl (Nat.le_of_ble_eq_true rfl) dX3_serve_14)) ⟨rfl, rfl⟩ rfl (fun J8 hw => ?_)
    refine r_iconst hC (v := (1 : Int32)) dX3_serve_17 rfl (by decide) ?_
    exact r_retZ hC hR ⟨rfl, rfl⟩ dX3_serve_18 (by decide) hw
set_option maxRecDepth 100000 in
theorem c_X3_serve {l : Launch} {x : Gx} {g : Gm} {d : Nat} {x1 : Int32} {I : Mm} {Post : Int32 → Mm → Prop} (hd : shD g [0, 3, 5] d) (hw : wp_X3_serve (gK g) d x1 I Post) : KI l x yX3_serve wsX3_serve rm_X3_serve g I [.ref (gA g d), .int x1] (fun r u => u.1 = g ∧ Post r u.2) := KZ_of (by decide) rfl rfl (Nat.le_of_ble_eq_true rfl) (fun f hC _ _ hR => t_X3_serve_0 hC hd hR hw)

/-! X3_placeToGo -/
abbrev rm_X3_placeToGo : Room := { frames := 0, cells := 0, slots := 0, locals := 0 }
theorem ci_X3_placeToGo : CI yX3_placeToGo wsX3_placeToGo cX3_placeToGo 1 (some .int) 0 := ⟨⟨_, rfl⟩, by decide, by decide, by decide +kernel⟩
def wp_X3_placeToGo (ki : Nat → Nat) (d : Nat)  (I : Mm) (Post : Int32 → Mm → Prop) : Prop := Post (0 : Int32) I

set_option maxRecDepth 100000 in
set_option maxHeartbeats 4000000 in
theorem t_X3_placeToGo_0 {f : Fx} {g : Gm} {d : Nat} {Post : Int32 → Mm → Prop}  {I : Mm} (hC : Cx f cX3_placeToGo 1 RX3 wsX3_placeToGo rm_X3_placeToGo) (hd : shD g [0, 3, 5] d) (hR : RtI f cX3_placeToGo (fun r u => u.1 = g ∧ Post r u.2)) (hw : wp_X3_placeToGo (gK g) d  I Post) : PW f 0 0 g I 0 [(0, .ref (gA g d))] [] := by
  unfold wp_X3_placeToGo at hw
  refine r_iconst hC (v := (0 : Int32)) dX3_placeToGo_0 rfl (by decide) ?_
  exact r_retI hC hR ⟨rfl, rfl⟩ dX3_placeToGo_1 hw
set_option maxRecDepth 100000 in
theorem c_X3_placeToGo {l : Launch} {x : Gx} {g : Gm} {d : Nat}  {I : Mm} {Post : Int32 → Mm → Prop} (hd : shD g [0, 3, 5] d) (hw : wp_X3_placeToGo (gK g) d  I Post) : KI l x yX3_placeToGo wsX3_placeToGo rm_X3_placeToGo g I [.ref (gA g d)] (fun r u => u.1 = g ∧ Post r u.2) := KI_of (by decide) rfl rfl (Nat.le_of_ble_eq_true rfl) (fun f hC _ _ hR => t_X3_placeToGo_0 hC hd hR hw)

/-! X5_placeToGo -/
abbrev rm_X5_placeToGo : Room := { frames := 0, cells := 0, slots := 0, locals := 0 }
theorem ci_X5_placeToGo : CI yX5_placeToGo wsX5_placeToGo cX5_placeToGo 1 (some .int) 0 := ⟨⟨_, rfl⟩, by decide, by decide, by decide +kernel⟩
def wp_X5_placeToGo (ki : Nat → Nat) (d : Nat)  (I : Mm) (Post : Int32 → Mm → Prop) : Prop := Post (0 : Int32) I

set_option maxRecDepth 100000 in
set_option maxHeartbeats 4000000 in
theorem t_X5_placeToGo_0 {f : Fx} {g : Gm} {d : Nat} {Post : Int32 → Mm → Prop}  {I : Mm} (hC : Cx f cX5_placeToGo 1 RX5 wsX5_placeToGo rm_X5_placeToGo) (hd : shD g [5] d) (hR : RtI f cX5_placeToGo (fun r u => u.1 = g ∧ Post r u.2)) (hw : wp_X5_placeToGo (gK g) d  I Post) : PW f 0 0 g I 0 [(0, .ref (gA g d))] [] := by
  unfold wp_X5_placeToGo at hw
  refine r_iconst hC (v := (0 : Int32)) dX5_placeToGo_0 rfl (by decide) ?_
  exact r_retI hC hR ⟨rfl, rfl⟩ dX5_placeToGo_1 hw
set_option maxRecDepth 100000 in
theorem c_X5_placeToGo {l : Launch} {x : Gx} {g : Gm} {d : Nat}  {I : Mm} {Post : Int32 → Mm → Prop} (hd : shD g [5] d) (hw : wp_X5_placeToGo (gK g) d  I Post) : KI l x yX5_placeToGo wsX5_placeToGo rm_X5_placeToGo g I [.ref (gA g d)] (fun r u => u.1 = g ∧ Post r u.2) := KI_of (by decide) rfl rfl (Nat.le_of_ble_eq_true rfl) (fun f hC _ _ hR => t_X5_placeToGo_0 hC hd hR hw)

def wpv_placeToGo (ki : Nat → Nat) (d : Nat)  (I : Mm) (Post : Int32 → Mm → Prop) : Prop := if ki d = 3 then wp_X3_placeToGo ki d  I Post else if ki d = 0 then wp_X0_placeToGo ki d  I Post else wp_X5_placeToGo ki d  I Post
theorem wpv_placeToGo_3 {ki : Nat → Nat} {d : Nat}  {I : Mm} {Post : Int32 → Mm → Prop} (h : ki d = 3) (hw : wpv_placeToGo ki d  I Post) : wp_X3_placeToGo ki d  I Post := by
  unfold wpv_placeToGo at hw
  rw [if_pos h] at hw
  exact hw
theorem wpv_placeToGo_0 {ki : Nat → Nat} {d : Nat}  {I : Mm} {Post : Int32 → Mm → Prop} (h : ki d = 0) (hw : wpv_placeToGo ki d  I Post) : wp_X0_placeToGo ki d  I Post := by
  unfold wpv_placeToGo at hw
  rw [if_neg (by rw [h]; decide), if_pos h] at hw
  exact hw
theorem wpv_placeToGo_5 {ki : Nat → Nat} {d : Nat}  {I : Mm} {Post : Int32 → Mm → Prop} (h : ki d = 5) (hw : wpv_placeToGo ki d  I Post) : wp_X5_placeToGo ki d  I Post := by
  unfold wpv_placeToGo at hw
  rw [if_neg (by rw [h]; decide), if_neg (by rw [h]; decide)] at hw
  exact hw
/-! X3_nextToGo -/
abbrev rm_X3_nextToGo : Room := { frames := 2, cells := 0, slots := 0, locals := 42 }
theorem ci_X3_nextToGo : CI yX3_nextToGo wsX3_nextToGo cX3_nextToGo 1 (some .int) 0 := ⟨⟨_, rfl⟩, by decide, by decide, by decide +kernel⟩
def wp_X3_nextToGo (ki : Nat → Nat) (d : Nat)  (I : Mm) (Post : Int32 → Mm → Prop) : Prop := if (I d 1) ≤ (I d 2) then (wpv_placeToGo ki d I (fun r1 J2 => vp_in r1 8 ∧ (Post (J2 (d + 20) r1.toNatClampNeg) J2))) else (Post (-9 : Int32) I)
set_option maxRecDepth 20000 in
theorem uw_X3_nextToGo_0 : ∀ w ∈ u_ws RX0 TX0 5, w ∈ wsX3_nextToGo := by decide +kernel
set_option maxRecDepth 20000 in
theorem uw_X3_nextToGo_3 : ∀ w ∈ u_ws RX3 TX3 5, w ∈ wsX3_nextToGo := by decide +kernel
set_option maxRecDepth 20000 in
theorem uw_X3_nextToGo_5 : ∀ w ∈ u_ws RX5 TX5 5, w ∈ wsX3_nextToGo := by decide +kernel
set_option maxRecDepth 20000 in
theorem ffg_X3_nextToGo_19 : ∀ k ∈ ([0, 3, 5] : List Nat), FF wsX3_nextToGo RX3 19 k 2 ∧ fR k 2 = false := List.forall_mem_cons.mpr ⟨⟨⟨RX0, TX0, 5, "PageDesks$Queue", rfl, rfl, by decide, by decide, uw_X3_nextToGo_0, (List.mem_of_getElem? (i := 1) rfl), Or.inl rfl⟩, rfl⟩, List.forall_mem_cons.mpr ⟨⟨⟨RX3, TX3, 5, "PageDesks$Queue", rfl, rfl, by decide, by decide, uw_X3_nextToGo_3, (List.mem_of_getElem? (i := 1) rfl), Or.inl rfl⟩, rfl⟩, List.forall_mem_cons.mpr ⟨⟨⟨RX5, TX5, 5, "PageDesks$Queue", rfl, rfl, by decide, by decide, uw_X3_nextToGo_5, (List.mem_of_getElem? (i := 1) rfl), Or.inl rfl⟩, rfl⟩, fun _ h => absurd h List.not_mem_nil⟩⟩⟩
set_option maxRecDepth 20000 in
theorem ffg_X3_nextToGo_15 : ∀ k ∈ ([0, 3, 5] : List Nat), FF wsX3_nextToGo RX3 15 k 1 ∧ fR k 1 = false := List.forall_mem_cons.mpr ⟨⟨⟨RX0, TX0, 5, "PageDesks$Queue", rfl, rfl, by decide, by decide, uw_X3_nextToGo_0, (List.mem_of_getElem? (i := 2) rfl), Or.inl rfl⟩, rfl⟩, List.forall_mem_cons.mpr ⟨⟨⟨RX3, TX3, 5, "PageDesks$Queue", rfl, rfl, by decide, by decide, uw_X3_nextToGo_3, (List.mem_of_getElem? (i := 2) rfl), Or.inl rfl⟩, rfl⟩, List.forall_mem_cons.mpr ⟨⟨⟨RX5, TX5, 5, "PageDesks$Queue", rfl, rfl, by decide, by decide, uw_X3_nextToGo_5, (List.mem_of_getElem? (i := 2) rfl), Or.inl rfl⟩, rfl⟩, fun _ h => absurd h List.not_mem_nil⟩⟩⟩
set_option maxRecDepth 20000 in
theorem ffg_X3_nextToGo_9 : ∀ k ∈ ([0, 3, 5] : List Nat), FF wsX3_nextToGo RX3 9 k 0 ∧ fR k 0 = true := List.forall_mem_cons.mpr ⟨⟨⟨RX0, TX0, 5, "PageDesks$Queue", rfl, rfl, by decide, by decide, uw_X3_nextToGo_0, (List.mem_of_getElem? (i := 3) rfl), Or.inl rfl⟩, rfl⟩, List.forall_mem_cons.mpr ⟨⟨⟨RX3, TX3, 5, "PageDesks$Queue", rfl, rfl, by decide, by decide, uw_X3_nextToGo_3, (List.mem_of_getElem? (i := 3) rfl), Or.inl rfl⟩, rfl⟩, List.forall_mem_cons.mpr ⟨⟨⟨RX5, TX5, 5, "PageDesks$Queue", rfl, rfl, by decide, by decide, uw_X3_nextToGo_5, (List.mem_of_getElem? (i := 3) rfl), Or.inl rfl⟩, rfl⟩, fun _ h => absurd h List.not_mem_nil⟩⟩⟩
set_option maxRecDepth 100000 in
set_option maxHeartbeats 4000000 in
theorem t_X3_nextToGo_0 {f : Fx} {g : Gm} {d : Nat} {Post : Int32 → Mm → Prop}  {I : Mm} (hC : Cx f cX3_nextToGo 1 RX3 wsX3_nextToGo rm_X3_nextToGo) (hd : shD g [0, 3, 5] d) (hR : RtI f cX3_nextToGo (fun r u => u.1 = g ∧ Post r u.2)) (hw : wp_X3_nextToGo (gK g) d  I Post) : PW f 0 0 g I 0 [(0, .ref (gA g d))] [] := by
  unfold wp_X3_nextToGo at hw
  refine r_aload_n hC dX3_nextToGo_0 rfl rfl (j := 0) rfl ?_
  refine r_getI hC dX3_nextToGo_1 rfl (hd).1.1 (hd).1.2 ffg_X3_nextToGo_19 ?_
  refine r_aload_n hC dX3_nextToGo_4 rfl rfl (j := 0) rfl ?_
  refine r_getI hC dX3_nextToGo_5 rfl (hd).1.1 (hd).1.2 ffg_X3_nextToGo_15 ?_
  refine r_icmp_ge hC (tgt := 16) dX3_nextToGo_8 rfl (by decide) hw (fun hw => ?_) (fun hw => ?_)
  · refine r_aload_n hC dX3_nextToGo_16 rfl rfl (j := 0) rfl ?_
    refine r_getR hC dX3_nextToGo_17 rfl (hd).1.1 (hd).1.2 ffg_X3_nextToGo_9 (hd).2.2 ?_
    refine r_aload_n hC dX3_nextToGo_20 rfl rfl (j := 0) rfl ?_
    refine r_callI hC (rmc := rm_X3_placeToGo) (a_K hd (fun h => a_O hC (k := 0) (rmc := rm_X0_placeToGo) (c_X0_placeToGo (shD.of hd h (by decide)) (wpv_placeToGo_0 h hw)) ci_X0_placeToGo gX3_nextToGo_X0_placeToGo_u48X0 (List.mem_of_getElem? (i := 21) rfl) ⟨by decide, by decide⟩ rfl ⟨Nat.le_of_ble_eq_true rfl, Nat.le_of_ble_eq_true rfl⟩ ⟨Nat.le_of_ble_eq_true rfl, Nat.le_of_ble_eq_true rfl⟩ rfl (by decide) (hd).1.1 h rfl rfl (Nat.le_of_ble_eq_true rfl) dX3_nextToGo_21) (fun h => a_V hC (k := 3) (c_X3_placeToGo hd (wpv_placeToGo_3 h hw)) ci_X3_placeToGo gX3_nextToGo_X3_placeToGo rfl ⟨Nat.le_of_ble_eq_true rfl, Nat.le_of_ble_eq_true rfl⟩ ⟨Nat.le_of_ble_eq_true rfl, Nat.le_of_ble_eq_true rfl⟩ rfl (by decide) (hd).1.1 h rfl rfl (Nat.le_of_ble_eq_true rfl) dX3_nextToGo_21) (fun h => a_O hC (k := 5) (rmc := rm_X5_placeToGo) (c_X5_placeToGo (shD.of hd h (by decide)) (wpv_placeToGo_5 h hw)) ci_X5_placeToGo gX3_nextToGo_X5_placeToGo_u48X5 (List.mem_of_getElem? (i := 21) rfl) ⟨by decide, by decide⟩ rfl ⟨Nat.le_of_ble_eq_true rfl, Nat.le_of_ble_eq_true rfl⟩ ⟨Nat.le_of_ble_eq_true rfl, Nat.le_of_ble_eq_true rfl⟩ rfl (by decide) (hd).1.1 h rfl rfl (Nat.le_of_ble_eq_true rfl) dX3_nextToGo_21)) ⟨rfl, rfl⟩ rfl (fun r1 J2 hw => ?_)
    obtain ⟨hi, hw⟩ := hw
    refine r_iald hC dX3_nextToGo_24 rfl ((hd).2.1).1 ((hd).2.1).2.1 (by rw [((hd).2.1).2.2]; exact hi) ?_
    exact r_retI hC hR ⟨rfl, rfl⟩ dX3_nextToGo_25 hw
  · refine r_bipush hC (v := (-9 : Int32)) dX3_nextToGo_11 rfl (by decide) ?_
    refine r_goto hC (tgt := 25) dX3_nextToGo_13 (by decide) ?_
    exact r_retI hC hR ⟨rfl, rfl⟩ dX3_nextToGo_25 hw
set_option maxRecDepth 100000 in
theorem c_X3_nextToGo {l : Launch} {x : Gx} {g : Gm} {d : Nat}  {I : Mm} {Post : Int32 → Mm → Prop} (hd : shD g [0, 3, 5] d) (hw : wp_X3_nextToGo (gK g) d  I Post) : KI l x yX3_nextToGo wsX3_nextToGo rm_X3_nextToGo g I [.ref (gA g d)] (fun r u => u.1 = g ∧ Post r u.2) := KI_of (by decide) rfl rfl (Nat.le_of_ble_eq_true rfl) (fun f hC _ _ hR => t_X3_nextToGo_0 hC hd hR hw)

/-! X3_pages -/
abbrev rm_X3_pages : Room := { frames := 0, cells := 0, slots := 0, locals := 0 }
theorem ci_X3_pages : CI yX3_pages wsX3_pages cX3_pages 3 (some .int) 0 := ⟨⟨_, rfl⟩, by decide, by decide, by decide +kernel⟩
def wp_X3_pages_4 (ki : Nat → Nat) (d : Nat)  (Post : Int32 → Mm → Prop) : Nat → Int32 → Int32 → Mm → Prop
  | 0, _, _, _ => False
  | nn4 + 1, x1, x2, I => if (I d 2) ≤ x2 then (Post x1 I) else (vp_in x2 8 ∧ (wp_X3_pages_4 ki d Post nn4 (x1 ||| ((1 : Int32) <<< ((I (d + 20) x2.toNatClampNeg) &&& 31))) (x2 + 1) I))
def wp_X3_pages (ki : Nat → Nat) (d : Nat)  (I : Mm) (Post : Int32 → Mm → Prop) : Prop := ∃ nn4, wp_X3_pages_4 ki d Post nn4 (0 : Int32) (0 : Int32) I
set_option maxRecDepth 20000 in
theorem uw_X3_pages_0 : ∀ w ∈ u_ws RX0 TX0 5, w ∈ wsX3_pages := by decide +kernel
set_option maxRecDepth 20000 in
theorem uw_X3_pages_3 : ∀ w ∈ u_ws RX3 TX3 5, w ∈ wsX3_pages := by decide +kernel
set_option maxRecDepth 20000 in
theorem uw_X3_pages_5 : ∀ w ∈ u_ws RX5 TX5 5, w ∈ wsX3_pages := by decide +kernel
set_option maxRecDepth 20000 in
theorem ffg_X3_pages_19 : ∀ k ∈ ([0, 3, 5] : List Nat), FF wsX3_pages RX3 19 k 2 ∧ fR k 2 = false := List.forall_mem_cons.mpr ⟨⟨⟨RX0, TX0, 5, "PageDesks$Queue", rfl, rfl, by decide, by decide, uw_X3_pages_0, (List.mem_of_getElem? (i := 1) rfl), Or.inl rfl⟩, rfl⟩, List.forall_mem_cons.mpr ⟨⟨⟨RX3, TX3, 5, "PageDesks$Queue", rfl, rfl, by decide, by decide, uw_X3_pages_3, (List.mem_of_getElem? (i := 1) rfl), Or.inl rfl⟩, rfl⟩, List.forall_mem_cons.mpr ⟨⟨⟨RX5, TX5, 5, "PageDesks$Queue", rfl, rfl, by decide, by decide, uw_X3_pages_5, (List.mem_of_getElem? (i := 1) rfl), Or.inl rfl⟩, rfl⟩, fun _ h => absurd h List.not_mem_nil⟩⟩⟩
set_option maxRecDepth 20000 in
theorem ffg_X3_pages_9 : ∀ k ∈ ([0, 3, 5] : List Nat), FF wsX3_pages RX3 9 k 0 ∧ fR k 0 = true := List.forall_mem_cons.mpr ⟨⟨⟨RX0, TX0, 5, "PageDesks$Queue", rfl, rfl, by decide, by decide, uw_X3_pages_0, (List.mem_of_getElem? (i := 2) rfl), Or.inl rfl⟩, rfl⟩, List.forall_mem_cons.mpr ⟨⟨⟨RX3, TX3, 5, "PageDesks$Queue", rfl, rfl, by decide, by decide, uw_X3_pages_3, (List.mem_of_getElem? (i := 2) rfl), Or.inl rfl⟩, rfl⟩, List.forall_mem_cons.mpr ⟨⟨⟨RX5, TX5, 5, "PageDesks$Queue", rfl, rfl, by decide, by decide, uw_X3_pages_5, (List.mem_of_getElem? (i := 2) rfl), Or.inl rfl⟩, rfl⟩, fun _ h => absurd h List.not_mem_nil⟩⟩⟩
set_option maxRecDepth 100000 in
set_option maxHeartbeats 4000000 in
theorem t_X3_pages_4 {f : Fx} {g : Gm} {d : Nat} {Post : Int32 → Mm → Prop}  (hC : Cx f cX3_pages 3 RX3 wsX3_pages rm_X3_pages) (hd : shD g [0, 3, 5] d) (hR : RtI f cX3_pages (fun r u => u.1 = g ∧ Post r u.2))  : ∀ (nn4 : Nat) (x1 : Int32) (x2 : Int32) (I : Mm) , wp_X3_pages_4 (gK g) d  Post nn4 x1 x2 I → PW f 0 0 g I 4 [(0, .ref (gA g d)), (1, .int x1), (2, .int x2)] [] := by
  intro nn4
  induction nn4 with
  | zero =>
    intro x1 x2 I  hw
    exact absurd hw id
  | succ nn4 ih =>
    intro x1 x2 I  hw
    unfold wp_X3_pages_4 at hw
    refine r_iload_n hC dX3_pages_4 rfl rfl (j := 2) rfl ?_
    refine r_aload_n hC dX3_pages_5 rfl rfl (j := 0) rfl ?_
    refine r_getI hC dX3_pages_6 rfl (hd).1.1 (hd).1.2 ffg_X3_pages_19 ?_
    refine r_icmp_ge hC (tgt := 29) dX3_pages_9 rfl (by decide) hw (fun hw => ?_) (fun hw => ?_)
    · refine r_iload_n hC dX3_pages_29 rfl rfl (j := 1) rfl ?_
      exact r_retI hC hR ⟨rfl, rfl⟩ dX3_pages_30 hw
    · refine r_iload_n hC dX3_pages_12 rfl rfl (j := 1) rfl ?_
      refine r_iconst hC (v := (1 : Int32)) dX3_pages_13 rfl (by decide) ?_
      refine r_aload_n hC dX3_pages_14 rfl rfl (j := 0) rfl ?_
      refine r_getR hC dX3_pages_15 rfl (hd).1.1 (hd).1.2 ffg_X3_pages_9 (hd).2.2 ?_
      refine r_iload_n hC dX3_pages_18 rfl rfl (j := 2) rfl ?_
      obtain ⟨hi, hw⟩ := hw
      refine r_iald hC dX3_pages_19 rfl ((hd).2.1).1 ((hd).2.1).2.1 (by rw [((hd).2.1).2.2]; exact hi) ?_
      refine r_ishl hC dX3_pages_20 rfl ?_
      refine r_ior hC dX3_pages_21 rfl ?_
      refine r_istore_n hC (lv' := [(1, .int (x1 ||| ((1 : Int32) <<< ((I (d + 20) x2.toNatClampNeg) &&& 31)))), (0, .ref (gA g d)), (2, .int x2)]) dX3_pages_22 rfl rfl (by decide) rfl ?_
      refine r_iinc hC (k := 1) (lv' := [(2, .int (x2 + 1)), (1, .int (x1 ||| ((1 : Int32) <<< ((I (d + 20) x2.toNatClampNeg) &&& 31)))), (0, .ref (gA g d))]) dX3_pages_23 rfl (j := 2) rfl (by decide) (by decide) rfl ?_
      refine r_goto hC (tgt := 4) dX3_pages_26 (by decide) ?_
      exact r_sub (lv' := [(0, .ref (gA g d)), (1, .int (x1 ||| ((1 : Int32) <<< ((I (d + 20) x2.toNatClampNeg) &&& 31)))), (2, .int (x2 + 1))]) [2, 1, 0] rfl (ih _ _ _ hw)
set_option maxRecDepth 100000 in
set_option maxHeartbeats 4000000 in
theorem t_X3_pages_0 {f : Fx} {g : Gm} {d : Nat} {Post : Int32 → Mm → Prop}  {I : Mm} (hC : Cx f cX3_pages 3 RX3 wsX3_pages rm_X3_pages) (hd : shD g [0, 3, 5] d) (hR : RtI f cX3_pages (fun r u => u.1 = g ∧ Post r u.2)) (hw : wp_X3_pages (gK g) d  I Post) : PW f 0 0 g I 0 [(0, .ref (gA g d))] [] := by
  unfold wp_X3_pages at hw
  refine r_iconst hC (v := (0 : Int32)) dX3_pages_0 rfl (by decide) ?_
  refine r_istore_n hC (lv' := [(1, .int (0 : Int32)), (0, .ref (gA g d))]) dX3_pages_1 rfl rfl (by decide) rfl ?_
  refine r_iconst hC (v := (0 : Int32)) dX3_pages_2 rfl (by decide) ?_
  refine r_istore_n hC (lv' := [(2, .int (0 : Int32)), (1, .int (0 : Int32)), (0, .ref (gA g d))]) dX3_pages_3 rfl rfl (by decide) rfl ?_
  obtain ⟨nn4, hw⟩ := hw
  exact r_sub (lv' := [(0, .ref (gA g d)), (1, .int (0 : Int32)), (2, .int (0 : Int32))]) [2, 1, 0] rfl ((t_X3_pages_4 hC hd hR nn4 _ _ _ hw))
set_option maxRecDepth 100000 in
theorem c_X3_pages {l : Launch} {x : Gx} {g : Gm} {d : Nat}  {I : Mm} {Post : Int32 → Mm → Prop} (hd : shD g [0, 3, 5] d) (hw : wp_X3_pages (gK g) d  I Post) : KI l x yX3_pages wsX3_pages rm_X3_pages g I [.ref (gA g d)] (fun r u => u.1 = g ∧ Post r u.2) := KI_of (by decide) rfl rfl (Nat.le_of_ble_eq_true rfl) (fun f hC _ _ hR => t_X3_pages_0 hC hd hR hw)

/-! X3_telling -/
abbrev rm_X3_telling : Room := { frames := 2, cells := 0, slots := 0, locals := 42 }
theorem ci_X3_telling : CI yX3_telling wsX3_telling cX3_telling 2 (some .int) 1 := ⟨⟨_, rfl⟩, by decide, by decide, by decide +kernel⟩
def wp_X3_telling (ki : Nat → Nat) (d : Nat)  (I : Mm) (Post : Int32 → Mm → Prop) : Prop := wp_X3_queueTelling ki d I (fun r1 J2 => Post r1 J2)

set_option maxRecDepth 100000 in
set_option maxHeartbeats 4000000 in
theorem t_X3_telling_0 {f : Fx} {g : Gm} {d : Nat} {Post : Int32 → Mm → Prop}  {I : Mm} (hC : Cx f cX3_telling 2 RX3 wsX3_telling rm_X3_telling) (hd : shD g [0, 3, 5] d) (hc : shC g) (hR : RtI f cX3_telling (fun r u => u.1 = g ∧ Post r u.2)) (hw : wp_X3_telling (gK g) d  I Post) : PW f 0 0 g I 0 [(0, .ref (gA g d)), (1, .ref (gA g 16))] [] := by
  unfold wp_X3_telling at hw
  refine r_aload_n hC dX3_telling_0 rfl rfl (j := 0) rfl ?_
  refine r_aload_n hC dX3_telling_1 rfl rfl (j := 1) rfl ?_
  refine r_callI hC (rmc := rm_X3_queueTelling) (a_K hd (fun h => a_U hC (k := 0) (rmc := rm_X3_queueTelling) (c_X3_queueTelling hd hc hw) ci_X3_queueTelling gX3_telling_X3_queueTelling_u52X0 rfl ⟨Nat.le_of_ble_eq_true rfl, Nat.le_of_ble_eq_true rfl⟩ ⟨Nat.le_of_ble_eq_true rfl, Nat.le_of_ble_eq_true rfl⟩ rfl (by decide) (hd).1.1 h rfl rfl (Nat.le_of_ble_eq_true rfl) dX3_telling_2) (fun h => a_V hC (k := 3) (c_X3_queueTelling hd hc hw) ci_X3_queueTelling gX3_telling_X3_queueTelling rfl ⟨Nat.le_of_ble_eq_true rfl, Nat.le_of_ble_eq_true rfl⟩ ⟨Nat.le_of_ble_eq_true rfl, Nat.le_of_ble_eq_true rfl⟩ rfl (by decide) (hd).1.1 h rfl rfl (Nat.le_of_ble_eq_true rfl) dX3_telling_2) (fun h => a_U hC (k := 5) (rmc := rm_X3_queueTelling) (c_X3_queueTelling hd hc hw) ci_X3_queueTelling gX3_telling_X3_queueTelling_u52X5 rfl ⟨Nat.le_of_ble_eq_true rfl, Nat.le_of_ble_eq_true rfl⟩ ⟨Nat.le_of_ble_eq_true rfl, Nat.le_of_ble_eq_true rfl⟩ rfl (by decide) (hd).1.1 h rfl rfl (Nat.le_of_ble_eq_true rfl) dX3_telling_2)) ⟨rfl, rfl⟩ rfl (fun r1 J2 hw => ?_)
  exact r_retI hC hR ⟨rfl, rfl⟩ dX3_telling_5 hw
set_option maxRecDepth 100000 in
theorem c_X3_telling {l : Launch} {x : Gx} {g : Gm} {d : Nat}  {I : Mm} {Post : Int32 → Mm → Prop} (hd : shD g [0, 3, 5] d) (hc : shC g) (hw : wp_X3_telling (gK g) d  I Post) : KI l x yX3_telling wsX3_telling rm_X3_telling g I [.ref (gA g d), .ref (gA g 16)] (fun r u => u.1 = g ∧ Post r u.2) := KI_of (by decide) rfl rfl (Nat.le_of_ble_eq_true rfl) (fun f hC _ _ hR => t_X3_telling_0 hC hd hc hR hw)

/-! X3_counted -/
abbrev rm_X3_counted : Room := { frames := 1, cells := 0, slots := 0, locals := 21 }
theorem ci_X3_counted : CI yX3_counted wsX3_counted cX3_counted 2 (some .int) 1 := ⟨⟨_, rfl⟩, by decide, by decide, by decide +kernel⟩
def wp_X3_counted (ki : Nat → Nat) (d : Nat)  (I : Mm) (Post : Int32 → Mm → Prop) : Prop := wp_X8_leave (4 : Int32) I (fun J2 => Post (J2 d 4) J2)
set_option maxRecDepth 20000 in
theorem uw_X3_counted_0 : ∀ w ∈ u_ws RX0 TX0 5, w ∈ wsX3_counted := by decide +kernel
set_option maxRecDepth 20000 in
theorem uw_X3_counted_3 : ∀ w ∈ u_ws RX3 TX3 5, w ∈ wsX3_counted := by decide +kernel
set_option maxRecDepth 20000 in
theorem uw_X3_counted_5 : ∀ w ∈ u_ws RX5 TX5 5, w ∈ wsX3_counted := by decide +kernel
set_option maxRecDepth 20000 in
theorem ffg_X3_counted_25 : ∀ k ∈ ([0, 3, 5] : List Nat), FF wsX3_counted RX3 25 k 4 ∧ fR k 4 = false := List.forall_mem_cons.mpr ⟨⟨⟨RX0, TX0, 5, "PageDesks$Queue", rfl, rfl, by decide, by decide, uw_X3_counted_0, (List.mem_of_getElem? (i := 1) rfl), Or.inl rfl⟩, rfl⟩, List.forall_mem_cons.mpr ⟨⟨⟨RX3, TX3, 5, "PageDesks$Queue", rfl, rfl, by decide, by decide, uw_X3_counted_3, (List.mem_of_getElem? (i := 1) rfl), Or.inl rfl⟩, rfl⟩, List.forall_mem_cons.mpr ⟨⟨⟨RX5, TX5, 5, "PageDesks$Queue", rfl, rfl, by decide, by decide, uw_X3_counted_5, (List.mem_of_getElem? (i := 1) rfl), Or.inl rfl⟩, rfl⟩, fun _ h => absurd h List.not_mem_nil⟩⟩⟩
set_option maxRecDepth 100000 in
set_option maxHeartbeats 4000000 in
theorem t_X3_counted_0 {f : Fx} {g : Gm} {d : Nat} {Post : Int32 → Mm → Prop}  {I : Mm} (hC : Cx f cX3_counted 2 RX3 wsX3_counted rm_X3_counted) (hd : shD g [0, 3, 5] d) (hc : shC g) (hR : RtI f cX3_counted (fun r u => u.1 = g ∧ Post r u.2)) (hw : wp_X3_counted (gK g) d  I Post) : PW f 0 0 g I 0 [(0, .ref (gA g d)), (1, .ref (gA g 16))] [] := by
  unfold wp_X3_counted at hw
  refine r_aload_n hC dX3_counted_0 rfl rfl (j := 1) rfl ?_
  refine r_iconst hC (v := (4 : Int32)) dX3_counted_1 rfl (by decide) ?_
  refine r_callV hC (a_V hC (k := 8) (c_X8_leave hc hw) ci_X8_leave gX3_counted_X8_leave rfl ⟨Nat.le_of_ble_eq_true rfl, Nat.le_of_ble_eq_true rfl⟩ ⟨Nat.le_of_ble_eq_true rfl, Nat.le_of_ble_eq_true rfl⟩ rfl (by decide) (hc).1 (List.mem_singleton.mp (hc).2) rfl rfl (Nat.le_of_ble_eq_true rfl) dX3_counted_2) ⟨rfl, rfl⟩ rfl (fun J2 hw => ?_)
  refine r_aload_n hC dX3_counted_5 rfl rfl (j := 0) rfl ?_
  refine r_getI hC dX3_counted_6 rfl (hd).1.1 (hd).1.2 ffg_X3_counted_25 ?_
  exact r_retI hC hR ⟨rfl, rfl⟩ dX3_counted_9 hw
set_option maxRecDepth 100000 in
theorem c_X3_counted {l : Launch} {x : Gx} {g : Gm} {d : Nat}  {I : Mm} {Post : Int32 → Mm → Prop} (hd : shD g [0, 3, 5] d) (hc : shC g) (hw : wp_X3_counted (gK g) d  I Post) : KI l x yX3_counted wsX3_counted rm_X3_counted g I [.ref (gA g d), .ref (gA g 16)] (fun r u => u.1 = g ∧ Post r u.2) := KI_of (by decide) rfl rfl (Nat.le_of_ble_eq_true rfl) (fun f hC _ _ hR => t_X3_counted_0 hC hd hc hR hw)

/-! X4_append -/
abbrev rm_X4_append : Room := { frames := 0, cells := 0, slots := 0, locals := 0 }
theorem ci_X4_append : CI yX4_append wsX4_append cX4_append 4 none 3 := ⟨⟨_, rfl⟩, by decide, by decide, by decide +kernel⟩
def wp_X4_append  (x1 : Int32) (x2 : Int32) (x3 : Int32) (I : Mm) (Post : Mm → Prop) : Prop := vp_in (I 12 3) 8 ∧ (vp_in ((up2 I 13 (I 12 3).toNatClampNeg x1) 12 3) 8 ∧ (vp_in ((up2 (up2 I 13 (I 12 3).toNatClampNeg x1) 14 ((up2 I 13 (I 12 3).toNatClampNeg x1) 12 3).toNatClampNeg x2) 12 3) 8 ∧ (Post (up2 (up2 (up2 (up2 I 13 (I 12 3).toNatClampNeg x1) 14 ((up2 I 13 (I 12 3).toNatClampNeg x1) 12 3).toNatClampNeg x2) 15 ((up2 (up2 I 13 (I 12 3).toNatClampNeg x1) 14 ((up2 I 13 (I 12 3).toNatClampNeg x1) 12 3).toNatClampNeg x2) 12 3).toNatClampNeg x3) 12 3 (((up2 (up2 (up2 I 13 (I 12 3).toNatClampNeg x1) 14 ((up2 I 13 (I 12 3).toNatClampNeg x1) 12 3).toNatClampNeg x2) 15 ((up2 (up2 I 13 (I 12 3).toNatClampNeg x1) 14 ((up2 I 13 (I 12 3).toNatClampNeg x1) 12 3).toNatClampNeg x2) 12 3).toNatClampNeg x3) 12 3) + (1 : Int32))))))
set_option maxRecDepth 20000 in
theorem uw_X4_append_4 : ∀ w ∈ u_ws RX4 TX4 4, w ∈ wsX4_append := by decide +kernel
set_option maxRecDepth 20000 in
theorem ffg_X4_append_9 : ∀ k ∈ ([4] : List Nat), FF wsX4_append RX4 9 k 0 ∧ fR k 0 = true := List.forall_mem_cons.mpr ⟨⟨⟨RX4, TX4, 4, "PageDesks$Readings", rfl, rfl, by decide, by decide, uw_X4_append_4, (List.mem_of_getElem? (i := 1) rfl), Or.inl rfl⟩, rfl⟩, fun _ h => absurd h List.not_mem_nil⟩
set_option maxRecDepth 20000 in
theorem ffg_X4_append_21 : ∀ k ∈ ([4] : List Nat), FF wsX4_append RX4 21 k 3 ∧ fR k 3 = false := List.forall_mem_cons.mpr ⟨⟨⟨RX4, TX4, 4, "PageDesks$Readings", rfl, rfl, by decide, by decide, uw_X4_append_4, (List.mem_of_getElem? (i := 2) rfl), Or.inl rfl⟩, rfl⟩, fun _ h => absurd h List.not_mem_nil⟩
set_option maxRecDepth 20000 in
theorem ffg_X4_append_15 : ∀ k ∈ ([4] : List Nat), FF wsX4_append RX4 15 k 1 ∧ fR k 1 = true := List.forall_mem_cons.mpr ⟨⟨⟨RX4, TX4, 4, "PageDesks$Readings", rfl, rfl, by decide, by decide, uw_X4_append_4, (List.mem_of_getElem? (i := 3) rfl), Or.inl rfl⟩, rfl⟩, fun _ h => absurd h List.not_mem_nil⟩
set_option maxRecDepth 20000 in
theorem ffg_X4_append_18 : ∀ k ∈ ([4] : List Nat), FF wsX4_append RX4 18 k 2 ∧ fR k 2 = true := List.forall_mem_cons.mpr ⟨⟨⟨RX4, TX4, 4, "PageDesks$Readings", rfl, rfl, by decide, by decide, uw_X4_append_4, (List.mem_of_getElem? (i := 4) rfl), Or.inl rfl⟩, rfl⟩, fun _ h => absurd h List.not_mem_nil⟩
set_option maxRecDepth 20000 in
theorem ffp_X4_append_21 : ∀ k ∈ ([4] : List Nat), FF wsX4_append RX4 21 k 3 ∧ fR k 3 = false ∧ FP k 3 := List.forall_mem_cons.mpr ⟨⟨⟨RX4, TX4, 4, "PageDesks$Readings", rfl, rfl, by decide, by decide, uw_X4_append_4, (List.mem_of_getElem? (i := 2) rfl), Or.inl rfl⟩, rfl, ⟨RX4, TX4, 4, tyX4, rfl, tyX4_ok, nmX4, rfl, rfl⟩⟩, fun _ h => absurd h List.not_mem_nil⟩
set_option maxRecDepth 100000 in
set_option maxHeartbeats 4000000 in
theorem t_X4_append_0 {f : Fx} {g : Gm}  {Post : Mm → Prop} {x1 : Int32} {x2 : Int32} {x3 : Int32} {I : Mm} (hC : Cx f cX4_append 4 RX4 wsX4_append rm_X4_append) (hG : shG g) (hR : RtV f cX4_append (fun u => u.1 = g ∧ Post u.2)) (hw : wp_X4_append  x1 x2 x3 I Post) : PW f 0 0 g I 0 [(0, .ref (gA g 12)), (1, .int x1), (2, .int x2), (3, .int x3)] [] := by
  unfold wp_X4_append at hw
  refine r_aload_n hC dX4_append_0 rfl rfl (j := 0) rfl ?_
  refine r_getR hC dX4_append_1 rfl (hG).1.1 (hG).1.2 ffg_X4_append_9 (hG).2.2.2.2.1 ?_
  refine r_aload_n hC dX4_append_4 rfl rfl (j := 0) rfl ?_
  refine r_getI hC dX4_append_5 rfl (hG).1.1 (hG).1.2 ffg_X4_append_21 ?_
  refine r_iload_n hC dX4_append_8 rfl rfl (j := 1) rfl ?_
  obtain ⟨hi, hw⟩ := hw
  refine r_iast hC dX4_append_9 rfl ((hG).2.1).1 ((hG).2.1).2.1 (by rw [((hG).2.1).2.2]; exact hi) ?_
  refine r_aload_n hC dX4_append_10 rfl rfl (j := 0) rfl ?_
  refine r_getR hC dX4_append_11 rfl (hG).1.1 (hG).1.2 ffg_X4_append_15 (hG).2.2.2.2.2.1 ?_
  refine r_aload_n hC dX4_append_14 rfl rfl (j := 0) rfl ?_
  refine r_getI hC dX4_append_15 rfl (hG).1.1 (hG).1.2 ffg_X4_append_21 ?_
  refine r_iload_n hC dX4_append_18 rfl rfl (j := 2) rfl ?_
  obtain ⟨hi, hw⟩ := hw
  refine r_iast hC dX4_append_19 rfl ((hG).2.2.1).1 ((hG).2.2.1).2.1 (by rw [((hG).2.2.1).2.2]; exact hi) ?_
  refine r_aload_n hC dX4_append_20 rfl rfl (j := 0) rfl ?_
  refine r_getR hC dX4_append_21 rfl (hG).1.1 (hG).1.2 ffg_X4_append_18 (hG).2.2.2.2.2.2 ?_
  refine r_aload_n hC dX4_append_24 rfl rfl (j := 0) rfl ?_
  refine r_getI hC dX4_append_25 rfl (hG).1.1 (hG).1.2 ffg_X4_append_21 ?_
  refine r_iload_n hC dX4_append_28 rfl rfl (j := 3) rfl ?_
  obtain ⟨hi, hw⟩ := hw
  refine r_iast hC dX4_append_29 rfl ((hG).2.2.2.1).1 ((hG).2.2.2.1).2.1 (by rw [((hG).2.2.2.1).2.2]; exact hi) ?_
  refine r_aload_n hC dX4_append_30 rfl rfl (j := 0) rfl ?_
  refine r_dup hC dX4_append_31 rfl rfl ?_
  refine r_getI hC dX4_append_32 rfl (hG).1.1 (hG).1.2 ffg_X4_append_21 ?_
  refine r_iconst hC (v := (1 : Int32)) dX4_append_35 rfl (by decide) ?_
  refine r_iadd hC dX4_append_36 rfl ?_
  refine r_putI hC dX4_append_37 rfl (hG).1.1 (hG).1.2 ffp_X4_append_21 ?_
  exact r_retV hC hR ⟨rfl, rfl⟩ dX4_append_40 hw
set_option maxRecDepth 100000 in
theorem c_X4_append {l : Launch} {x : Gx} {g : Gm}  {x1 : Int32} {x2 : Int32} {x3 : Int32} {I : Mm} {Post : Mm → Prop} (hG : shG g) (hw : wp_X4_append  x1 x2 x3 I Post) : KV l x yX4_append wsX4_append rm_X4_append g I [.ref (gA g 12), .int x1, .int x2, .int x3] (fun u => u.1 = g ∧ Post u.2) := KV_of (by decide) rfl rfl (Nat.le_of_ble_eq_true rfl) (fun f hC _ _ hR => t_X4_append_0 hC hG hR hw)
