/-! X10_pagesFrom -/
abbrev rm_X10_pagesFrom : Room := { frames := 0, cells := 0, slots := 0, locals := 0 }
theorem ci_X10_pagesFrom : CI yX10_pagesFrom wsX10_pagesFrom cX10_pagesFrom 5 (some .int) 2 := ⟨⟨_, rfl⟩, by decide, by decide, by decide +kernel⟩
def wp_X10_pagesFrom_5   (Post : Int32 → Mm → Prop) : Nat → Int32 → Int32 → Int32 → Mm → Prop
  | 0, _, _, _, _ => False
  | nn5 + 1, x2, x3, x4, I => if x2 < x4 then (Post x3 I) else (vp_in x4 24 ∧ (wp_X10_pagesFrom_5  Post nn5 x2 (x3 ||| ((1 : Int32) <<< ((I 106 x4.toNatClampNeg) &&& 31))) (x4 + 1) I))
def wp_X10_pagesFrom  (x1 : Int32) (x2 : Int32) (I : Mm) (Post : Int32 → Mm → Prop) : Prop := ∃ nn5, wp_X10_pagesFrom_5  Post nn5 x2 (0 : Int32) x1 I
set_option maxRecDepth 20000 in
theorem uw_X10_pagesFrom_10 : ∀ w ∈ u_ws RX10 TX10 30, w ∈ wsX10_pagesFrom := by decide +kernel
set_option maxRecDepth 20000 in
theorem ffg_X10_pagesFrom_16 : ∀ k ∈ ([10] : List Nat), FF wsX10_pagesFrom RX10 16 k 6 ∧ fR k 6 = true := List.forall_mem_cons.mpr ⟨⟨⟨RX10, TX10, 30, "PageDesksModel", rfl, rfl, by decide, by decide, uw_X10_pagesFrom_10, (List.mem_of_getElem? (i := 1) rfl), Or.inl rfl⟩, rfl⟩, fun _ h => absurd h List.not_mem_nil⟩
set_option maxRecDepth 100000 in
set_option maxHeartbeats 4000000 in
theorem t_X10_pagesFrom_5 {f : Fx} {g : Gm}  {Post : Int32 → Mm → Prop}  (hC : Cx f cX10_pagesFrom 5 RX10 wsX10_pagesFrom rm_X10_pagesFrom) (hG : shM g) (hR : RtI f cX10_pagesFrom (fun r u => u.1 = g ∧ Post r u.2))  : ∀ (nn5 : Nat) (x2 : Int32) (x3 : Int32) (x4 : Int32) (I : Mm) , wp_X10_pagesFrom_5   Post nn5 x2 x3 x4 I → PW f 0 0 g I 5 [(0, .ref (gA g 100)), (2, .int x2), (3, .int x3), (4, .int x4)] [] := by
  intro nn5
  induction nn5 with
  | zero =>
    intro x2 x3 x4 I  hw
    exact absurd hw id
  | succ nn5 ih =>
    intro x2 x3 x4 I  hw
    unfold wp_X10_pagesFrom_5 at hw
    refine r_iload hC dX10_pagesFrom_5 rfl (j := 3) rfl ?_
    refine r_iload_n hC dX10_pagesFrom_7 rfl rfl (j := 1) rfl ?_
    refine r_icmp_gt hC (tgt := 29) dX10_pagesFrom_8 rfl (by decide) hw (fun hw => ?_) (fun hw => ?_)
    · refine r_iload_n hC dX10_pagesFrom_29 rfl rfl (j := 2) rfl ?_
      exact r_retI hC hR ⟨rfl, rfl⟩ dX10_pagesFrom_30 hw
    · refine r_iload_n hC dX10_pagesFrom_11 rfl rfl (j := 2) rfl ?_
      refine r_iconst hC (v := (1 : Int32)) dX10_pagesFrom_12 rfl (by decide) ?_
      refine r_aload_n hC dX10_pagesFrom_13 rfl rfl (j := 0) rfl ?_
      refine r_getR hC dX10_pagesFrom_14 rfl hG.o.1 hG.o.2 ffg_X10_pagesFrom_16 hG.a6.2 ?_
      refine r_iload hC dX10_pagesFrom_17 rfl (j := 3) rfl ?_
      obtain ⟨hi, hw⟩ := hw
      refine r_iald hC dX10_pagesFrom_19 rfl (hG.a6.1).1 (hG.a6.1).2.1 (by rw [(hG.a6.1).2.2]; exact hi) ?_
      refine r_ishl hC dX10_pagesFrom_20 rfl ?_
      refine r_ior hC dX10_pagesFrom_21 rfl ?_
      refine r_istore_n hC (lv' := [(3, .int (x3 ||| ((1 : Int32) <<< ((I 106 x4.toNatClampNeg) &&& 31)))), (0, .ref (gA g 100)), (2, .int x2), (4, .int x4)]) dX10_pagesFrom_22 rfl rfl (by decide) rfl ?_
      refine r_iinc hC (k := 1) (lv' := [(4, .int (x4 + 1)), (3, .int (x3 ||| ((1 : Int32) <<< ((I 106 x4.toNatClampNeg) &&& 31)))), (0, .ref (gA g 100)), (2, .int x2)]) dX10_pagesFrom_23 rfl (j := 3) rfl (by decide) (by decide) rfl ?_
      refine r_goto hC (tgt := 5) dX10_pagesFrom_26 (by decide) ?_
      exact r_sub (lv' := [(0, .ref (gA g 100)), (2, .int x2), (3, .int (x3 ||| ((1 : Int32) <<< ((I 106 x4.toNatClampNeg) &&& 31)))), (4, .int (x4 + 1))]) [2, 3, 1, 0] rfl (ih _ _ _ _ hw)
set_option maxRecDepth 100000 in
set_option maxHeartbeats 4000000 in
theorem t_X10_pagesFrom_0 {f : Fx} {g : Gm}  {Post : Int32 → Mm → Prop} {x1 : Int32} {x2 : Int32} {I : Mm} (hC : Cx f cX10_pagesFrom 5 RX10 wsX10_pagesFrom rm_X10_pagesFrom) (hG : shM g) (hR : RtI f cX10_pagesFrom (fun r u => u.1 = g ∧ Post r u.2)) (hw : wp_X10_pagesFrom  x1 x2 I Post) : PW f 0 0 g I 0 [(0, .ref (gA g 100)), (1, .int x1), (2, .int x2)] [] := by
  unfold wp_X10_pagesFrom at hw
  refine r_iconst hC (v := (0 : Int32)) dX10_pagesFrom_0 rfl (by decide) ?_
  refine r_istore_n hC (lv' := [(3, .int (0 : Int32)), (0, .ref (gA g 100)), (1, .int x1), (2, .int x2)]) dX10_pagesFrom_1 rfl rfl (by decide) rfl ?_
  refine r_iload_n hC dX10_pagesFrom_2 rfl rfl (j := 2) rfl ?_
  refine r_istore hC (lv' := [(4, .int x1), (3, .int (0 : Int32)), (0, .ref (gA g 100)), (1, .int x1), (2, .int x2)]) dX10_pagesFrom_3 rfl (by decide) rfl ?_
  obtain ⟨nn5, hw⟩ := hw
  exact r_sub (lv' := [(0, .ref (gA g 100)), (2, .int x2), (3, .int (0 : Int32)), (4, .int x1)]) [2, 4, 1, 0] rfl ((t_X10_pagesFrom_5 hC hG hR nn5 _ _ _ _ hw))
set_option maxRecDepth 100000 in
theorem c_X10_pagesFrom {l : Launch} {x : Gx} {g : Gm}  {x1 : Int32} {x2 : Int32} {I : Mm} {Post : Int32 → Mm → Prop} (hG : shM g) (hw : wp_X10_pagesFrom  x1 x2 I Post) : KI l x yX10_pagesFrom wsX10_pagesFrom rm_X10_pagesFrom g I [.ref (gA g 100), .int x1, .int x2] (fun r u => u.1 = g ∧ Post r u.2) := KI_of (by decide) rfl rfl (Nat.le_of_ble_eq_true rfl) (fun f hC _ _ hR => t_X10_pagesFrom_0 hC hG hR hw)

/-! X10_depth -/
abbrev rm_X10_depth : Room := { frames := 2, cells := 0, slots := 0, locals := 46 }
theorem ci_X10_depth : CI yX10_depth wsX10_depth cX10_depth 4 (some .int) 1 := ⟨⟨_, rfl⟩, by decide, by decide, by decide +kernel⟩
def wp_X10_depth_40  (Kb : Int32 → Int32 → Int32 → Mm → Prop) (K47 : Int32 → Int32 → Mm → Prop) (Post : Int32 → Mm → Prop) (x1 : Int32) (x3 : Int32) (s0 : Int32) (I : Mm) : Prop := Kb x1 s0 (x3 + 1) I
def wp_X10_depth_15  (K47 : Int32 → Int32 → Mm → Prop) (Post : Int32 → Mm → Prop) : Nat → Int32 → Int32 → Int32 → Mm → Prop
  | 0, _, _, _, _ => False
  | nn15 + 1, x1, x2, x3, I => if x1 ≤ x3 then (K47 x1 x2 I) else (vp_in x3 24 ∧ (vp_in x1 24 ∧ (if (I 106 x3.toNatClampNeg) = (I 106 x1.toNatClampNeg) then (wp_X10_depth_40 (fun x1 x2 x3 I => wp_X10_depth_15 K47 Post nn15 x1 x2 x3 I) K47 Post x1 x3 x3 I) else (wp_X10_depth_40 (fun x1 x2 x3 I => wp_X10_depth_15 K47 Post nn15 x1 x2 x3 I) K47 Post x1 x3 x2 I))))
def wp_X10_depth_47   (Post : Int32 → Mm → Prop) (x1 : Int32) (x2 : Int32) (I : Mm) : Prop := if 0 ≤ x2 then (wp_X10_pagesFrom x2 x1 I (fun r3 J4 => wp_X10_bits r3 J4 (fun r5 J6 => Post r5 J6))) else (Post (-9 : Int32) I)
def wp_X10_depth  (x1 : Int32) (I : Mm) (Post : Int32 → Mm → Prop) : Prop := wp_X10_noAsk x1 I (fun r1 J2 => if r1 = 0 then (∃ nn15, wp_X10_depth_15 (fun x1 x2 I => wp_X10_depth_47  Post x1 x2 I) Post nn15 x1 (-9 : Int32) (0 : Int32) J2) else (Post (-1 : Int32) J2))
set_option maxRecDepth 20000 in
theorem uw_X10_depth_10 : ∀ w ∈ u_ws RX10 TX10 30, w ∈ wsX10_depth := by decide +kernel
set_option maxRecDepth 20000 in
theorem ffg_X10_depth_16 : ∀ k ∈ ([10] : List Nat), FF wsX10_depth RX10 16 k 6 ∧ fR k 6 = true := List.forall_mem_cons.mpr ⟨⟨⟨RX10, TX10, 30, "PageDesksModel", rfl, rfl, by decide, by decide, uw_X10_depth_10, (List.mem_of_getElem? (i := 1) rfl), Or.inl rfl⟩, rfl⟩, fun _ h => absurd h List.not_mem_nil⟩
set_option maxRecDepth 100000 in
set_option maxHeartbeats 4000000 in
theorem t_X10_depth_40 {f : Fx} {g : Gm}  {Post : Int32 → Mm → Prop} {Kb : Int32 → Int32 → Int32 → Mm → Prop} {K47 : Int32 → Int32 → Mm → Prop} (hC : Cx f cX10_depth 4 RX10 wsX10_depth rm_X10_depth) (hG : shM g) (hR : RtI f cX10_depth (fun r u => u.1 = g ∧ Post r u.2)) (hKb : ∀ (x1 : Int32) (x2 : Int32) (x3 : Int32) (I : Mm) , Kb x1 x2 x3 I → PW f 0 0 g I 15 [(0, .ref (gA g 100)), (1, .int x1), (2, .int x2), (3, .int x3)] []) (hK47 : ∀ (x1 : Int32) (x2 : Int32) (I : Mm) , K47 x1 x2 I → PW f 0 0 g I 47 [(0, .ref (gA g 100)), (1, .int x1), (2, .int x2)] []) : ∀ (x1 : Int32) (x3 : Int32) (s0 : Int32) (I : Mm) , wp_X10_depth_40  Kb K47 Post x1 x3 s0 I → PW f 0 0 g I 40 [(0, .ref (gA g 100)), (1, .int x1), (3, .int x3)] [.int s0] := by
  intro x1 x3 s0 I  hw
  unfold wp_X10_depth_40 at hw
  refine r_istore_n hC (lv' := [(2, .int s0), (0, .ref (gA g 100)), (1, .int x1), (3, .int x3)]) dX10_depth_40 rfl rfl (by decide) rfl ?_
  refine r_iinc hC (k := 1) (lv' := [(3, .int (x3 + 1)), (2, .int s0), (0, .ref (gA g 100)), (1, .int x1)]) dX10_depth_41 rfl (j := 3) rfl (by decide) (by decide) rfl ?_
  refine r_goto hC (tgt := 15) dX10_depth_44 (by decide) ?_
  exact r_sub (lv' := [(0, .ref (gA g 100)), (1, .int x1), (2, .int s0), (3, .int (x3 + 1))]) [2, 3, 1, 0] rfl (hKb _ _ _ _ hw)
set_option maxRecDepth 100000 in
set_option maxHeartbeats 4000000 in
theorem t_X10_depth_15 {f : Fx} {g : Gm}  {Post : Int32 → Mm → Prop} {K47 : Int32 → Int32 → Mm → Prop} (hC : Cx f cX10_depth 4 RX10 wsX10_depth rm_X10_depth) (hG : shM g) (hR : RtI f cX10_depth (fun r u => u.1 = g ∧ Post r u.2)) (hK47 : ∀ (x1 : Int32) (x2 : Int32) (I : Mm) , K47 x1 x2 I → PW f 0 0 g I 47 [(0, .ref (gA g 100)), (1, .int x1), (2, .int x2)] []) : ∀ (nn15 : Nat) (x1 : Int32) (x2 : Int32) (x3 : Int32) (I : Mm) , wp_X10_depth_15  K47 Post nn15 x1 x2 x3 I → PW f 0 0 g I 15 [(0, .ref (gA g 100)), (1, .int x1), (2, .int x2), (3, .int x3)] [] := by
  intro nn15
  induction nn15 with
  | zero =>
    intro x1 x2 x3 I  hw
    exact absurd hw id
  | succ nn15 ih =>
    intro x1 x2 x3 I  hw
    unfold wp_X10_depth_15 at hw
    refine r_iload_n hC dX10_depth_15 rfl rfl (j := 3) rfl ?_
    refine r_iload_n hC dX10_depth_16 rfl rfl (j := 1) rfl ?_
    refine r_icmp_ge hC (tgt := 47) dX10_depth_17 rfl (by decide) hw (fun hw => ?_) (fun hw => ?_)
    · exact r_sub (lv' := [(0, .ref (gA g 100)), (1, .int x1), (2, .int x2)]) [0, 1, 2] rfl (hK47 _ _ _ hw)
    · refine r_aload_n hC dX10_depth_20 rfl rfl (j := 0) rfl ?_
      refine r_getR hC dX10_depth_21 rfl hG.o.1 hG.o.2 ffg_X10_depth_16 hG.a6.2 ?_
      refine r_iload_n hC dX10_depth_24 rfl rfl (j := 3) rfl ?_
      obtain ⟨hi, hw⟩ := hw
      refine r_iald hC dX10_depth_25 rfl (hG.a6.1).1 (hG.a6.1).2.1 (by rw [(hG.a6.1).2.2]; exact hi) ?_
      refine r_aload_n hC dX10_depth_26 rfl rfl (j := 0) rfl ?_
      refine r_getR hC dX10_depth_27 rfl hG.o.1 hG.o.2 ffg_X10_depth_16 hG.a6.2 ?_
      refine r_iload_n hC dX10_depth_30 rfl rfl (j := 1) rfl ?_
      obtain ⟨hi, hw⟩ := hw
      refine r_iald hC dX10_depth_31 rfl (hG.a6.1).1 (hG.a6.1).2.1 (by rw [(hG.a6.1).2.2]; exact hi) ?_
      refine r_icmp_ne hC (tgt := 39) dX10_depth_32 rfl (by decide) hw (fun hw => ?_) (fun hw => ?_)
      · refine r_iload_n hC dX10_depth_39 rfl rfl (j := 2) rfl ?_
        exact r_sub (lv' := [(0, .ref (gA g 100)), (1, .int x1), (3, .int x3)]) [0, 1, 3] rfl (t_X10_depth_40 hC hG hR (fun x1 x2 x3 I  hw => ih x1 x2 x3 I  hw) hK47 _ _ _ _ hw)
      · refine r_iload_n hC dX10_depth_35 rfl rfl (j := 3) rfl ?_
        refine r_goto hC (tgt := 40) dX10_depth_36 (by decide) ?_
        exact r_sub (lv' := [(0, .ref (gA g 100)), (1, .int x1), (3, .int x3)]) [0, 1, 3] rfl (t_X10_depth_40 hC hG hR (fun x1 x2 x3 I  hw => ih x1 x2 x3 I  hw) hK47 _ _ _ _ hw)
set_option maxRecDepth 100000 in
set_option maxHeartbeats 4000000 in
theorem t_X10_depth_47 {f : Fx} {g : Gm}  {Post : Int32 → Mm → Prop}  (hC : Cx f cX10_depth 4 RX10 wsX10_depth rm_X10_depth) (hG : shM g) (hR : RtI f cX10_depth (fun r u => u.1 = g ∧ Post r u.2))  : ∀ (x1 : Int32) (x2 : Int32) (I : Mm) , wp_X10_depth_47   Post x1 x2 I → PW f 0 0 g I 47 [(0, .ref (gA g 100)), (1, .int x1), (2, .int x2)] [] := by
  intro x1 x2 I  hw
  unfold wp_X10_depth_47 at hw
  refine r_iload_n hC dX10_depth_47 rfl rfl (j := 2) rfl ?_
  refine r_if_ge hC (tgt := 56) dX10_depth_48 rfl (by decide) hw (fun hw => ?_) (fun hw => ?_)
  · refine r_aload_n hC dX10_depth_56 rfl rfl (j := 0) rfl ?_
    refine r_iload_n hC dX10_depth_57 rfl rfl (j := 2) rfl ?_
    refine r_iload_n hC dX10_depth_58 rfl rfl (j := 1) rfl ?_
    refine r_callI hC (a_V hC (k := 10) (c_X10_pagesFrom hG hw) ci_X10_pagesFrom gX10_depth_X10_pagesFrom rfl ⟨Nat.le_of_ble_eq_true rfl, Nat.le_of_ble_eq_true rfl⟩ ⟨Nat.le_of_ble_eq_true rfl, Nat.le_of_ble_eq_true rfl⟩ rfl (by decide) hG.o.1 (List.mem_singleton.mp hG.o.2) rfl rfl (Nat.le_of_ble_eq_true rfl) dX10_depth_59) ⟨rfl, rfl⟩ rfl (fun r3 J4 hw => ?_)
    refine r_callI hC (a_S hC (c_X10_bits  hw) ci_X10_bits gX10_depth_X10_bits ⟨Nat.le_of_ble_eq_true rfl, Nat.le_of_ble_eq_true rfl⟩ ⟨Nat.le_of_ble_eq_true rfl, Nat.le_of_ble_eq_true rfl⟩ rfl rfl (Nat.le_of_ble_eq_true rfl) dX10_depth_62) ⟨rfl, rfl⟩ rfl (fun r5 J6 hw => ?_)
    exact r_retI hC hR ⟨rfl, rfl⟩ dX10_depth_65 hw
  · refine r_bipush hC (v := (-9 : Int32)) dX10_depth_51 rfl (by decide) ?_
    refine r_goto hC (tgt := 65) dX10_depth_53 (by decide) ?_
    exact r_retI hC hR ⟨rfl, rfl⟩ dX10_depth_65 hw
set_option maxRecDepth 100000 in
set_option maxHeartbeats 4000000 in
theorem t_X10_depth_0 {f : Fx} {g : Gm}  {Post : Int32 → Mm → Prop} {x1 : Int32} {I : Mm} (hC : Cx f cX10_depth 4 RX10 wsX10_depth rm_X10_depth) (hG : shM g) (hR : RtI f cX10_depth (fun r u => u.1 = g ∧ Post r u.2)) (hw : wp_X10_depth  x1 I Post) : PW f 0 0 g I 0 [(0, .ref (gA g 100)), (1, .int x1)] [] := by
  unfold wp_X10_depth at hw
  refine r_aload_n hC dX10_depth_0 rfl rfl (j := 0) rfl ?_
  refine r_iload_n hC dX10_depth_1 rfl rfl (j := 1) rfl ?_
  refine r_callI hC (a_V hC (k := 10) (c_X10_noAsk hG hw) ci_X10_noAsk gX10_depth_X10_noAsk rfl ⟨Nat.le_of_ble_eq_true rfl, Nat.le_of_ble_eq_true rfl⟩ ⟨Nat.le_of_ble_eq_true rfl, Nat.le_of_ble_eq_true rfl⟩ rfl (by decide) hG.o.1 (List.mem_singleton.mp hG.o.2) rfl rfl (Nat.le_of_ble_eq_true rfl) dX10_depth_2) ⟨rfl, rfl⟩ rfl (fun r1 J2 hw => ?_)
  refine r_if_eq hC (tgt := 10) dX10_depth_5 rfl (by decide) hw (fun hw => ?_) (fun hw => ?_)
  · refine r_bipush hC (v := (-9 : Int32)) dX10_depth_10 rfl (by decide) ?_
    refine r_istore_n hC (lv' := [(2, .int (-9 : Int32)), (0, .ref (gA g 100)), (1, .int x1)]) dX10_depth_12 rfl rfl (by decide) rfl ?_
    refine r_iconst hC (v := (0 : Int32)) dX10_depth_13 rfl (by decide) ?_
    refine r_istore_n hC (lv' := [(3, .int (0 : Int32)), (2, .int (-9 : Int32)), (0, .ref (gA g 100)), (1, .int x1)]) dX10_depth_14 rfl rfl (by decide) rfl ?_
    obtain ⟨nn15, hw⟩ := hw
    exact r_sub (lv' := [(0, .ref (gA g 100)), (1, .int x1), (2, .int (-9 : Int32)), (3, .int (0 : Int32))]) [2, 3, 1, 0] rfl ((t_X10_depth_15 hC hG hR (fun x1 x2 I  hw => t_X10_depth_47 hC hG hR _ _ _ hw) nn15 _ _ _ _ hw))
  · refine r_iconst hC (v := (-1 : Int32)) dX10_depth_8 rfl (by decide) ?_
    exact r_retI hC hR ⟨rfl, rfl⟩ dX10_depth_9 hw
set_option maxRecDepth 100000 in
theorem c_X10_depth {l : Launch} {x : Gx} {g : Gm}  {x1 : Int32} {I : Mm} {Post : Int32 → Mm → Prop} (hG : shM g) (hw : wp_X10_depth  x1 I Post) : KI l x yX10_depth wsX10_depth rm_X10_depth g I [.ref (gA g 100), .int x1] (fun r u => u.1 = g ∧ Post r u.2) := KI_of (by decide) rfl rfl (Nat.le_of_ble_eq_true rfl) (fun f hC _ _ hR => t_X10_depth_0 hC hG hR hw)

/-! X10_work -/
abbrev rm_X10_work : Room := { frames := 2, cells := 0, slots := 0, locals := 46 }
theorem ci_X10_work : CI yX10_work wsX10_work cX10_work 3 (some .int) 2 := ⟨⟨_, rfl⟩, by decide, by decide, by decide +kernel⟩
def wp_X10_work_43   (Post : Int32 → Mm → Prop) (x1 : Int32) (s0 : Int32) (I : Mm) : Prop := wp_X10_pagesFrom s0 x1 I (fun r5 J6 => Post r5 J6)
def wp_X10_work  (x1 : Int32) (x2 : Int32) (I : Mm) (Post : Int32 → Mm → Prop) : Prop := wp_X10_noAsk x1 I (fun r1 J2 => if r1 = 0 then (wp_X10_in x2.toInt64 (1 : Int64) (24 : Int64) J2 (fun r3 J4 => if r3 = 0 then (Post (-2 : Int32) J4) else (if 0 ≤ ((x1 - x2) + (1 : Int32)) then (wp_X10_work_43  Post x1 ((x1 - x2) + (1 : Int32)) J4) else (wp_X10_work_43  Post x1 (0 : Int32) J4)))) else (Post (-1 : Int32) J2))

set_option maxRecDepth 100000 in
set_option maxHeartbeats 4000000 in
theorem t_X10_work_43 {f : Fx} {g : Gm}  {Post : Int32 → Mm → Prop}  (hC : Cx f cX10_work 3 RX10 wsX10_work rm_X10_work) (hG : shM g) (hR : RtI f cX10_work (fun r u => u.1 = g ∧ Post r u.2))  : ∀ (x1 : Int32) (s0 : Int32) (I : Mm) , wp_X10_work_43   Post x1 s0 I → PW f 0 0 g I 43 [(1, .int x1)] [.int s0, .ref (gA g 100)] := by
  intro x1 s0 I  hw
  unfold wp_X10_work_43 at hw
  refine r_iload_n hC dX10_work_43 rfl rfl (j := 0) rfl ?_
  refine r_callI hC (a_V hC (k := 10) (c_X10_pagesFrom hG hw) ci_X10_pagesFrom gX10_work_X10_pagesFrom rfl ⟨Nat.le_of_ble_eq_true rfl, Nat.le_of_ble_eq_true rfl⟩ ⟨Nat.le_of_ble_eq_true rfl, Nat.le_of_ble_eq_true rfl⟩ rfl (by decide) hG.o.1 (List.mem_singleton.mp hG.o.2) rfl rfl (Nat.le_of_ble_eq_true rfl) dX10_work_44) ⟨rfl, rfl⟩ rfl (fun r5 J6 hw => ?_)
  exact r_retI hC hR ⟨rfl, rfl⟩ dX10_work_47 hw
set_option maxRecDepth 100000 in
set_option maxHeartbeats 4000000 in
theorem t_X10_work_0 {f : Fx} {g : Gm}  {Post : Int32 → Mm → Prop} {x1 : Int32} {x2 : Int32} {I : Mm} (hC : Cx f cX10_work 3 RX10 wsX10_work rm_X10_work) (hG : shM g) (hR : RtI f cX10_work (fun r u => u.1 = g ∧ Post r u.2)) (hw : wp_X10_work  x1 x2 I Post) : PW f 0 0 g I 0 [(0, .ref (gA g 100)), (1, .int x1), (2, .int x2)] [] := by
  unfold wp_X10_work at hw
  refine r_aload_n hC dX10_work_0 rfl rfl (j := 0) rfl ?_
  refine r_iload_n hC dX10_work_1 rfl rfl (j := 1) rfl ?_
  refine r_callI hC (a_V hC (k := 10) (c_X10_noAsk hG hw) ci_X10_noAsk gX10_work_X10_noAsk rfl ⟨Nat.le_of_ble_eq_true rfl, Nat.le_of_ble_eq_true rfl⟩ ⟨Nat.le_of_ble_eq_true rfl, Nat.le_of_ble_eq_true rfl⟩ rfl (by decide) hG.o.1 (List.mem_singleton.mp hG.o.2) rfl rfl (Nat.le_of_ble_eq_true rfl) dX10_work_2) ⟨rfl, rfl⟩ rfl (fun r1 J2 hw => ?_)
  refine r_if_eq hC (tgt := 10) dX10_work_5 rfl (by decide) hw (fun hw => ?_) (fun hw => ?_)
  · refine r_iload_n hC dX10_work_10 rfl rfl (j := 2) rfl ?_
    refine r_i2l hC dX10_work_11 rfl ?_
    refine r_lconst hC (v := (1 : Int64)) dX10_work_12 rfl (by decide) ?_
    refine r_ldc2 hC (v := (24 : Int64)) dX10_work_13 rfl (List.mem_of_getElem? (i := 1) rfl) ?_
    refine r_callI hC (a_S hC (c_X10_in  hw) ci_X10_in gX10_work_X10_in ⟨Nat.le_of_ble_eq_true rfl, Nat.le_of_ble_eq_true rfl⟩ ⟨Nat.le_of_ble_eq_true rfl, Nat.le_of_ble_eq_true rfl⟩ rfl rfl (Nat.le_of_ble_eq_true rfl) dX10_work_16) ⟨rfl, rfl⟩ rfl (fun r3 J4 hw => ?_)
    refine r_if_ne hC (tgt := 25) dX10_work_19 rfl (by decide) hw (fun hw => ?_) (fun hw => ?_)
    · refine r_aload_n hC dX10_work_25 rfl rfl (j := 0) rfl ?_
      refine r_iload_n hC dX10_work_26 rfl rfl (j := 1) rfl ?_
      refine r_iload_n hC dX10_work_27 rfl rfl (j := 2) rfl ?_
      refine r_isub hC dX10_work_28 rfl ?_
      refine r_iconst hC (v := (1 : Int32)) dX10_work_29 rfl (by decide) ?_
      refine r_iadd hC dX10_work_30 rfl ?_
      refine r_if_ge hC (tgt := 38) dX10_work_31 rfl (by decide) hw (fun hw => ?_) (fun hw => ?_)
      · refine r_iload_n hC dX10_work_38 rfl rfl (j := 1) rfl ?_
        refine r_iload_n hC dX10_work_39 rfl rfl (j := 2) rfl ?_
        refine r_isub hC dX10_work_40 rfl ?_
        refine r_iconst hC (v := (1 : Int32)) dX10_work_41 rfl (by decide) ?_
        refine r_iadd hC dX10_work_42 rfl ?_
        exact r_sub (lv' := [(1, .int x1)]) [1] rfl (t_X10_work_43 hC hG hR _ _ _ hw)
      · refine r_iconst hC (v := (0 : Int32)) dX10_work_34 rfl (by decide) ?_
        refine r_goto hC (tgt := 43) dX10_work_35 (by decide) ?_
        exact r_sub (lv' := [(1, .int x1)]) [1] rfl (t_X10_work_43 hC hG hR _ _ _ hw)
    · refine r_bipush hC (v := (-2 : Int32)) dX10_work_22 rfl (by decide) ?_
      exact r_retI hC hR ⟨rfl, rfl⟩ dX10_work_24 hw
  · refine r_iconst hC (v := (-1 : Int32)) dX10_work_8 rfl (by decide) ?_
    exact r_retI hC hR ⟨rfl, rfl⟩ dX10_work_9 hw
set_option maxRecDepth 100000 in
theorem c_X10_work {l : Launch} {x : Gx} {g : Gm}  {x1 : Int32} {x2 : Int32} {I : Mm} {Post : Int32 → Mm → Prop} (hG : shM g) (hw : wp_X10_work  x1 x2 I Post) : KI l x yX10_work wsX10_work rm_X10_work g I [.ref (gA g 100), .int x1, .int x2] (fun r u => u.1 = g ∧ Post r u.2) := KI_of (by decide) rfl rfl (Nat.le_of_ble_eq_true rfl) (fun f hC _ _ hR => t_X10_work_0 hC hG hR hw)

/-! X10_reading -/
abbrev rm_X10_reading : Room := { frames := 2, cells := 0, slots := 0, locals := 46 }
theorem ci_X10_reading : CI yX10_reading wsX10_reading cX10_reading 4 (some .int) 3 := ⟨⟨_, rfl⟩, by decide, by decide, by decide +kernel⟩
def wp_X10_reading  (x1 : Int32) (x2 : Int32) (x3 : Int32) (I : Mm) (Post : Int32 → Mm → Prop) : Prop := wp_X10_noDesk x1 I (fun r1 J2 => if r1 = 0 then (wp_X10_noAsk x2 J2 (fun r3 J4 => if r3 = 0 then (wp_X10_in x3.toInt64 (0 : Int64) (1 : Int64) J4 (fun r5 J6 => if r5 = 0 then (Post (-2 : Int32) J6) else (if (J6 100 21) = (8 : Int32) then (Post (-4 : Int32) J6) else (vp_in (J6 100 21) 8 ∧ (vp_in ((up2 J6 122 (J6 100 21).toNatClampNeg x1) 100 21) 8 ∧ (vp_in ((up2 (up2 J6 122 (J6 100 21).toNatClampNeg x1) 123 ((up2 J6 122 (J6 100 21).toNatClampNeg x1) 100 21).toNatClampNeg x2) 100 21) 8 ∧ (Post (((up2 (up2 (up2 (up2 J6 122 (J6 100 21).toNatClampNeg x1) 123 ((up2 J6 122 (J6 100 21).toNatClampNeg x1) 100 21).toNatClampNeg x2) 124 ((up2 (up2 J6 122 (J6 100 21).toNatClampNeg x1) 123 ((up2 J6 122 (J6 100 21).toNatClampNeg x1) 100 21).toNatClampNeg x2) 100 21).toNatClampNeg x3) 100 21 (((up2 (up2 (up2 J6 122 (J6 100 21).toNatClampNeg x1) 123 ((up2 J6 122 (J6 100 21).toNatClampNeg x1) 100 21).toNatClampNeg x2) 124 ((up2 (up2 J6 122 (J6 100 21).toNatClampNeg x1) 123 ((up2 J6 122 (J6 100 21).toNatClampNeg x1) 100 21).toNatClampNeg x2) 100 21).toNatClampNeg x3) 100 21) + (1 : Int32))) 100 21) - (1 : Int32)) (up2 (up2 (up2 (up2 J6 122 (J6 100 21).toNatClampNeg x1) 123 ((up2 J6 122 (J6 100 21).toNatClampNeg x1) 100 21).toNatClampNeg x2) 124 ((up2 (up2 J6 122 (J6 100 21).toNatClampNeg x1) 123 ((up2 J6 122 (J6 100 21).toNatClampNeg x1) 100 21).toNatClampNeg x2) 100 21).toNatClampNeg x3) 100 21 (((up2 (up2 (up2 J6 122 (J6 100 21).toNatClampNeg x1) 123 ((up2 J6 122 (J6 100 21).toNatClampNeg x1) 100 21).toNatClampNeg x2) 124 ((up2 (up2 J6 122 (J6 100 21).toNatClampNeg x1) 123 ((up2 J6 122 (J6 100 21).toNatClampNeg x1) 100 21).toNatClampNeg x2) 100 21).toNatClampNeg x3) 100 21) + (1 : Int32)))))))))) else (Post (-1 : Int32) J4))) else (Post (-1 : Int32) J2))
set_option maxRecDepth 20000 in
theorem uw_X10_reading_10 : ∀ w ∈ u_ws RX10 TX10 30, w ∈ wsX10_reading := by decide +kernel
set_option maxRecDepth 20000 in
theorem ffg_X10_reading_132 : ∀ k ∈ ([10] : List Nat), FF wsX10_reading RX10 132 k 21 ∧ fR k 21 = false := List.forall_mem_cons.mpr ⟨⟨⟨RX10, TX10, 30, "PageDesksModel", rfl, rfl, by decide, by decide, uw_X10_reading_10, (List.mem_of_getElem? (i := 1) rfl), Or.inl rfl⟩, rfl⟩, fun _ h => absurd h List.not_mem_nil⟩
set_option maxRecDepth 20000 in
theorem ffg_X10_reading_37 : ∀ k ∈ ([10] : List Nat), FF wsX10_reading RX10 37 k 22 ∧ fR k 22 = true := List.forall_mem_cons.mpr ⟨⟨⟨RX10, TX10, 30, "PageDesksModel", rfl, rfl, by decide, by decide, uw_X10_reading_10, (List.mem_of_getElem? (i := 2) rfl), Or.inl rfl⟩, rfl⟩, fun _ h => absurd h List.not_mem_nil⟩
set_option maxRecDepth 20000 in
theorem ffg_X10_reading_40 : ∀ k ∈ ([10] : List Nat), FF wsX10_reading RX10 40 k 23 ∧ fR k 23 = true := List.forall_mem_cons.mpr ⟨⟨⟨RX10, TX10, 30, "PageDesksModel", rfl, rfl, by decide, by decide, uw_X10_reading_10, (List.mem_of_getElem? (i := 3) rfl), Or.inl rfl⟩, rfl⟩, fun _ h => absurd h List.not_mem_nil⟩
set_option maxRecDepth 20000 in
theorem ffg_X10_reading_43 : ∀ k ∈ ([10] : List Nat), FF wsX10_reading RX10 43 k 24 ∧ fR k 24 = true := List.forall_mem_cons.mpr ⟨⟨⟨RX10, TX10, 30, "PageDesksModel", rfl, rfl, by decide, by decide, uw_X10_reading_10, (List.mem_of_getElem? (i := 4) rfl), Or.inl rfl⟩, rfl⟩, fun _ h => absurd h List.not_mem_nil⟩
set_option maxRecDepth 20000 in
theorem ffp_X10_reading_132 : ∀ k ∈ ([10] : List Nat), FF wsX10_reading RX10 132 k 21 ∧ fR k 21 = false ∧ FP k 21 := List.forall_mem_cons.mpr ⟨⟨⟨RX10, TX10, 30, "PageDesksModel", rfl, rfl, by decide, by decide, uw_X10_reading_10, (List.mem_of_getElem? (i := 1) rfl), Or.inl rfl⟩, rfl, ⟨RX10, TX10, 30, tyX10, rfl, tyX10_ok, nmX10, rfl, rfl⟩⟩, fun _ h => absurd h List.not_mem_nil⟩
set_option maxRecDepth 100000 in
set_option maxHeartbeats 4000000 in
theorem t_X10_reading_0 {f : Fx} {g : Gm}  {Post : Int32 → Mm → Prop} {x1 : Int32} {x2 : Int32} {x3 : Int32} {I : Mm} (hC : Cx f cX10_reading 4 RX10 wsX10_reading rm_X10_reading) (hG : shM g) (hR : RtI f cX10_reading (fun r u => u.1 = g ∧ Post r u.2)) (hw : wp_X10_reading  x1 x2 x3 I Post) : PW f 0 0 g I 0 [(0, .ref (gA g 100)), (1, .int x1), (2, .int x2), (3, .int x3)] [] := by
  unfold wp_X10_reading at hw
  refine r_aload_n hC dX10_reading_0 rfl rfl (j := 0) rfl ?_
  refine r_iload_n hC dX10_reading_1 rfl rfl (j := 1) rfl ?_
  refine r_callI hC (a_V hC (k := 10) (c_X10_noDesk hG hw) ci_X10_noDesk gX10_reading_X10_noDesk rfl ⟨Nat.le_of_ble_eq_true rfl, Nat.le_of_ble_eq_true rfl⟩ ⟨Nat.le_of_ble_eq_true rfl, Nat.le_of_ble_eq_true rfl⟩ rfl (by decide) hG.o.1 (List.mem_singleton.mp hG.o.2) rfl rfl (Nat.le_of_ble_eq_true rfl) dX10_reading_2) ⟨rfl, rfl⟩ rfl (fun r1 J2 hw => ?_)
  refine r_if_ne hC (tgt := 16) dX10_reading_5 rfl (by decide) hw (fun hw => ?_) (fun hw => ?_)
  · refine r_iconst hC (v := (-1 : Int32)) dX10_reading_16 rfl (by decide) ?_
    exact r_retI hC hR ⟨rfl, rfl⟩ dX10_reading_17 hw
  · refine r_aload_n hC dX10_reading_8 rfl rfl (j := 0) rfl ?_
    refine r_iload_n hC dX10_reading_9 rfl rfl (j := 2) rfl ?_
    refine r_callI hC (a_V hC (k := 10) (c_X10_noAsk hG hw) ci_X10_noAsk gX10_reading_X10_noAsk rfl ⟨Nat.le_of_ble_eq_true rfl, Nat.le_of_ble_eq_true rfl⟩ ⟨Nat.le_of_ble_eq_true rfl, Nat.le_of_ble_eq_true rfl⟩ rfl (by decide) hG.o.1 (List.mem_singleton.mp hG.o.2) rfl rfl (Nat.le_of_ble_eq_true rfl) dX10_reading_10) ⟨rfl, rfl⟩ rfl (fun r3 J4 hw => ?_)
    refine r_if_eq hC (tgt := 18) dX10_reading_13 rfl (by decide) hw (fun hw => ?_) (fun hw => ?_)
    · refine r_iload_n hC dX10_reading_18 rfl rfl (j := 3) rfl ?_
      refine r_i2l hC dX10_reading_19 rfl ?_
      refine r_lconst hC (v := (0 : Int64)) dX10_reading_20 rfl (by decide) ?_
      refine r_lconst hC (v := (1 : Int64)) dX10_reading_21 rfl (by decide) ?_
      refine r_callI hC (a_S hC (c_X10_in  hw) ci_X10_in gX10_reading_X10_in ⟨Nat.le_of_ble_eq_true rfl, Nat.le_of_ble_eq_true rfl⟩ ⟨Nat.le_of_ble_eq_true rfl, Nat.le_of_ble_eq_true rfl⟩ rfl rfl (Nat.le_of_ble_eq_true rfl) dX10_reading_22) ⟨rfl, rfl⟩ rfl (fun r5 J6 hw => ?_)
      refine r_if_ne hC (tgt := 31) dX10_reading_25 rfl (by decide) hw (fun hw => ?_) (fun hw => ?_)
      · refine r_aload_n hC dX10_reading_31 rfl rfl (j := 0) rfl ?_
        refine r_getI hC dX10_reading_32 rfl hG.o.1 hG.o.2 ffg_X10_reading_132 ?_
        refine r_bipush hC (v := (8 : Int32)) dX10_reading_35 rfl (by decide) ?_
        refine r_icmp_ne hC (tgt := 43) dX10_reading_37 rfl (by decide) hw (fun hw => ?_) (fun hw => ?_)
        · refine r_aload_n hC dX10_reading_43 rfl rfl (j := 0) rfl ?_
          refine r_getR hC dX10_reading_44 rfl hG.o.1 hG.o.2 ffg_X10_reading_37 hG.a22.2 ?_
          refine r_aload_n hC dX10_reading_47 rfl rfl (j := 0) rfl ?_
          refine r_getI hC dX10_reading_48 rfl hG.o.1 hG.o.2 ffg_X10_reading_132 ?_
          refine r_iload_n hC dX10_reading_51 rfl rfl (j := 1) rfl ?_
          obtain ⟨hi, hw⟩ := hw
          refine r_iast hC dX10_reading_52 rfl (hG.a22.1).1 (hG.a22.1).2.1 (by rw [(hG.a22.1).2.2]; exact hi) ?_
          refine r_aload_n hC dX10_reading_53 rfl rfl (j := 0) rfl ?_
          refine r_getR hC dX10_reading_54 rfl hG.o.1 hG.o.2 ffg_X10_reading_40 hG.a23.2 ?_
          refine r_aload_n hC dX10_reading_57 rfl rfl (j := 0) rfl ?_
          refine r_getI hC dX10_reading_58 rfl hG.o.1 hG.o.2 ffg_X10_reading_132 ?_
          refine r_iload_n hC dX10_reading_61 rfl rfl (j := 2) rfl ?_
          obtain ⟨hi, hw⟩ := hw
          refine r_iast hC dX10_reading_62 rfl (hG.a23.1).1 (hG.a23.1).2.1 (by rw [(hG.a23.1).2.2]; exact hi) ?_
          refine r_aload_n hC dX10_reading_63 rfl rfl (j := 0) rfl ?_
          refine r_getR hC dX10_reading_64 rfl hG.o.1 hG.o.2 ffg_X10_reading_43 hG.a24.2 ?_
          refine r_aload_n hC dX10_reading_67 rfl rfl (j := 0) rfl ?_
          refine r_getI hC dX10_reading_68 rfl hG.o.1 hG.o.2 ffg_X10_reading_132 ?_
          refine r_iload_n hC dX10_reading_71 rfl rfl (j := 3) rfl ?_
          obtain ⟨hi, hw⟩ := hw
          refine r_iast hC dX10_reading_72 rfl (hG.a24.1).1 (hG.a24.1).2.1 (by rw [(hG.a24.1).2.2]; exact hi) ?_
          refine r_aload_n hC dX10_reading_73 rfl rfl (j := 0) rfl ?_
          refine r_dup hC dX10_reading_74 rfl rfl ?_
          refine r_getI hC dX10_reading_75 rfl hG.o.1 hG.o.2 ffg_X10_reading_132 ?_
          refine r_iconst hC (v := (1 : Int32)) dX10_reading_78 rfl (by decide) ?_
          refine r_iadd hC dX10_reading_79 rfl ?_
          refine r_putI hC dX10_reading_80 rfl hG.o.1 hG.o.2 ffp_X10_reading_132 ?_
          refine r_aload_n hC dX10_reading_83 rfl rfl (j := 0) rfl ?_
          refine r_getI hC dX10_reading_84 rfl hG.o.1 hG.o.2 ffg_X10_reading_132 ?_
          refine r_iconst hC (v := (1 : Int32)) dX10_reading_87 rfl (by decide) ?_
          refine r_isub hC dX10_reading_88 rfl ?_
          exact r_retI hC hR ⟨rfl, rfl⟩ dX10_reading_89 hw
        · refine r_bipush hC (v := (-4 : Int32)) dX10_reading_40 rfl (by decide) ?_
          exact r_retI hC hR ⟨rfl, rfl⟩ dX10_reading_42 hw
      · refine r_bipush hC (v := (-2 : Int32)) dX10_reading_28 rfl (by decide) ?_
        exact r_retI hC hR ⟨rfl, rfl⟩ dX10_reading_30 hw
    · refine r_iconst hC (v := (-1 : Int32)) dX10_reading_16 rfl (by decide) ?_
      exact r_retI hC hR ⟨rfl, rfl⟩ dX10_reading_17 hw
set_option maxRecDepth 100000 in
theorem c_X10_reading {l : Launch} {x : Gx} {g : Gm}  {x1 : Int32} {x2 : Int32} {x3 : Int32} {I : Mm} {Post : Int32 → Mm → Prop} (hG : shM g) (hw : wp_X10_reading  x1 x2 x3 I Post) : KI l x yX10_reading wsX10_reading rm_X10_reading g I [.ref (gA g 100), .int x1, .int x2, .int x3] (fun r u => u.1 = g ∧ Post r u.2) := KI_of (by decide) rfl rfl (Nat.le_of_ble_eq_true rfl) (fun f hC _ _ hR => t_X10_reading_0 hC hG hR hw)

/-! X10_back -/
abbrev rm_X10_back : Room := { frames := 1, cells := 0, slots := 0, locals := 25 }
theorem ci_X10_back : CI yX10_back wsX10_back cX10_back 2 (some .int) 1 := ⟨⟨_, rfl⟩, by decide, by decide, by decide +kernel⟩
def wp_X10_back  (x1 : Int32) (I : Mm) (Post : Int32 → Mm → Prop) : Prop := wp_X10_in x1.toInt64 (0 : Int64) ((I 100 21).toInt64) I (fun r1 J2 => if r1 = 0 then (Post (-2 : Int32) J2) else (Post ((up2 J2 100 21 ((J2 100 21) - x1)) 100 21) (up2 J2 100 21 ((J2 100 21) - x1))))
set_option maxRecDepth 20000 in
theorem uw_X10_back_10 : ∀ w ∈ u_ws RX10 TX10 30, w ∈ wsX10_back := by decide +kernel
set_option maxRecDepth 20000 in
theorem ffg_X10_back_132 : ∀ k ∈ ([10] : List Nat), FF wsX10_back RX10 132 k 21 ∧ fR k 21 = false := List.forall_mem_cons.mpr ⟨⟨⟨RX10, TX10, 30, "PageDesksModel", rfl, rfl, by decide, by decide, uw_X10_back_10, (List.mem_of_getElem? (i := 1) rfl), Or.inl rfl⟩, rfl⟩, fun _ h => absurd h List.not_mem_nil⟩
set_option maxRecDepth 20000 in
theorem ffp_X10_back_132 : ∀ k ∈ ([10] : List Nat), FF wsX10_back RX10 132 k 21 ∧ fR k 21 = false ∧ FP k 21 := List.forall_mem_cons.mpr ⟨⟨⟨RX10, TX10, 30, "PageDesksModel", rfl, rfl, by decide, by decide, uw_X10_back_10, (List.mem_of_getElem? (i := 1) rfl), Or.inl rfl⟩, rfl, ⟨RX10, TX10, 30, tyX10, rfl, tyX10_ok, nmX10, rfl, rfl⟩⟩, fun _ h => absurd h List.not_mem_nil⟩
set_option maxRecDepth 100000 in
set_option maxHeartbeats 4000000 in
theorem t_X10_back_0 {f : Fx} {g : Gm}  {Post : Int32 → Mm → Prop} {x1 : Int32} {I : Mm} (hC : Cx f cX10_back 2 RX10 wsX10_back rm_X10_back) (hG : shM g) (hR : RtI f cX10_back (fun r u => u.1 = g ∧ Post r u.2)) (hw : wp_X10_back  x1 I Post) : PW f 0 0 g I 0 [(0, .ref (gA g 100)), (1, .int x1)] [] := by
  unfold wp_X10_back at hw
  refine r_iload_n hC dX10_back_0 rfl rfl (j := 1) rfl ?_
  refine r_i2l hC dX10_back_1 rfl ?_
  refine r_lconst hC (v := (0 : Int64)) dX10_back_2 rfl (by decide) ?_
  refine r_aload_n hC dX10_back_3 rfl rfl (j := 0) rfl ?_
  refine r_getI hC dX10_back_4 rfl hG.o.1 hG.o.2 ffg_X10_back_132 ?_
  refine r_i2l hC dX10_back_7 rfl ?_
  refine r_callI hC (a_S hC (c_X10_in  hw) ci_X10_in gX10_back_X10_in ⟨Nat.le_of_ble_eq_true rfl, Nat.le_of_ble_eq_true rfl⟩ ⟨Nat.le_of_ble_eq_true rfl, Nat.le_of_ble_eq_true rfl⟩ rfl rfl (Nat.le_of_ble_eq_true rfl) dX10_back_8) ⟨rfl, rfl⟩ rfl (fun r1 J2 hw => ?_)
  refine r_if_ne hC (tgt := 17) dX10_back_11 rfl (by decide) hw (fun hw => ?_) (fun hw => ?_)
  · refine r_aload_n hC dX10_back_17 rfl rfl (j := 0) rfl ?_
    refine r_dup hC dX10_back_18 rfl rfl ?_
    refine r_getI hC dX10_back_19 rfl hG.o.1 hG.o.2 ffg_X10_back_132 ?_
    refine r_iload_n hC dX10_back_22 rfl rfl (j := 1) rfl ?_
    refine r_isub hC dX10_back_23 rfl ?_
    refine r_putI hC dX10_back_24 rfl hG.o.1 hG.o.2 ffp_X10_back_132 ?_
    refine r_aload_n hC dX10_back_27 rfl rfl (j := 0) rfl ?_
    refine r_getI hC dX10_back_28 rfl hG.o.1 hG.o.2 ffg_X10_back_132 ?_
    exact r_retI hC hR ⟨rfl, rfl⟩ dX10_back_31 hw
  · refine r_bipush hC (v := (-2 : Int32)) dX10_back_14 rfl (by decide) ?_
    exact r_retI hC hR ⟨rfl, rfl⟩ dX10_back_16 hw
set_option maxRecDepth 100000 in
theorem c_X10_back {l : Launch} {x : Gx} {g : Gm}  {x1 : Int32} {I : Mm} {Post : Int32 → Mm → Prop} (hG : shM g) (hw : wp_X10_back  x1 I Post) : KI l x yX10_back wsX10_back rm_X10_back g I [.ref (gA g 100), .int x1] (fun r u => u.1 = g ∧ Post r u.2) := KI_of (by decide) rfl rfl (Nat.le_of_ble_eq_true rfl) (fun f hC _ _ hR => t_X10_back_0 hC hG hR hw)

/-! X10_isHit -/
abbrev rm_X10_isHit : Room := { frames := 4, cells := 0, slots := 0, locals := 90 }
theorem ci_X10_isHit : CI yX10_isHit wsX10_isHit cX10_isHit 3 (some .boolean) 2 := ⟨⟨_, rfl⟩, by decide, by decide, by decide +kernel⟩
def wp_X10_isHit  (x1 : Int32) (x2 : Int32) (I : Mm) (Post : Int32 → Mm → Prop) : Prop := vp_in x1 4 ∧ (vp_in x1 4 ∧ (wp_X10_playsLine (I 104 x1.toNatClampNeg) (I 105 x1.toNatClampNeg) x2 I (fun J2 => vp_in x2 24 ∧ (wp_X10_whereLies (J2 106 x2.toNatClampNeg) J2 (fun r3 J4 => if r3 < 0 then (Post (0 : Int32) J4) else (Post (1 : Int32) J4))))))
set_option maxRecDepth 20000 in
theorem uw_X10_isHit_10 : ∀ w ∈ u_ws RX10 TX10 30, w ∈ wsX10_isHit := by decide +kernel
set_option maxRecDepth 20000 in
theorem ffg_X10_isHit_7 : ∀ k ∈ ([10] : List Nat), FF wsX10_isHit RX10 7 k 4 ∧ fR k 4 = true := List.forall_mem_cons.mpr ⟨⟨⟨RX10, TX10, 30, "PageDesksModel", rfl, rfl, by decide, by decide, uw_X10_isHit_10, (List.mem_of_getElem? (i := 1) rfl), Or.inl rfl⟩, rfl⟩, fun _ h => absurd h List.not_mem_nil⟩
set_option maxRecDepth 20000 in
theorem ffg_X10_isHit_13 : ∀ k ∈ ([10] : List Nat), FF wsX10_isHit RX10 13 k 5 ∧ fR k 5 = true := List.forall_mem_cons.mpr ⟨⟨⟨RX10, TX10, 30, "PageDesksModel", rfl, rfl, by decide, by decide, uw_X10_isHit_10, (List.mem_of_getElem? (i := 2) rfl), Or.inl rfl⟩, rfl⟩, fun _ h => absurd h List.not_mem_nil⟩
set_option maxRecDepth 20000 in
theorem ffg_X10_isHit_16 : ∀ k ∈ ([10] : List Nat), FF wsX10_isHit RX10 16 k 6 ∧ fR k 6 = true := List.forall_mem_cons.mpr ⟨⟨⟨RX10, TX10, 30, "PageDesksModel", rfl, rfl, by decide, by decide, uw_X10_isHit_10, (List.mem_of_getElem? (i := 3) rfl), Or.inl rfl⟩, rfl⟩, fun _ h => absurd h List.not_mem_nil⟩
set_option maxRecDepth 100000 in
set_option maxHeartbeats 4000000 in
theorem t_X10_isHit_0 {f : Fx} {g : Gm}  {Post : Int32 → Mm → Prop} {x1 : Int32} {x2 : Int32} {I : Mm} (hC : Cx f cX10_isHit 3 RX10 wsX10_isHit rm_X10_isHit) (hG : shM g) (hR : RtZ f cX10_isHit (fun r u => u.1 = g ∧ Post r u.2)) (hw : wp_X10_isHit  x1 x2 I Post) : PW f 0 0 g I 0 [(0, .ref (gA g 100)), (1, .int x1), (2, .int x2)] [] := by
  unfold wp_X10_isHit at hw
  refine r_aload_n hC dX10_isHit_0 rfl rfl (j := 0) rfl ?_
  refine r_aload_n hC dX10_isHit_1 rfl rfl (j := 0) rfl ?_
  refine r_getR hC dX10_isHit_2 rfl hG.o.1 hG.o.2 ffg_X10_isHit_7 hG.a4.2 ?_
  refine r_iload_n hC dX10_isHit_5 rfl rfl (j := 1) rfl ?_
  obtain ⟨hi, hw⟩ := hw
  refine r_iald hC dX10_isHit_6 rfl (hG.a4.1).1 (hG.a4.1).2.1 (by rw [(hG.a4.1).2.2]; exact hi) ?_
  refine r_aload_n hC dX10_isHit_7 rfl rfl (j := 0) rfl ?_
  refine r_getR hC dX10_isHit_8 rfl hG.o.1 hG.o.2 ffg_X10_isHit_13 hG.a5.2 ?_
  refine r_iload_n hC dX10_isHit_11 rfl rfl (j := 1) rfl ?_
  obtain ⟨hi, hw⟩ := hw
  refine r_iald hC dX10_isHit_12 rfl (hG.a5.1).1 (hG.a5.1).2.1 (by rw [(hG.a5.1).2.2]; exact hi) ?_
  refine r_iload_n hC dX10_isHit_13 rfl rfl (j := 2) rfl ?_
  refine r_callV hC (a_V hC (k := 10) (c_X10_playsLine hG hw) ci_X10_playsLine gX10_isHit_X10_playsLine rfl ⟨Nat.le_of_ble_eq_true rfl, Nat.le_of_ble_eq_true rfl⟩ ⟨Nat.le_of_ble_eq_true rfl, Nat.le_of_ble_eq_true rfl⟩ rfl (by decide) hG.o.1 (List.mem_singleton.mp hG.o.2) rfl rfl (Nat.le_of_ble_eq_true rfl) dX10_isHit_14) ⟨rfl, rfl⟩ rfl (fun J2 hw => ?_)
  refine r_aload_n hC dX10_isHit_17 rfl rfl (j := 0) rfl ?_
  refine r_aload_n hC dX10_isHit_18 rfl rfl (j := 0) rfl ?_
  refine r_getR hC dX10_isHit_19 rfl hG.o.1 hG.o.2 ffg_X10_isHit_16 hG.a6.2 ?_
  refine r_iload_n hC dX10_isHit_22 rfl rfl (j := 2) rfl ?_
  obtain ⟨hi, hw⟩ := hw
  refine r_iald hC dX10_isHit_23 rfl (hG.a6.1).1 (hG.a6.1).2.1 (by rw [(hG.a6.1).2.2]; exact hi) ?_
  refine r_callI hC (a_V hC (k := 10) (c_X10_whereLies hG hw) ci_X10_whereLies gX10_isHit_X10_whereLies rfl ⟨Nat.le_of_ble_eq_true rfl, Nat.le_of_ble_eq_true rfl⟩ ⟨Nat.le_of_ble_eq_true rfl, Nat.le_of_ble_eq_true rfl⟩ rfl (by decide) hG.o.1 (List.mem_singleton.mp hG.o.2) rfl rfl (Nat.le_of_ble_eq_true rfl) dX10_isHit_24) ⟨rfl, rfl⟩ rfl (fun r3 J4 hw => ?_)
  refine r_if_lt hC (tgt := 34) dX10_isHit_27 rfl (by decide) hw (fun hw => ?_) (fun hw => ?_)
  · refine r_iconst hC (v := (0 : Int32)) dX10_isHit_34 rfl (by decide) ?_
    exact r_retZ hC hR ⟨rfl, rfl⟩ dX10_isHit_35 (by decide) hw
  · refine r_iconst hC (v := (1 : Int32)) dX10_isHit_30 rfl (by decide) ?_
    refine r_goto hC (tgt := 35) dX10_isHit_31 (by decide) ?_
    exact r_retZ hC hR ⟨rfl, rfl⟩ dX10_isHit_35 (by decide) hw
set_option maxRecDepth 100000 in
theorem c_X10_isHit {l : Launch} {x : Gx} {g : Gm}  {x1 : Int32} {x2 : Int32} {I : Mm} {Post : Int32 → Mm → Prop} (hG : shM g) (hw : wp_X10_isHit  x1 x2 I Post) : KI l x yX10_isHit wsX10_isHit rm_X10_isHit g I [.ref (gA g 100), .int x1, .int x2] (fun r u => u.1 = g ∧ Post r u.2) := KZ_of (by decide) rfl rfl (Nat.le_of_ble_eq_true rfl) (fun f hC _ _ hR => t_X10_isHit_0 hC hG hR hw)

/-! X10_areSo -/
abbrev rm_X10_areSo : Room := { frames := 5, cells := 0, slots := 0, locals := 112 }
theorem ci_X10_areSo : CI yX10_areSo wsX10_areSo cX10_areSo 3 (some .boolean) 0 := ⟨⟨_, rfl⟩, by decide, by decide, by decide +kernel⟩
def wp_X10_areSo_55  (Kb : Int32 → Int32 → Mm → Prop) (Post : Int32 → Mm → Prop) (x2 : Int32) (s0 : Int32) (I : Mm) : Prop := Kb s0 (x2 + 1) I
def wp_X10_areSo_54  (Kb : Int32 → Int32 → Mm → Prop) (Post : Int32 → Mm → Prop) (x2 : Int32) (I : Mm) : Prop := wp_X10_areSo_55 Kb Post x2 (0 : Int32) I
def wp_X10_areSo_47  (Kb : Int32 → Int32 → Mm → Prop) (Post : Int32 → Mm → Prop) (x2 : Int32) (s0 : Int32) (s1 : Int32) (I : Mm) : Prop := if s1 = s0 then (wp_X10_areSo_55 Kb Post x2 (1 : Int32) I) else (wp_X10_areSo_54 Kb Post x2 I)
def wp_X10_areSo_4   (Post : Int32 → Mm → Prop) : Nat → Int32 → Int32 → Mm → Prop
  | 0, _, _, _ => False
  | nn4 + 1, x1, x2, I => if (I 100 21) ≤ x2 then ((x1 = 0 ∨ x1 = 1) ∧ Post x1 I) else (if x1 = 0 then (wp_X10_areSo_54 (fun x1 x2 I => wp_X10_areSo_4  Post nn4 x1 x2 I) Post x2 I) else (vp_in x2 8 ∧ (vp_in x2 8 ∧ (wp_X10_isHit (I 122 x2.toNatClampNeg) (I 123 x2.toNatClampNeg) I (fun r1 J2 => vp_in x2 8 ∧ (if (J2 124 x2.toNatClampNeg) = (1 : Int32) then (wp_X10_areSo_47 (fun x1 x2 I => wp_X10_areSo_4  Post nn4 x1 x2 I) Post x2 (1 : Int32) r1 J2) else (wp_X10_areSo_47 (fun x1 x2 I => wp_X10_areSo_4  Post nn4 x1 x2 I) Post x2 (0 : Int32) r1 J2)))))))
def wp_X10_areSo   (I : Mm) (Post : Int32 → Mm → Prop) : Prop := ∃ nn4, wp_X10_areSo_4  Post nn4 (1 : Int32) (0 : Int32) I
set_option maxRecDepth 20000 in
theorem uw_X10_areSo_10 : ∀ w ∈ u_ws RX10 TX10 30, w ∈ wsX10_areSo := by decide +kernel
set_option maxRecDepth 20000 in
theorem ffg_X10_areSo_132 : ∀ k ∈ ([10] : List Nat), FF wsX10_areSo RX10 132 k 21 ∧ fR k 21 = false := List.forall_mem_cons.mpr ⟨⟨⟨RX10, TX10, 30, "PageDesksModel", rfl, rfl, by decide, by decide, uw_X10_areSo_10, (List.mem_of_getElem? (i := 1) rfl), Or.inl rfl⟩, rfl⟩, fun _ h => absurd h List.not_mem_nil⟩
set_option maxRecDepth 20000 in
theorem ffg_X10_areSo_37 : ∀ k ∈ ([10] : List Nat), FF wsX10_areSo RX10 37 k 22 ∧ fR k 22 = true := List.forall_mem_cons.mpr ⟨⟨⟨RX10, TX10, 30, "PageDesksModel", rfl, rfl, by decide, by decide, uw_X10_areSo_10, (List.mem_of_getElem? (i := 2) rfl), Or.inl rfl⟩, rfl⟩, fun _ h => absurd h List.not_mem_nil⟩
set_option maxRecDepth 20000 in
theorem ffg_X10_areSo_40 : ∀ k ∈ ([10] : List Nat), FF wsX10_areSo RX10 40 k 23 ∧ fR k 23 = true := List.forall_mem_cons.mpr ⟨⟨⟨RX10, TX10, 30, "PageDesksModel", rfl, rfl, by decide, by decide, uw_X10_areSo_10, (List.mem_of_getElem? (i := 3) rfl), Or.inl rfl⟩, rfl⟩, fun _ h => absurd h List.not_mem_nil⟩
set_option maxRecDepth 20000 in
theorem ffg_X10_areSo_43 : ∀ k ∈ ([10] : List Nat), FF wsX10_areSo RX10 43 k 24 ∧ fR k 24 = true := List.forall_mem_cons.mpr ⟨⟨⟨RX10, TX10, 30, "PageDesksModel", rfl, rfl, by decide, by decide, uw_X10_areSo_10, (List.mem_of_getElem? (i := 4) rfl), Or.inl rfl⟩, rfl⟩, fun _ h => absurd h List.not_mem_nil⟩
set_option maxRecDepth 100000 in
set_option maxHeartbeats 4000000 in
theorem t_X10_areSo_55 {f : Fx} {g : Gm}  {Post : Int32 → Mm → Prop} {Kb : Int32 → Int32 → Mm → Prop} (hC : Cx f cX10_areSo 3 RX10 wsX10_areSo rm_X10_areSo) (hG : shM g) (hR : RtZ f cX10_areSo (fun r u => u.1 = g ∧ Post r u.2)) (hKb : ∀ (x1 : Int32) (x2 : Int32) (I : Mm) , Kb x1 x2 I → PW f 0 0 g I 4 [(0, .ref (gA g 100)), (1, .int x1), (2, .int x2)] []) : ∀ (x2 : Int32) (s0 : Int32) (I : Mm) , wp_X10_areSo_55  Kb Post x2 s0 I → PW f 0 0 g I 55 [(0, .ref (gA g 100)), (2, .int x2)] [.int s0] := by
  intro x2 s0 I  hw
  unfold wp_X10_areSo_55 at hw
  refine r_istore_n hC (lv' := [(1, .int s0), (0, .ref (gA g 100)), (2, .int x2)]) dX10_areSo_55 rfl rfl (by decide) rfl ?_
  refine r_iinc hC (k := 1) (lv' := [(2, .int (x2 + 1)), (1, .int s0), (0, .ref (gA g 100))]) dX10_areSo_56 rfl (j := 2) rfl (by decide) (by decide) rfl ?_
  refine r_goto hC (tgt := 4) dX10_areSo_59 (by decide) ?_
  exact r_sub (lv' := [(0, .ref (gA g 100)), (1, .int s0), (2, .int (x2 + 1))]) [2, 1, 0] rfl (hKb _ _ _ hw)
set_option maxRecDepth 100000 in
set_option maxHeartbeats 4000000 in
theorem t_X10_areSo_54 {f : Fx} {g : Gm}  {Post : Int32 → Mm → Prop} {Kb : Int32 → Int32 → Mm → Prop} (hC : Cx f cX10_areSo 3 RX10 wsX10_areSo rm_X10_areSo) (hG : shM g) (hR : RtZ f cX10_areSo (fun r u => u.1 = g ∧ Post r u.2)) (hKb : ∀ (x1 : Int32) (x2 : Int32) (I : Mm) , Kb x1 x2 I → PW f 0 0 g I 4 [(0, .ref (gA g 100)), (1, .int x1), (2, .int x2)] []) : ∀ (x2 : Int32) (I : Mm) , wp_X10_areSo_54  Kb Post x2 I → PW f 0 0 g I 54 [(0, .ref (gA g 100)), (2, .int x2)] [] := by
  intro x2 I  hw
  unfold wp_X10_areSo_54 at hw
  refine r_iconst hC (v := (0 : Int32)) dX10_areSo_54 rfl (by decide) ?_
  exact r_sub (lv' := [(0, .ref (gA g 100)), (2, .int x2)]) [0, 1] rfl (t_X10_areSo_55 hC hG hR hKb _ _ _ hw)
set_option maxRecDepth 100000 in
set_option maxHeartbeats 4000000 in
theorem t_X10_areSo_47 {f : Fx} {g : Gm}  {Post : Int32 → Mm → Prop} {Kb : Int32 → Int32 → Mm → Prop} (hC : Cx f cX10_areSo 3 RX10 wsX10_areSo rm_X10_areSo) (hG : shM g) (hR : RtZ f cX10_areSo (fun r u => u.1 = g ∧ Post r u.2)) (hKb : ∀ (x1 : Int32) (x2 : Int32) (I : Mm) , Kb x1 x2 I → PW f 0 0 g I 4 [(0, .ref (gA g 100)), (1, .int x1), (2, .int x2)] []) : ∀ (x2 : Int32) (s0 : Int32) (s1 : Int32) (I : Mm) , wp_X10_areSo_47  Kb Post x2 s0 s1 I → PW f 0 0 g I 47 [(0, .ref (gA g 100)), (2, .int x2)] [.int s0, .int s1] := by
  intro x2 s0 s1 I  hw
  unfold wp_X10_areSo_47 at hw
  refine r_icmp_ne hC (tgt := 54) dX10_areSo_47 rfl (by decide) hw (fun hw => ?_) (fun hw => ?_)
  · exact r_sub (lv' := [(0, .ref (gA g 100)), (2, .int x2)]) [0, 1] rfl (t_X10_areSo_54 hC hG hR hKb _ _ hw)
  · refine r_iconst hC (v := (1 : Int32)) dX10_areSo_50 rfl (by decide) ?_
    refine r_goto hC (tgt := 55) dX10_areSo_51 (by decide) ?_
    exact r_sub (lv' := [(0, .ref (gA g 100)), (2, .int x2)]) [0, 1] rfl (t_X10_areSo_55 hC hG hR hKb _ _ _ hw)
set_option maxRecDepth 100000 in
set_option maxHeartbeats 4000000 in
theorem t_X10_areSo_4 {f : Fx} {g : Gm}  {Post : Int32 → Mm → Prop}  (hC : Cx f cX10_areSo 3 RX10 wsX10_areSo rm_X10_areSo) (hG : shM g) (hR : RtZ f cX10_areSo (fun r u => u.1 = g ∧ Post r u.2))  : ∀ (nn4 : Nat) (x1 : Int32) (x2 : Int32) (I : Mm) , wp_X10_areSo_4   Post nn4 x1 x2 I → PW f 0 0 g I 4 [(0, .ref (gA g 100)), (1, .int x1), (2, .int x2)] [] := by
  intro nn4
  induction nn4 with
  | zero =>
    intro x1 x2 I  hw
    exact absurd hw id
  | succ nn4 ih =>
    intro x1 x2 I  hw
    unfold wp_X10_areSo_4 at hw
    refine r_iload_n hC dX10_areSo_4 rfl rfl (j := 2) rfl ?_
    refine r_aload_n hC dX10_areSo_5 rfl rfl (j := 0) rfl ?_
    refine r_getI hC dX10_areSo_6 rfl hG.o.1 hG.o.2 ffg_X10_areSo_132 ?_
    refine r_icmp_ge hC (tgt := 62) dX10_areSo_9 rfl (by decide) hw (fun hw => ?_) (fun hw => ?_)
    · refine r_iload_n hC dX10_areSo_62 rfl rfl (j := 1) rfl ?_
      exact r_retZ hC hR ⟨rfl, rfl⟩ dX10_areSo_63 (zb_of hw.1) hw.2
    · refine r_iload_n hC dX10_areSo_12 rfl rfl (j := 1) rfl ?_
      refine r_if_eq hC (tgt := 54) dX10_areSo_13 rfl (by decide) hw (fun hw => ?_) (fun hw => ?_)
      · exact r_sub (lv' := [(0, .ref (gA g 100)), (2, .int x2)]) [0, 2] rfl (t_X10_areSo_54 hC hG hR (fun x1 x2 I  hw => ih x1 x2 I  hw) _ _ hw)
      · refine r_aload_n hC dX10_areSo_16 rfl rfl (j := 0) rfl ?_
        refine r_aload_n hC dX10_areSo_17 rfl rfl (j := 0) rfl ?_
        refine r_getR hC dX10_areSo_18 rfl hG.o.1 hG.o.2 ffg_X10_areSo_37 hG.a22.2 ?_
        refine r_iload_n hC dX10_areSo_21 rfl rfl (j := 2) rfl ?_
        obtain ⟨hi, hw⟩ := hw
        refine r_iald hC dX10_areSo_22 rfl (hG.a22.1).1 (hG.a22.1).2.1 (by rw [(hG.a22.1).2.2]; exact hi) ?_
        refine r_aload_n hC dX10_areSo_23 rfl rfl (j := 0) rfl ?_
        refine r_getR hC dX10_areSo_24 rfl hG.o.1 hG.o.2 ffg_X10_areSo_40 hG.a23.2 ?_
        refine r_iload_n hC dX10_areSo_27 rfl rfl (j := 2) rfl ?_
        obtain ⟨hi, hw⟩ := hw
        refine r_iald hC dX10_areSo_28 rfl (hG.a23.1).1 (hG.a23.1).2.1 (by rw [(hG.a23.1).2.2]; exact hi) ?_
        refine r_callI hC (a_V hC (k := 10) (c_X10_isHit hG hw) ci_X10_isHit gX10_areSo_X10_isHit rfl ⟨Nat.le_of_ble_eq_true rfl, Nat.le_of_ble_eq_true rfl⟩ ⟨Nat.le_of_ble_eq_true rfl, Nat.le_of_ble_eq_true rfl⟩ rfl (by decide) hG.o.1 (List.mem_singleton.mp hG.o.2) rfl rfl (Nat.le_of_ble_eq_true rfl) dX10_areSo_29) ⟨rfl, rfl⟩ rfl (fun r1 J2 hw => ?_)
        refine r_aload_n hC dX10_areSo_32 rfl rfl (j := 0) rfl ?_
        refine r_getR hC dX10_areSo_33 rfl hG.o.1 hG.o.2 ffg_X10_areSo_43 hG.a24.2 ?_
        refine r_iload_n hC dX10_areSo_36 rfl rfl (j := 2) rfl ?_
        obtain ⟨hi, hw⟩ := hw
        refine r_iald hC dX10_areSo_37 rfl (hG.a24.1).1 (hG.a24.1).2.1 (by rw [(hG.a24.1).2.2]; exact hi) ?_
        refine r_iconst hC (v := (1 : Int32)) dX10_areSo_38 rfl (by decide) ?_
        refine r_icmp_ne hC (tgt := 46) dX10_areSo_39 rfl (by decide) hw (fun hw => ?_) (fun hw => ?_)
        · refine r_iconst hC (v := (0 : Int32)) dX10_areSo_46 rfl (by decide) ?_
          exact r_sub (lv' := [(0, .ref (gA g 100)), (2, .int x2)]) [0, 2] rfl (t_X10_areSo_47 hC hG hR (fun x1 x2 I  hw => ih x1 x2 I  hw) _ _ _ _ hw)
        · refine r_iconst hC (v := (1 : Int32)) dX10_areSo_42 rfl (by decide) ?_
          refine r_goto hC (tgt := 47) dX10_areSo_43 (by decide) ?_
          exact r_sub (lv' := [(0, .ref (gA g 100)), (2, .int x2)]) [0, 2] rfl (t_X10_areSo_47 hC hG hR (fun x1 x2 I  hw => ih x1 x2 I  hw) _ _ _ _ hw)
set_option maxRecDepth 100000 in
set_option maxHeartbeats 4000000 in
theorem t_X10_areSo_0 {f : Fx} {g : Gm}  {Post : Int32 → Mm → Prop}  {I : Mm} (hC : Cx f cX10_areSo 3 RX10 wsX10_areSo rm_X10_areSo) (hG : shM g) (hR : RtZ f cX10_areSo (fun r u => u.1 = g ∧ Post r u.2)) (hw : wp_X10_areSo   I Post) : PW f 0 0 g I 0 [(0, .ref (gA g 100))] [] := by
  unfold wp_X10_areSo at hw
  refine r_iconst hC (v := (1 : Int32)) dX10_areSo_0 rfl (by decide) ?_
  refine r_istore_n hC (lv' := [(1, .int (1 : Int32)), (0, .ref (gA g 100))]) dX10_areSo_1 rfl rfl (by decide) rfl ?_
  refine r_iconst hC (v := (0 : Int32)) dX10_areSo_2 rfl (by decide) ?_
  refine r_istore_n hC (lv' := [(2, .int (0 : Int32)), (1, .int (1 : Int32)), (0, .ref (gA g 100))]) dX10_areSo_3 rfl rfl (by decide) rfl ?_
  obtain ⟨nn4, hw⟩ := hw
  exact r_sub (lv' := [(0, .ref (gA g 100)), (1, .int (1 : Int32)), (2, .int (0 : Int32))]) [2, 1, 0] rfl ((t_X10_areSo_4 hC hG hR nn4 _ _ _ hw))
set_option maxRecDepth 100000 in
theorem c_X10_areSo {l : Launch} {x : Gx} {g : Gm}   {I : Mm} {Post : Int32 → Mm → Prop} (hG : shM g) (hw : wp_X10_areSo   I Post) : KI l x yX10_areSo wsX10_areSo rm_X10_areSo g I [.ref (gA g 100)] (fun r u => u.1 = g ∧ Post r u.2) := KZ_of (by decide) rfl rfl (Nat.le_of_ble_eq_true rfl) (fun f hC _ _ hR => t_X10_areSo_0 hC hG hR hw)

/-! X10_sizes -/
abbrev rm_X10_sizes : Room := { frames := 6, cells := 0, slots := 0, locals := 134 }
theorem ci_X10_sizes : CI yX10_sizes wsX10_sizes cX10_sizes 5 (some .int) 1 := ⟨⟨_, rfl⟩, by decide, by decide, by decide +kernel⟩
def wp_X10_sizes_52  (Kb : Int32 → Int32 → Int32 → Int32 → Mm → Prop) (Post : Int32 → Mm → Prop) (x1 : Int32) (x2 : Int32) (x4 : Int32) (s0 : Int32) (s1 : Int32) (I : Mm) : Prop := Kb x1 x2 (s1 ||| s0) (x4 + 1) I
def wp_X10_sizes_22   (Post : Int32 → Mm → Prop) : Nat → Int32 → Int32 → Int32 → Int32 → Mm → Prop
  | 0, _, _, _, _, _ => False
  | nn22 + 1, x1, x2, x3, x4, I => if (5 : Int32) < x4 then (vp_in x1 4 ∧ (Post x3 (up2 I 105 x1.toNatClampNeg x2))) else (vp_in x1 4 ∧ (wp_X10_areSo  (up2 I 105 x1.toNatClampNeg x4) (fun r3 J4 => if r3 = 0 then (wp_X10_sizes_52 (fun x1 x2 x3 x4 I => wp_X10_sizes_22  Post nn22 x1 x2 x3 x4 I) Post x1 x2 x4 (0 : Int32) x3 J4) else (wp_X10_sizes_52 (fun x1 x2 x3 x4 I => wp_X10_sizes_22  Post nn22 x1 x2 x3 x4 I) Post x1 x2 x4 ((1 : Int32) <<< (x4 &&& 31)) x3 J4))))
def wp_X10_sizes  (x1 : Int32) (I : Mm) (Post : Int32 → Mm → Prop) : Prop := wp_X10_noDesk x1 I (fun r1 J2 => if r1 = 0 then (vp_in x1 4 ∧ (∃ nn22, wp_X10_sizes_22  Post nn22 x1 (J2 105 x1.toNatClampNeg) (0 : Int32) (1 : Int32) J2)) else (Post (-1 : Int32) J2))
set_option maxRecDepth 20000 in
theorem uw_X10_sizes_10 : ∀ w ∈ u_ws RX10 TX10 30, w ∈ wsX10_sizes := by decide +kernel
set_option maxRecDepth 20000 in
theorem ffg_X10_sizes_13 : ∀ k ∈ ([10] : List Nat), FF wsX10_sizes RX10 13 k 5 ∧ fR k 5 = true := List.forall_mem_cons.mpr ⟨⟨⟨RX10, TX10, 30, "PageDesksModel", rfl, rfl, by decide, by decide, uw_X10_sizes_10, (List.mem_of_getElem? (i := 1) rfl), Or.inl rfl⟩, rfl⟩, fun _ h => absurd h List.not_mem_nil⟩
set_option maxRecDepth 100000 in
set_option maxHeartbeats 4000000 in
theorem t_X10_sizes_52 {f : Fx} {g : Gm}  {Post : Int32 → Mm → Prop} {Kb : Int32 → Int32 → Int32 → Int32 → Mm → Prop} (hC : Cx f cX10_sizes 5 RX10 wsX10_sizes rm_X10_sizes) (hG : shM g) (hR : RtI f cX10_sizes (fun r u => u.1 = g ∧ Post r u.2)) (hKb : ∀ (x1 : Int32) (x2 : Int32) (x3 : Int32) (x4 : Int32) (I : Mm) , Kb x1 x2 x3 x4 I → PW f 0 0 g I 22 [(0, .ref (gA g 100)), (1, .int x1), (2, .int x2), (3, .int x3), (4, .int x4)] []) : ∀ (x1 : Int32) (x2 : Int32) (x4 : Int32) (s0 : Int32) (s1 : Int32) (I : Mm) , wp_X10_sizes_52  Kb Post x1 x2 x4 s0 s1 I → PW f 0 0 g I 52 [(0, .ref (gA g 100)), (1, .int x1), (2, .int x2), (4, .int x4)] [.int s0, .int s1] := by
  intro x1 x2 x4 s0 s1 I  hw
  unfold wp_X10_sizes_52 at hw
  refine r_ior hC dX10_sizes_52 rfl ?_
  refine r_istore_n hC (lv' := [(3, .int (s1 ||| s0)), (0, .ref (gA g 100)), (1, .int x1), (2, .int x2), (4, .int x4)]) dX10_sizes_53 rfl rfl (by decide) rfl ?_
  refine r_iinc hC (k := 1) (lv' := [(4, .int (x4 + 1)), (3, .int (s1 ||| s0)), (0, .ref (gA g 100)), (1, .int x1), (2, .int x2)]) dX10_sizes_54 rfl (j := 4) rfl (by decide) (by decide) rfl ?_
  refine r_goto hC (tgt := 22) dX10_sizes_57 (by decide) ?_
  exact r_sub (lv' := [(0, .ref (gA g 100)), (1, .int x1), (2, .int x2), (3, .int (s1 ||| s0)), (4, .int (x4 + 1))]) [2, 3, 4, 1, 0] rfl (hKb _ _ _ _ _ hw)
set_option maxRecDepth 100000 in
set_option maxHeartbeats 4000000 in
theorem t_X10_sizes_22 {f : Fx} {g : Gm}  {Post : Int32 → Mm → Prop}  (hC : Cx f cX10_sizes 5 RX10 wsX10_sizes rm_X10_sizes) (hG : shM g) (hR : RtI f cX10_sizes (fun r u => u.1 = g ∧ Post r u.2))  : ∀ (nn22 : Nat) (x1 : Int32) (x2 : Int32) (x3 : Int32) (x4 : Int32) (I : Mm) , wp_X10_sizes_22   Post nn22 x1 x2 x3 x4 I → PW f 0 0 g I 22 [(0, .ref (gA g 100)), (1, .int x1), (2, .int x2), (3, .int x3), (4, .int x4)] [] := by
  intro nn22
  induction nn22 with
  | zero =>
    intro x1 x2 x3 x4 I  hw
    exact absurd hw id
  | succ nn22 ih =>
    intro x1 x2 x3 x4 I  hw
    unfold wp_X10_sizes_22 at hw
    refine r_iload hC dX10_sizes_22 rfl (j := 4) rfl ?_
    refine r_iconst hC (v := (5 : Int32)) dX10_sizes_24 rfl (by decide) ?_
    refine r_icmp_gt hC (tgt := 60) dX10_sizes_25 rfl (by decide) hw (fun hw => ?_) (fun hw => ?_)
    · refine r_aload_n hC dX10_sizes_60 rfl rfl (j := 0) rfl ?_
      refine r_getR hC dX10_sizes_61 rfl hG.o.1 hG.o.2 ffg_X10_sizes_13 hG.a5.2 ?_
      refine r_iload_n hC dX10_sizes_64 rfl rfl (j := 1) rfl ?_
      refine r_iload_n hC dX10_sizes_65 rfl rfl (j := 2) rfl ?_
      obtain ⟨hi, hw⟩ := hw
      refine r_iast hC dX10_sizes_66 rfl (hG.a5.1).1 (hG.a5.1).2.1 (by rw [(hG.a5.1).2.2]; exact hi) ?_
      refine r_iload_n hC dX10_sizes_67 rfl rfl (j := 3) rfl ?_
      exact r_retI hC hR ⟨rfl, rfl⟩ dX10_sizes_68 hw
    · refine r_aload_n hC dX10_sizes_28 rfl rfl (j := 0) rfl ?_
      refine r_getR hC dX10_sizes_29 rfl hG.o.1 hG.o.2 ffg_X10_sizes_13 hG.a5.2 ?_
      refine r_iload_n hC dX10_sizes_32 rfl rfl (j := 1) rfl ?_
      refine r_iload hC dX10_sizes_33 rfl (j := 4) rfl ?_
      obtain ⟨hi, hw⟩ := hw
      refine r_iast hC dX10_sizes_35 rfl (hG.a5.1).1 (hG.a5.1).2.1 (by rw [(hG.a5.1).2.2]; exact hi) ?_
      refine r_iload_n hC dX10_sizes_36 rfl rfl (j := 3) rfl ?_
      refine r_aload_n hC dX10_sizes_37 rfl rfl (j := 0) rfl ?_
      refine r_callI hC (a_V hC (k := 10) (c_X10_areSo hG hw) ci_X10_areSo gX10_sizes_X10_areSo rfl ⟨Nat.le_of_ble_eq_true rfl, Nat.le_of_ble_eq_true rfl⟩ ⟨Nat.le_of_ble_eq_true rfl, Nat.le_of_ble_eq_true rfl⟩ rfl (by decide) hG.o.1 (List.mem_singleton.mp hG.o.2) rfl rfl (Nat.le_of_ble_eq_true rfl) dX10_sizes_38) ⟨rfl, rfl⟩ rfl (fun r3 J4 hw => ?_)
      refine r_if_eq hC (tgt := 51) dX10_sizes_41 rfl (by decide) hw (fun hw => ?_) (fun hw => ?_)
      · refine r_iconst hC (v := (0 : Int32)) dX10_sizes_51 rfl (by decide) ?_
        exact r_sub (lv' := [(0, .ref (gA g 100)), (1, .int x1), (2, .int x2), (4, .int x4)]) [0, 1, 2, 4] rfl (t_X10_sizes_52 hC hG hR (fun x1 x2 x3 x4 I  hw => ih x1 x2 x3 x4 I  hw) _ _ _ _ _ _ hw)
      · refine r_iconst hC (v := (1 : Int32)) dX10_sizes_44 rfl (by decide) ?_
        refine r_iload hC dX10_sizes_45 rfl (j := 4) rfl ?_
        refine r_ishl hC dX10_sizes_47 rfl ?_
        refine r_goto hC (tgt := 52) dX10_sizes_48 (by decide) ?_
        exact r_sub (lv' := [(0, .ref (gA g 100)), (1, .int x1), (2, .int x2), (4, .int x4)]) [0, 1, 2, 4] rfl (t_X10_sizes_52 hC hG hR (fun x1 x2 x3 x4 I  hw => ih x1 x2 x3 x4 I  hw) _ _ _ _ _ _ hw)
set_option maxRecDepth 100000 in
set_option maxHeartbeats 4000000 in
theorem t_X10_sizes_0 {f : Fx} {g : Gm}  {Post : Int32 → Mm → Prop} {x1 : Int32} {I : Mm} (hC : Cx f cX10_sizes 5 RX10 wsX10_sizes rm_X10_sizes) (hG : shM g) (hR : RtI f cX10_sizes (fun r u => u.1 = g ∧ Post r u.2)) (hw : wp_X10_sizes  x1 I Post) : PW f 0 0 g I 0 [(0, .ref (gA g 100)), (1, .int x1)] [] := by
  unfold wp_X10_sizes at hw
  refine r_aload_n hC dX10_sizes_0 rfl rfl (j := 0) rfl ?_
  refine r_iload_n hC dX10_sizes_1 rfl rfl (j := 1) rfl ?_
  refine r_callI hC (a_V hC (k := 10) (c_X10_noDesk hG hw) ci_X10_noDesk gX10_sizes_X10_noDesk rfl ⟨Nat.le_of_ble_eq_true rfl, Nat.le_of_ble_eq_true rfl⟩ ⟨Nat.le_of_ble_eq_true rfl, Nat.le_of_ble_eq_true rfl⟩ rfl (by decide) hG.o.1 (List.mem_singleton.mp hG.o.2) rfl rfl (Nat.le_of_ble_eq_true rfl) dX10_sizes_2) ⟨rfl, rfl⟩ rfl (fun r1 J2 hw => ?_)
  refine r_if_eq hC (tgt := 10) dX10_sizes_5 rfl (by decide) hw (fun hw => ?_) (fun hw => ?_)
  · refine r_aload_n hC dX10_sizes_10 rfl rfl (j := 0) rfl ?_
    refine r_getR hC dX10_sizes_11 rfl hG.o.1 hG.o.2 ffg_X10_sizes_13 hG.a5.2 ?_
    refine r_iload_n hC dX10_sizes_14 rfl rfl (j := 1) rfl ?_
    obtain ⟨hi, hw⟩ := hw
    refine r_iald hC dX10_sizes_15 rfl (hG.a5.1).1 (hG.a5.1).2.1 (by rw [(hG.a5.1).2.2]; exact hi) ?_
    refine r_istore_n hC (lv' := [(2, .int (J2 105 x1.toNatClampNeg)), (0, .ref (gA g 100)), (1, .int x1)]) dX10_sizes_16 rfl rfl (by decide) rfl ?_
    refine r_iconst hC (v := (0 : Int32)) dX10_sizes_17 rfl (by decide) ?_
    refine r_istore_n hC (lv' := [(3, .int (0 : Int32)), (2, .int (J2 105 x1.toNatClampNeg)), (0, .ref (gA g 100)), (1, .int x1)]) dX10_sizes_18 rfl rfl (by decide) rfl ?_
    refine r_iconst hC (v := (1 : Int32)) dX10_sizes_19 rfl (by decide) ?_
    refine r_istore hC (lv' := [(4, .int (1 : Int32)), (3, .int (0 : Int32)), (2, .int (J2 105 x1.toNatClampNeg)), (0, .ref (gA g 100)), (1, .int x1)]) dX10_sizes_20 rfl (by decide) rfl ?_
    obtain ⟨nn22, hw⟩ := hw
    exact r_sub (lv' := [(0, .ref (gA g 100)), (1, .int x1), (2, .int (J2 105 x1.toNatClampNeg)), (3, .int (0 : Int32)), (4, .int (1 : Int32))]) [3, 4, 2, 1, 0] rfl ((t_X10_sizes_22 hC hG hR nn22 _ _ _ _ _ hw))
  · refine r_iconst hC (v := (-1 : Int32)) dX10_sizes_8 rfl (by decide) ?_
    exact r_retI hC hR ⟨rfl, rfl⟩ dX10_sizes_9 hw
set_option maxRecDepth 100000 in
theorem c_X10_sizes {l : Launch} {x : Gx} {g : Gm}  {x1 : Int32} {I : Mm} {Post : Int32 → Mm → Prop} (hG : shM g) (hw : wp_X10_sizes  x1 I Post) : KI l x yX10_sizes wsX10_sizes rm_X10_sizes g I [.ref (gA g 100), .int x1] (fun r u => u.1 = g ∧ Post r u.2) := KI_of (by decide) rfl rfl (Nat.le_of_ble_eq_true rfl) (fun f hC _ _ hR => t_X10_sizes_0 hC hG hR hw)

/-! X10_kinds -/
abbrev rm_X10_kinds : Room := { frames := 6, cells := 0, slots := 0, locals := 134 }
theorem ci_X10_kinds : CI yX10_kinds wsX10_kinds cX10_kinds 5 (some .int) 1 := ⟨⟨_, rfl⟩, by decide, by decide, by decide +kernel⟩
def wp_X10_kinds_52  (Kb : Int32 → Int32 → Int32 → Int32 → Mm → Prop) (Post : Int32 → Mm → Prop) (x1 : Int32) (x2 : Int32) (x4 : Int32) (s0 : Int32) (s1 : Int32) (I : Mm) : Prop := Kb x1 x2 (s1 ||| s0) (x4 + 1) I
def wp_X10_kinds_22   (Post : Int32 → Mm → Prop) : Nat → Int32 → Int32 → Int32 → Int32 → Mm → Prop
  | 0, _, _, _, _, _ => False
  | nn22 + 1, x1, x2, x3, x4, I => if (3 : Int32) ≤ x4 then (vp_in x1 4 ∧ (Post x3 (up2 I 104 x1.toNatClampNeg x2))) else (vp_in x1 4 ∧ (wp_X10_areSo  (up2 I 104 x1.toNatClampNeg x4) (fun r3 J4 => if r3 = 0 then (wp_X10_kinds_52 (fun x1 x2 x3 x4 I => wp_X10_kinds_22  Post nn22 x1 x2 x3 x4 I) Post x1 x2 x4 (0 : Int32) x3 J4) else (wp_X10_kinds_52 (fun x1 x2 x3 x4 I => wp_X10_kinds_22  Post nn22 x1 x2 x3 x4 I) Post x1 x2 x4 ((1 : Int32) <<< (x4 &&& 31)) x3 J4))))
def wp_X10_kinds  (x1 : Int32) (I : Mm) (Post : Int32 → Mm → Prop) : Prop := wp_X10_noDesk x1 I (fun r1 J2 => if r1 = 0 then (vp_in x1 4 ∧ (∃ nn22, wp_X10_kinds_22  Post nn22 x1 (J2 104 x1.toNatClampNeg) (0 : Int32) (0 : Int32) J2)) else (Post (-1 : Int32) J2))
set_option maxRecDepth 20000 in
theorem uw_X10_kinds_10 : ∀ w ∈ u_ws RX10 TX10 30, w ∈ wsX10_kinds := by decide +kernel
set_option maxRecDepth 20000 in
theorem ffg_X10_kinds_7 : ∀ k ∈ ([10] : List Nat), FF wsX10_kinds RX10 7 k 4 ∧ fR k 4 = true := List.forall_mem_cons.mpr ⟨⟨⟨RX10, TX10, 30, "PageDesksModel", rfl, rfl, by decide, by decide, uw_X10_kinds_10, (List.mem_of_getElem? (i := 1) rfl), Or.inl rfl⟩, rfl⟩, fun _ h => absurd h List.not_mem_nil⟩
set_option maxRecDepth 100000 in
set_option maxHeartbeats 4000000 in
theorem t_X10_kinds_52 {f : Fx} {g : Gm}  {Post : Int32 → Mm → Prop} {Kb : Int32 → Int32 → Int32 → Int32 → Mm → Prop} (hC : Cx f cX10_kinds 5 RX10 wsX10_kinds rm_X10_kinds) (hG : shM g) (hR : RtI f cX10_kinds (fun r u => u.1 = g ∧ Post r u.2)) (hKb : ∀ (x1 : Int32) (x2 : Int32) (x3 : Int32) (x4 : Int32) (I : Mm) , Kb x1 x2 x3 x4 I → PW f 0 0 g I 22 [(0, .ref (gA g 100)), (1, .int x1), (2, .int x2), (3, .int x3), (4, .int x4)] []) : ∀ (x1 : Int32) (x2 : Int32) (x4 : Int32) (s0 : Int32) (s1 : Int32) (I : Mm) , wp_X10_kinds_52  Kb Post x1 x2 x4 s0 s1 I → PW f 0 0 g I 52 [(0, .ref (gA g 100)), (1, .int x1), (2, .int x2), (4, .int x4)] [.int s0, .int s1] := by
  intro x1 x2 x4 s0 s1 I  hw
  unfold wp_X10_kinds_52 at hw
  refine r_ior hC dX10_kinds_52 rfl ?_
  refine r_istore_n hC (lv' := [(3, .int (s1 ||| s0)), (0, .ref (gA g 100)), (1, .int x1), (2, .int x2), (4, .int x4)]) dX10_kinds_53 rfl rfl (by decide) rfl ?_
  refine r_iinc hC (k := 1) (lv' := [(4, .int (x4 + 1)), (3, .int (s1 ||| s0)), (0, .ref (gA g 100)), (1, .int x1), (2, .int x2)]) dX10_kinds_54 rfl (j := 4) rfl (by decide) (by decide) rfl ?_
  refine r_goto hC (tgt := 22) dX10_kinds_57 (by decide) ?_
  exact r_sub (lv' := [(0, .ref (gA g 100)), (1, .int x1), (2, .int x2), (3, .int (s1 ||| s0)), (4, .int (x4 + 1))]) [2, 3, 4, 1, 0] rfl (hKb _ _ _ _ _ hw)
set_option maxRecDepth 100000 in
set_option maxHeartbeats 4000000 in
theorem t_X10_kinds_22 {f : Fx} {g : Gm}  {Post : Int32 → Mm → Prop}  (hC : Cx f cX10_kinds 5 RX10 wsX10_kinds rm_X10_kinds) (hG : shM g) (hR : RtI f cX10_kinds (fun r u => u.1 = g ∧ Post r u.2))  : ∀ (nn22 : Nat) (x1 : Int32) (x2 : Int32) (x3 : Int32) (x4 : Int32) (I : Mm) , wp_X10_kinds_22   Post nn22 x1 x2 x3 x4 I → PW f 0 0 g I 22 [(0, .ref (gA g 100)), (1, .int x1), (2, .int x2), (3, .int x3), (4, .int x4)] [] := by
  intro nn22
  induction nn22 with
  | zero =>
    intro x1 x2 x3 x4 I  hw
    exact absurd hw id
  | succ nn22 ih =>
    intro x1 x2 x3 x4 I  hw
    unfold wp_X10_kinds_22 at hw
    refine r_iload hC dX10_kinds_22 rfl (j := 4) rfl ?_
    refine r_iconst hC (v := (3 : Int32)) dX10_kinds_24 rfl (by decide) ?_
    refine r_icmp_ge hC (tgt := 60) dX10_kinds_25 rfl (by decide) hw (fun hw => ?_) (fun hw => ?_)
    · refine r_aload_n hC dX10_kinds_60 rfl rfl (j := 0) rfl ?_
      refine r_getR hC dX10_kinds_61 rfl hG.o.1 hG.o.2 ffg_X10_kinds_7 hG.a4.2 ?_
      refine r_iload_n hC dX10_kinds_64 rfl rfl (j := 1) rfl ?_
      refine r_iload_n hC dX10_kinds_65 rfl rfl (j := 2) rfl ?_
      obtain ⟨hi, hw⟩ := hw
      refine r_iast hC dX10_kinds_66 rfl (hG.a4.1).1 (hG.a4.1).2.1 (by rw [(hG.a4.1).2.2]; exact hi) ?_
      refine r_iload_n hC dX10_kinds_67 rfl rfl (j := 3) rfl ?_
      exact r_retI hC hR ⟨rfl, rfl⟩ dX10_kinds_68 hw
    · refine r_aload_n hC dX10_kinds_28 rfl rfl (j := 0) rfl ?_
      refine r_getR hC dX10_kinds_29 rfl hG.o.1 hG.o.2 ffg_X10_kinds_7 hG.a4.2 ?_
      refine r_iload_n hC dX10_kinds_32 rfl rfl (j := 1) rfl ?_
      refine r_iload hC dX10_kinds_33 rfl (j := 4) rfl ?_
      obtain ⟨hi, hw⟩ := hw
      refine r_iast hC dX10_kinds_35 rfl (hG.a4.1).1 (hG.a4.1).2.1 (by rw [(hG.a4.1).2.2]; exact hi) ?_
      refine r_iload_n hC dX10_kinds_36 rfl rfl (j := 3) rfl ?_
      refine r_aload_n hC dX10_kinds_37 rfl rfl (j := 0) rfl ?_
      refine r_callI hC (a_V hC (k := 10) (c_X10_areSo hG hw) ci_X10_areSo gX10_kinds_X10_areSo rfl ⟨Nat.le_of_ble_eq_true rfl, Nat.le_of_ble_eq_true rfl⟩ ⟨Nat.le_of_ble_eq_true rfl, Nat.le_of_ble_eq_true rfl⟩ rfl (by decide) hG.o.1 (List.mem_singleton.mp hG.o.2) rfl rfl (Nat.le_of_ble_eq_true rfl) dX10_kinds_38) ⟨rfl, rfl⟩ rfl (fun r3 J4 hw => ?_)
      refine r_if_eq hC (tgt := 51) dX10_kinds_41 rfl (by decide) hw (fun hw => ?_) (fun hw => ?_)
      · refine r_iconst hC (v := (0 : Int32)) dX10_kinds_51 rfl (by decide) ?_
        exact r_sub (lv' := [(0, .ref (gA g 100)), (1, .int x1), (2, .int x2), (4, .int x4)]) [0, 1, 2, 4] rfl (t_X10_kinds_52 hC hG hR (fun x1 x2 x3 x4 I  hw => ih x1 x2 x3 x4 I  hw) _ _ _ _ _ _ hw)
      · refine r_iconst hC (v := (1 : Int32)) dX10_kinds_44 rfl (by decide) ?_
        refine r_iload hC dX10_kinds_45 rfl (j := 4) rfl ?_
        refine r_ishl hC dX10_kinds_47 rfl ?_
        refine r_goto hC (tgt := 52) dX10_kinds_48 (by decide) ?_
        exact r_sub (lv' := [(0, .ref (gA g 100)), (1, .int x1), (2, .int x2), (4, .int x4)]) [0, 1, 2, 4] rfl (t_X10_kinds_52 hC hG hR (fun x1 x2 x3 x4 I  hw => ih x1 x2 x3 x4 I  hw) _ _ _ _ _ _ hw)
set_option maxRecDepth 100000 in
set_option maxHeartbeats 4000000 in
theorem t_X10_kinds_0 {f : Fx} {g : Gm}  {Post : Int32 → Mm → Prop} {x1 : Int32} {I : Mm} (hC : Cx f cX10_kinds 5 RX10 wsX10_kinds rm_X10_kinds) (hG : shM g) (hR : RtI f cX10_kinds (fun r u => u.1 = g ∧ Post r u.2)) (hw : wp_X10_kinds  x1 I Post) : PW f 0 0 g I 0 [(0, .ref (gA g 100)), (1, .int x1)] [] := by
  unfold wp_X10_kinds at hw
  refine r_aload_n hC dX10_kinds_0 rfl rfl (j := 0) rfl ?_
  refine r_iload_n hC dX10_kinds_1 rfl rfl (j := 1) rfl ?_
  refine r_callI hC (a_V hC (k := 10) (c_X10_noDesk hG hw) ci_X10_noDesk gX10_kinds_X10_noDesk rfl ⟨Nat.le_of_ble_eq_true rfl, Nat.le_of_ble_eq_true rfl⟩ ⟨Nat.le_of_ble_eq_true rfl, Nat.le_of_ble_eq_true rfl⟩ rfl (by decide) hG.o.1 (List.mem_singleton.mp hG.o.2) rfl rfl (Nat.le_of_ble_eq_true rfl) dX10_kinds_2) ⟨rfl, rfl⟩ rfl (fun r1 J2 hw => ?_)
  refine r_if_eq hC (tgt := 10) dX10_kinds_5 rfl (by decide) hw (fun hw => ?_) (fun hw => ?_)
  · refine r_aload_n hC dX10_kinds_10 rfl rfl (j := 0) rfl ?_
    refine r_getR hC dX10_kinds_11 rfl hG.o.1 hG.o.2 ffg_X10_kinds_7 hG.a4.2 ?_
    refine r_iload_n hC dX10_kinds_14 rfl rfl (j := 1) rfl ?_
    obtain ⟨hi, hw⟩ := hw
    refine r_iald hC dX10_kinds_15 rfl (hG.a4.1).1 (hG.a4.1).2.1 (by rw [(hG.a4.1).2.2]; exact hi) ?_
    refine r_istore_n hC (lv' := [(2, .int (J2 104 x1.toNatClampNeg)), (0, .ref (gA g 100)), (1, .int x1)]) dX10_kinds_16 rfl rfl (by decide) rfl ?_
    refine r_iconst hC (v := (0 : Int32)) dX10_kinds_17 rfl (by decide) ?_
    refine r_istore_n hC (lv' := [(3, .int (0 : Int32)), (2, .int (J2 104 x1.toNatClampNeg)), (0, .ref (gA g 100)), (1, .int x1)]) dX10_kinds_18 rfl rfl (by decide) rfl ?_
    refine r_iconst hC (v := (0 : Int32)) dX10_kinds_19 rfl (by decide) ?_
    refine r_istore hC (lv' := [(4, .int (0 : Int32)), (3, .int (0 : Int32)), (2, .int (J2 104 x1.toNatClampNeg)), (0, .ref (gA g 100)), (1, .int x1)]) dX10_kinds_20 rfl (by decide) rfl ?_
    obtain ⟨nn22, hw⟩ := hw
    exact r_sub (lv' := [(0, .ref (gA g 100)), (1, .int x1), (2, .int (J2 104 x1.toNatClampNeg)), (3, .int (0 : Int32)), (4, .int (0 : Int32))]) [3, 4, 2, 1, 0] rfl ((t_X10_kinds_22 hC hG hR nn22 _ _ _ _ _ hw))
  · refine r_iconst hC (v := (-1 : Int32)) dX10_kinds_8 rfl (by decide) ?_
    exact r_retI hC hR ⟨rfl, rfl⟩ dX10_kinds_9 hw
set_option maxRecDepth 100000 in
theorem c_X10_kinds {l : Launch} {x : Gx} {g : Gm}  {x1 : Int32} {I : Mm} {Post : Int32 → Mm → Prop} (hG : shM g) (hw : wp_X10_kinds  x1 I Post) : KI l x yX10_kinds wsX10_kinds rm_X10_kinds g I [.ref (gA g 100), .int x1] (fun r u => u.1 = g ∧ Post r u.2) := KI_of (by decide) rfl rfl (Nat.le_of_ble_eq_true rfl) (fun f hC _ _ hR => t_X10_kinds_0 hC hG hR hw)

/-! X10_odds -/
abbrev rm_X10_odds : Room := { frames := 5, cells := 0, slots := 0, locals := 111 }
theorem ci_X10_odds : CI yX10_odds wsX10_odds cX10_odds 9 (some .long) 3 := ⟨⟨_, rfl⟩, by decide, by decide, by decide +kernel⟩
def wp_X10_odds_30   (Post : Int64 → Mm → Prop)  (I : Mm) : Prop := wp_X10_lost  I (fun r9 J10 => Post r9 J10)
def wp_X10_odds_48  (K78 : Int32 → Int64 → Int64 → Mm → Prop) (Post : Int64 → Mm → Prop) : Nat → Int32 → Int32 → Int64 → Int64 → Int32 → Mm → Prop
  | 0, _, _, _, _, _, _ => False
  | nn48 + 1, x2, x3, y4, y6, x8, I => if x2 ≤ x8 then (K78 x3 y4 y6 I) else (wp_X10_odds_48 K78 Post nn48 x2 x3 (y4 * ((I 100 15).toInt64)) (y6 * (8 : Int64)) (x8 + 1) I)
def wp_X10_odds_78   (Post : Int64 → Mm → Prop) (x3 : Int32) (y4 : Int64) (y6 : Int64) (I : Mm) : Prop := wp_X10_share y4 y6 x3 I (fun r11 J12 => Post r11 J12)
def wp_X10_odds  (x1 : Int32) (x2 : Int32) (x3 : Int32) (I : Mm) (Post : Int64 → Mm → Prop) : Prop := wp_X10_noDesk x1 I (fun r1 J2 => if r1 = 0 then (wp_X10_in x2.toInt64 (0 : Int64) (3 : Int64) J2 (fun r3 J4 => if r3 = 0 then (wp_X10_odds_30  Post  J4) else (wp_X10_in x3.toInt64 (0 : Int64) (1 : Int64) J4 (fun r5 J6 => if r5 = 0 then (wp_X10_odds_30  Post  J6) else (wp_X10_playsNow x1 J6 (fun J8 => ∃ nn48, wp_X10_odds_48 (fun x3 y4 y6 I => wp_X10_odds_78  Post x3 y4 y6 I) Post nn48 x2 x3 (1 : Int64) (1 : Int64) (0 : Int32) J8)))))) else (wp_X10_odds_30  Post  J2))
set_option maxRecDepth 20000 in
theorem uw_X10_odds_10 : ∀ w ∈ u_ws RX10 TX10 30, w ∈ wsX10_odds := by decide +kernel
set_option maxRecDepth 20000 in
theorem ffg_X10_odds_141 : ∀ k ∈ ([10] : List Nat), FF wsX10_odds RX10 141 k 15 ∧ fR k 15 = false := List.forall_mem_cons.mpr ⟨⟨⟨RX10, TX10, 30, "PageDesksModel", rfl, rfl, by decide, by decide, uw_X10_odds_10, (List.mem_of_getElem? (i := 2) rfl), Or.inl rfl⟩, rfl⟩, fun _ h => absurd h List.not_mem_nil⟩
set_option maxRecDepth 100000 in
set_option maxHeartbeats 4000000 in
theorem t_X10_odds_30 {f : Fx} {g : Gm}  {Post : Int64 → Mm → Prop}  (hC : Cx f cX10_odds 9 RX10 wsX10_odds rm_X10_odds) (hG : shM g) (hR : RtL f cX10_odds (fun r u => u.1 = g ∧ Post r u.2))  : ∀  (I : Mm) , wp_X10_odds_30   Post  I → PW f 0 0 g I 30 [] [] := by
  intro  I  hw
  unfold wp_X10_odds_30 at hw
  refine r_callL hC (a_S hC (c_X10_lost  hw) ci_X10_lost gX10_odds_X10_lost ⟨Nat.le_of_ble_eq_true rfl, Nat.le_of_ble_eq_true rfl⟩ ⟨Nat.le_of_ble_eq_true rfl, Nat.le_of_ble_eq_true rfl⟩ rfl rfl (Nat.le_of_ble_eq_true rfl) dX10_odds_30) ⟨rfl, rfl⟩ rfl (fun r9 J10 hw => ?_)
  exact r_retL hC hR ⟨rfl, rfl⟩ dX10_odds_33 hw
set_option maxRecDepth 100000 in
set_option maxHeartbeats 4000000 in
theorem t_X10_odds_48 {f : Fx} {g : Gm}  {Post : Int64 → Mm → Prop} {K78 : Int32 → Int64 → Int64 → Mm → Prop} (hC : Cx f cX10_odds 9 RX10 wsX10_odds rm_X10_odds) (hG : shM g) (hR : RtL f cX10_odds (fun r u => u.1 = g ∧ Post r u.2)) (hK78 : ∀ (x3 : Int32) (y4 : Int64) (y6 : Int64) (I : Mm) , K78 x3 y4 y6 I → PW f 0 0 g I 78 [(3, .int x3), (4, .long y4), (6, .long y6)] []) : ∀ (nn48 : Nat) (x2 : Int32) (x3 : Int32) (y4 : Int64) (y6 : Int64) (x8 : Int32) (I : Mm) , wp_X10_odds_48  K78 Post nn48 x2 x3 y4 y6 x8 I → PW f 0 0 g I 48 [(0, .ref (gA g 100)), (2, .int x2), (3, .int x3), (4, .long y4), (6, .long y6), (8, .int x8)] [] := by
  intro nn48
  induction nn48 with
  | zero =>
    intro x2 x3 y4 y6 x8 I  hw
    exact absurd hw id
  | succ nn48 ih =>
    intro x2 x3 y4 y6 x8 I  hw
    unfold wp_X10_odds_48 at hw
    refine r_iload hC dX10_odds_48 rfl (j := 5) rfl ?_
    refine r_iload_n hC dX10_odds_50 rfl rfl (j := 1) rfl ?_
    refine r_icmp_ge hC (tgt := 78) dX10_odds_51 rfl (by decide) hw (fun hw => ?_) (fun hw => ?_)
    · exact r_sub (lv' := [(3, .int x3), (4, .long y4), (6, .long y6)]) [2, 3, 4] rfl (hK78 _ _ _ _ hw)
    · refine r_lload hC dX10_odds_54 rfl (j := 3) rfl ?_
      refine r_aload_n hC dX10_odds_56 rfl rfl (j := 0) rfl ?_
      refine r_getI hC dX10_odds_57 rfl hG.o.1 hG.o.2 ffg_X10_odds_141 ?_
      refine r_i2l hC dX10_odds_60 rfl ?_
      refine r_lmul hC dX10_odds_61 rfl ?_
      refine r_lstore hC (lv' := [(4, .long (y4 * ((I 100 15).toInt64))), (0, .ref (gA g 100)), (2, .int x2), (3, .int x3), (6, .long y6), (8, .int x8)]) dX10_odds_62 rfl (by decide) rfl ?_
      refine r_lload hC dX10_odds_64 rfl (j := 4) rfl ?_
      refine r_ldc2 hC (v := (8 : Int64)) dX10_odds_66 rfl (List.mem_of_getElem? (i := 3) rfl) ?_
      refine r_lmul hC dX10_odds_69 rfl ?_
      refine r_lstore hC (lv' := [(6, .long (y6 * (8 : Int64))), (4, .long (y4 * ((I 100 15).toInt64))), (0, .ref (gA g 100)), (2, .int x2), (3, .int x3), (8, .int x8)]) dX10_odds_70 rfl (by decide) rfl ?_
      refine r_iinc hC (k := 1) (lv' := [(8, .int (x8 + 1)), (6, .long (y6 * (8 : Int64))), (4, .long (y4 * ((I 100 15).toInt64))), (0, .ref (gA g 100)), (2, .int x2), (3, .int x3)]) dX10_odds_72 rfl (j := 5) rfl (by decide) (by decide) rfl ?_
      refine r_goto hC (tgt := 48) dX10_odds_75 (by decide) ?_
      exact r_sub (lv' := [(0, .ref (gA g 100)), (2, .int x2), (3, .int x3), (4, .long (y4 * ((I 100 15).toInt64))), (6, .long (y6 * (8 : Int64))), (8, .int (x8 + 1))]) [3, 4, 5, 2, 1, 0] rfl (ih _ _ _ _ _ _ hw)
set_option maxRecDepth 100000 in
set_option maxHeartbeats 4000000 in
theorem t_X10_odds_78 {f : Fx} {g : Gm}  {Post : Int64 → Mm → Prop}  (hC : Cx f cX10_odds 9 RX10 wsX10_odds rm_X10_odds) (hG : shM g) (hR : RtL f cX10_odds (fun r u => u.1 = g ∧ Post r u.2))  : ∀ (x3 : Int32) (y4 : Int64) (y6 : Int64) (I : Mm) , wp_X10_odds_78   Post x3 y4 y6 I → PW f 0 0 g I 78 [(3, .int x3), (4, .long y4), (6, .long y6)] [] := by
  intro x3 y4 y6 I  hw
  unfold wp_X10_odds_78 at hw
  refine r_lload hC dX10_odds_78 rfl (j := 1) rfl ?_
  refine r_lload hC dX10_odds_80 rfl (j := 2) rfl ?_
  refine r_iload_n hC dX10_odds_82 rfl rfl (j := 0) rfl ?_
  refine r_callL hC (a_S hC (c_X10_share  hw) ci_X10_share gX10_odds_X10_share ⟨Nat.le_of_ble_eq_true rfl, Nat.le_of_ble_eq_true rfl⟩ ⟨Nat.le_of_ble_eq_true rfl, Nat.le_of_ble_eq_true rfl⟩ rfl rfl (Nat.le_of_ble_eq_true rfl) dX10_odds_83) ⟨rfl, rfl⟩ rfl (fun r11 J12 hw => ?_)
  exact r_retL hC hR ⟨rfl, rfl⟩ dX10_odds_86 hw
set_option maxRecDepth 100000 in
set_option maxHeartbeats 4000000 in
theorem t_X10_odds_0 {f : Fx} {g : Gm}  {Post : Int64 → Mm → Prop} {x1 : Int32} {x2 : Int32} {x3 : Int32} {I : Mm} (hC : Cx f cX10_odds 9 RX10 wsX10_odds rm_X10_odds) (hG : shM g) (hR : RtL f cX10_odds (fun r u => u.1 = g ∧ Post r u.2)) (hw : wp_X10_odds  x1 x2 x3 I Post) : PW f 0 0 g I 0 [(0, .ref (gA g 100)), (1, .int x1), (2, .int x2), (3, .int x3)] [] := by
  unfold wp_X10_odds at hw
  refine r_aload_n hC dX10_odds_0 rfl rfl (j := 0) rfl ?_
  refine r_iload_n hC dX10_odds_1 rfl rfl (j := 1) rfl ?_
  refine r_callI hC (a_V hC (k := 10) (c_X10_noDesk hG hw) ci_X10_noDesk gX10_odds_X10_noDesk rfl ⟨Nat.le_of_ble_eq_true rfl, Nat.le_of_ble_eq_true rfl⟩ ⟨Nat.le_of_ble_eq_true rfl, Nat.le_of_ble_eq_true rfl⟩ rfl (by decide) hG.o.1 (List.mem_singleton.mp hG.o.2) rfl rfl (Nat.le_of_ble_eq_true rfl) dX10_odds_2) ⟨rfl, rfl⟩ rfl (fun r1 J2 hw => ?_)
  refine r_if_ne hC (tgt := 30) dX10_odds_5 rfl (by decide) hw (fun hw => ?_) (fun hw => ?_)
  · exact r_sub (lv' := []) [] rfl (t_X10_odds_30 hC hG hR _ hw)
  · refine r_iload_n hC dX10_odds_8 rfl rfl (j := 2) rfl ?_
    refine r_i2l hC dX10_odds_9 rfl ?_
    refine r_lconst hC (v := (0 : Int64)) dX10_odds_10 rfl (by decide) ?_
    refine r_ldc2 hC (v := (3 : Int64)) dX10_odds_11 rfl (List.mem_of_getElem? (i := 1) rfl) ?_
    refine r_callI hC (a_S hC (c_X10_in  hw) ci_X10_in gX10_odds_X10_in ⟨Nat.le_of_ble_eq_true rfl, Nat.le_of_ble_eq_true rfl⟩ ⟨Nat.le_of_ble_eq_true rfl, Nat.le_of_ble_eq_true rfl⟩ rfl rfl (Nat.le_of_ble_eq_true rfl) dX10_odds_14) ⟨rfl, rfl⟩ rfl (fun r3 J4 hw => ?_)
    refine r_if_eq hC (tgt := 30) dX10_odds_17 rfl (by decide) hw (fun hw => ?_) (fun hw => ?_)
    · exact r_sub (lv' := []) [] rfl (t_X10_odds_30 hC hG hR _ hw)
    · refine r_iload_n hC dX10_odds_20 rfl rfl (j := 3) rfl ?_
      refine r_i2l hC dX10_odds_21 rfl ?_
      refine r_lconst hC (v := (0 : Int64)) dX10_odds_22 rfl (by decide) ?_
      refine r_lconst hC (v := (1 : Int64)) dX10_odds_23 rfl (by decide) ?_
      refine r_callI hC (a_S hC (c_X10_in  hw) ci_X10_in gX10_odds_X10_in ⟨Nat.le_of_ble_eq_true rfl, Nat.le_of_ble_eq_true rfl⟩ ⟨Nat.le_of_ble_eq_true rfl, Nat.le_of_ble_eq_true rfl⟩ rfl rfl (Nat.le_of_ble_eq_true rfl) dX10_odds_24) ⟨rfl, rfl⟩ rfl (fun r5 J6 hw => ?_)
      refine r_if_ne hC (tgt := 34) dX10_odds_27 rfl (by decide) hw (fun hw => ?_) (fun hw => ?_)
      · refine r_aload_n hC dX10_odds_34 rfl rfl (j := 0) rfl ?_
        refine r_iload_n hC dX10_odds_35 rfl rfl (j := 1) rfl ?_
        refine r_callV hC (a_V hC (k := 10) (c_X10_playsNow hG hw) ci_X10_playsNow gX10_odds_X10_playsNow rfl ⟨Nat.le_of_ble_eq_true rfl, Nat.le_of_ble_eq_true rfl⟩ ⟨Nat.le_of_ble_eq_true rfl, Nat.le_of_ble_eq_true rfl⟩ rfl (by decide) hG.o.1 (List.mem_singleton.mp hG.o.2) rfl rfl (Nat.le_of_ble_eq_true rfl) dX10_odds_36) ⟨rfl, rfl⟩ rfl (fun J8 hw => ?_)
        refine r_lconst hC (v := (1 : Int64)) dX10_odds_39 rfl (by decide) ?_
        refine r_lstore hC (lv' := [(4, .long (1 : Int64)), (0, .ref (gA g 100)), (1, .int x1), (2, .int x2), (3, .int x3)]) dX10_odds_40 rfl (by decide) rfl ?_
        refine r_lconst hC (v := (1 : Int64)) dX10_odds_42 rfl (by decide) ?_
        refine r_lstore hC (lv' := [(6, .long (1 : Int64)), (4, .long (1 : Int64)), (0, .ref (gA g 100)), (1, .int x1), (2, .int x2), (3, .int x3)]) dX10_odds_43 rfl (by decide) rfl ?_
        refine r_iconst hC (v := (0 : Int32)) dX10_odds_45 rfl (by decide) ?_
        refine r_istore hC (lv' := [(8, .int (0 : Int32)), (6, .long (1 : Int64)), (4, .long (1 : Int64)), (0, .ref (gA g 100)), (1, .int x1), (2, .int x2), (3, .int x3)]) dX10_odds_46 rfl (by decide) rfl ?_
        obtain ⟨nn48, hw⟩ := hw
        exact r_sub (lv' := [(0, .ref (gA g 100)), (2, .int x2), (3, .int x3), (4, .long (1 : Int64)), (6, .long (1 : Int64)), (8, .int (0 : Int32))]) [3, 5, 6, 2, 1, 0] rfl ((t_X10_odds_48 hC hG hR (fun x3 y4 y6 I  hw => t_X10_odds_78 hC hG hR _ _ _ _ hw) nn48 _ _ _ _ _ _ hw))
      · exact r_sub (lv' := []) [] rfl (t_X10_odds_30 hC hG hR _ hw)
set_option maxRecDepth 100000 in
theorem c_X10_odds {l : Launch} {x : Gx} {g : Gm}  {x1 : Int32} {x2 : Int32} {x3 : Int32} {I : Mm} {Post : Int64 → Mm → Prop} (hG : shM g) (hw : wp_X10_odds  x1 x2 x3 I Post) : KL l x yX10_odds wsX10_odds rm_X10_odds g I [.ref (gA g 100), .int x1, .int x2, .int x3] (fun r u => u.1 = g ∧ Post r u.2) := KL_of (by decide) rfl rfl (Nat.le_of_ble_eq_true rfl) (fun f hC _ _ hR => t_X10_odds_0 hC hG hR hw)
