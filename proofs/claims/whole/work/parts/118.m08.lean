/-! X10_clears -/
abbrev rm_X10_clears : Room := { frames := 0, cells := 0, slots := 0, locals := 0 }
theorem ci_X10_clears : CI yX10_clears wsX10_clears cX10_clears 3 none 2 := ⟨⟨_, rfl⟩, by decide, by decide, by decide +kernel⟩
def wp_X10_clears  (x1 : Int32) (x2 : Int32) (I : Mm) (Post : Mm → Prop) : Prop := Post (up2 (up2 (up2 (up2 (up2 I 100 13 x1) 100 14 x2) 100 15 (0 : Int32)) 100 16 (0 : Int32)) 100 17 (0 : Int32))
set_option maxRecDepth 20000 in
theorem uw_X10_clears_10 : ∀ w ∈ u_ws RX10 TX10 30, w ∈ wsX10_clears := by decide +kernel
set_option maxRecDepth 20000 in
theorem ffp_X10_clears_135 : ∀ k ∈ ([10] : List Nat), FF wsX10_clears RX10 135 k 13 ∧ fR k 13 = false ∧ FP k 13 := List.forall_mem_cons.mpr ⟨⟨⟨RX10, TX10, 30, "PageDesksModel", rfl, rfl, by decide, by decide, uw_X10_clears_10, (List.mem_of_getElem? (i := 1) rfl), Or.inl rfl⟩, rfl, ⟨RX10, TX10, 30, tyX10, rfl, tyX10_ok, nmX10, rfl, rfl⟩⟩, fun _ h => absurd h List.not_mem_nil⟩
set_option maxRecDepth 20000 in
theorem ffp_X10_clears_138 : ∀ k ∈ ([10] : List Nat), FF wsX10_clears RX10 138 k 14 ∧ fR k 14 = false ∧ FP k 14 := List.forall_mem_cons.mpr ⟨⟨⟨RX10, TX10, 30, "PageDesksModel", rfl, rfl, by decide, by decide, uw_X10_clears_10, (List.mem_of_getElem? (i := 2) rfl), Or.inl rfl⟩, rfl, ⟨RX10, TX10, 30, tyX10, rfl, tyX10_ok, nmX10, rfl, rfl⟩⟩, fun _ h => absurd h List.not_mem_nil⟩
set_option maxRecDepth 20000 in
theorem ffp_X10_clears_141 : ∀ k ∈ ([10] : List Nat), FF wsX10_clears RX10 141 k 15 ∧ fR k 15 = false ∧ FP k 15 := List.forall_mem_cons.mpr ⟨⟨⟨RX10, TX10, 30, "PageDesksModel", rfl, rfl, by decide, by decide, uw_X10_clears_10, (List.mem_of_getElem? (i := 3) rfl), Or.inl rfl⟩, rfl, ⟨RX10, TX10, 30, tyX10, rfl, tyX10_ok, nmX10, rfl, rfl⟩⟩, fun _ h => absurd h List.not_mem_nil⟩
set_option maxRecDepth 20000 in
theorem ffp_X10_clears_144 : ∀ k ∈ ([10] : List Nat), FF wsX10_clears RX10 144 k 16 ∧ fR k 16 = false ∧ FP k 16 := List.forall_mem_cons.mpr ⟨⟨⟨RX10, TX10, 30, "PageDesksModel", rfl, rfl, by decide, by decide, uw_X10_clears_10, (List.mem_of_getElem? (i := 4) rfl), Or.inl rfl⟩, rfl, ⟨RX10, TX10, 30, tyX10, rfl, tyX10_ok, nmX10, rfl, rfl⟩⟩, fun _ h => absurd h List.not_mem_nil⟩
set_option maxRecDepth 20000 in
theorem ffp_X10_clears_147 : ∀ k ∈ ([10] : List Nat), FF wsX10_clears RX10 147 k 17 ∧ fR k 17 = false ∧ FP k 17 := List.forall_mem_cons.mpr ⟨⟨⟨RX10, TX10, 30, "PageDesksModel", rfl, rfl, by decide, by decide, uw_X10_clears_10, (List.mem_of_getElem? (i := 5) rfl), Or.inl rfl⟩, rfl, ⟨RX10, TX10, 30, tyX10, rfl, tyX10_ok, nmX10, rfl, rfl⟩⟩, fun _ h => absurd h List.not_mem_nil⟩
set_option maxRecDepth 100000 in
set_option maxHeartbeats 4000000 in
theorem t_X10_clears_0 {f : Fx} {g : Gm}  {Post : Mm → Prop} {x1 : Int32} {x2 : Int32} {I : Mm} (hC : Cx f cX10_clears 3 RX10 wsX10_clears rm_X10_clears) (hG : shM g) (hR : RtV f cX10_clears (fun u => u.1 = g ∧ Post u.2)) (hw : wp_X10_clears  x1 x2 I Post) : PW f 0 0 g I 0 [(0, .ref (gA g 100)), (1, .int x1), (2, .int x2)] [] := by
  unfold wp_X10_clears at hw
  refine r_aload_n hC dX10_clears_0 rfl rfl (j := 0) rfl ?_
  refine r_iload_n hC dX10_clears_1 rfl rfl (j := 1) rfl ?_
  refine r_putI hC dX10_clears_2 rfl hG.o.1 hG.o.2 ffp_X10_clears_135 ?_
  refine r_aload_n hC dX10_clears_5 rfl rfl (j := 0) rfl ?_
  refine r_iload_n hC dX10_clears_6 rfl rfl (j := 2) rfl ?_
  refine r_putI hC dX10_clears_7 rfl hG.o.1 hG.o.2 ffp_X10_clears_138 ?_
  refine r_aload_n hC dX10_clears_10 rfl rfl (j := 0) rfl ?_
  refine r_iconst hC (v := (0 : Int32)) dX10_clears_11 rfl (by decide) ?_
  refine r_putI hC dX10_clears_12 rfl hG.o.1 hG.o.2 ffp_X10_clears_141 ?_
  refine r_aload_n hC dX10_clears_15 rfl rfl (j := 0) rfl ?_
  refine r_iconst hC (v := (0 : Int32)) dX10_clears_16 rfl (by decide) ?_
  refine r_putI hC dX10_clears_17 rfl hG.o.1 hG.o.2 ffp_X10_clears_144 ?_
  refine r_aload_n hC dX10_clears_20 rfl rfl (j := 0) rfl ?_
  refine r_iconst hC (v := (0 : Int32)) dX10_clears_21 rfl (by decide) ?_
  refine r_putI hC dX10_clears_22 rfl hG.o.1 hG.o.2 ffp_X10_clears_147 ?_
  exact r_retV hC hR ⟨rfl, rfl⟩ dX10_clears_25 hw
set_option maxRecDepth 100000 in
theorem c_X10_clears {l : Launch} {x : Gx} {g : Gm}  {x1 : Int32} {x2 : Int32} {I : Mm} {Post : Mm → Prop} (hG : shM g) (hw : wp_X10_clears  x1 x2 I Post) : KV l x yX10_clears wsX10_clears rm_X10_clears g I [.ref (gA g 100), .int x1, .int x2] (fun u => u.1 = g ∧ Post u.2) := KV_of (by decide) rfl rfl (Nat.le_of_ble_eq_true rfl) (fun f hC _ _ hR => t_X10_clears_0 hC hG hR hw)

/-! X10_whereLies -/
abbrev rm_X10_whereLies : Room := { frames := 0, cells := 0, slots := 0, locals := 0 }
theorem ci_X10_whereLies : CI yX10_whereLies wsX10_whereLies cX10_whereLies 4 (some .int) 1 := ⟨⟨_, rfl⟩, by decide, by decide, by decide +kernel⟩
def wp_X10_whereLies_28  (Kb : Int32 → Int32 → Int32 → Mm → Prop) (Post : Int32 → Mm → Prop) (x1 : Int32) (x3 : Int32) (s0 : Int32) (I : Mm) : Prop := Kb x1 s0 (x3 + 1) I
def wp_X10_whereLies_5   (Post : Int32 → Mm → Prop) : Nat → Int32 → Int32 → Int32 → Mm → Prop
  | 0, _, _, _, _ => False
  | nn5 + 1, x1, x2, x3, I => if (I 100 15) ≤ x3 then (Post x2 I) else (vp_in x3 8 ∧ (if (I 118 x3.toNatClampNeg) = x1 then (wp_X10_whereLies_28 (fun x1 x2 x3 I => wp_X10_whereLies_5  Post nn5 x1 x2 x3 I) Post x1 x3 x3 I) else (wp_X10_whereLies_28 (fun x1 x2 x3 I => wp_X10_whereLies_5  Post nn5 x1 x2 x3 I) Post x1 x3 x2 I)))
def wp_X10_whereLies  (x1 : Int32) (I : Mm) (Post : Int32 → Mm → Prop) : Prop := ∃ nn5, wp_X10_whereLies_5  Post nn5 x1 (-9 : Int32) (0 : Int32) I
set_option maxRecDepth 20000 in
theorem uw_X10_whereLies_10 : ∀ w ∈ u_ws RX10 TX10 30, w ∈ wsX10_whereLies := by decide +kernel
set_option maxRecDepth 20000 in
theorem ffg_X10_whereLies_141 : ∀ k ∈ ([10] : List Nat), FF wsX10_whereLies RX10 141 k 15 ∧ fR k 15 = false := List.forall_mem_cons.mpr ⟨⟨⟨RX10, TX10, 30, "PageDesksModel", rfl, rfl, by decide, by decide, uw_X10_whereLies_10, (List.mem_of_getElem? (i := 1) rfl), Or.inl rfl⟩, rfl⟩, fun _ h => absurd h List.not_mem_nil⟩
set_option maxRecDepth 20000 in
theorem ffg_X10_whereLies_28 : ∀ k ∈ ([10] : List Nat), FF wsX10_whereLies RX10 28 k 18 ∧ fR k 18 = true := List.forall_mem_cons.mpr ⟨⟨⟨RX10, TX10, 30, "PageDesksModel", rfl, rfl, by decide, by decide, uw_X10_whereLies_10, (List.mem_of_getElem? (i := 2) rfl), Or.inl rfl⟩, rfl⟩, fun _ h => absurd h List.not_mem_nil⟩
set_option maxRecDepth 100000 in
set_option maxHeartbeats 4000000 in
theorem t_X10_whereLies_28 {f : Fx} {g : Gm}  {Post : Int32 → Mm → Prop} {Kb : Int32 → Int32 → Int32 → Mm → Prop} (hC : Cx f cX10_whereLies 4 RX10 wsX10_whereLies rm_X10_whereLies) (hG : shM g) (hR : RtI f cX10_whereLies (fun r u => u.1 = g ∧ Post r u.2)) (hKb : ∀ (x1 : Int32) (x2 : Int32) (x3 : Int32) (I : Mm) , Kb x1 x2 x3 I → PW f 0 0 g I 5 [(0, .ref (gA g 100)), (1, .int x1), (2, .int x2), (3, .int x3)] []) : ∀ (x1 : Int32) (x3 : Int32) (s0 : Int32) (I : Mm) , wp_X10_whereLies_28  Kb Post x1 x3 s0 I → PW f 0 0 g I 28 [(0, .ref (gA g 100)), (1, .int x1), (3, .int x3)] [.int s0] := by
  intro x1 x3 s0 I  hw
  unfold wp_X10_whereLies_28 at hw
  refine r_istore_n hC (lv' := [(2, .int s0), (0, .ref (gA g 100)), (1, .int x1), (3, .int x3)]) dX10_whereLies_28 rfl rfl (by decide) rfl ?_
  refine r_iinc hC (k := 1) (lv' := [(3, .int (x3 + 1)), (2, .int s0), (0, .ref (gA g 100)), (1, .int x1)]) dX10_whereLies_29 rfl (j := 3) rfl (by decide) (by decide) rfl ?_
  refine r_goto hC (tgt := 5) dX10_whereLies_32 (by decide) ?_
  exact r_sub (lv' := [(0, .ref (gA g 100)), (1, .int x1), (2, .int s0), (3, .int (x3 + 1))]) [2, 3, 1, 0] rfl (hKb _ _ _ _ hw)
set_option maxRecDepth 100000 in
set_option maxHeartbeats 4000000 in
theorem t_X10_whereLies_5 {f : Fx} {g : Gm}  {Post : Int32 → Mm → Prop}  (hC : Cx f cX10_whereLies 4 RX10 wsX10_whereLies rm_X10_whereLies) (hG : shM g) (hR : RtI f cX10_whereLies (fun r u => u.1 = g ∧ Post r u.2))  : ∀ (nn5 : Nat) (x1 : Int32) (x2 : Int32) (x3 : Int32) (I : Mm) , wp_X10_whereLies_5   Post nn5 x1 x2 x3 I → PW f 0 0 g I 5 [(0, .ref (gA g 100)), (1, .int x1), (2, .int x2), (3, .int x3)] [] := by
  intro nn5
  induction nn5 with
  | zero =>
    intro x1 x2 x3 I  hw
    exact absurd hw id
  | succ nn5 ih =>
    intro x1 x2 x3 I  hw
    unfold wp_X10_whereLies_5 at hw
    refine r_iload_n hC dX10_whereLies_5 rfl rfl (j := 3) rfl ?_
    refine r_aload_n hC dX10_whereLies_6 rfl rfl (j := 0) rfl ?_
    refine r_getI hC dX10_whereLies_7 rfl hG.o.1 hG.o.2 ffg_X10_whereLies_141 ?_
    refine r_icmp_ge hC (tgt := 35) dX10_whereLies_10 rfl (by decide) hw (fun hw => ?_) (fun hw => ?_)
    · refine r_iload_n hC dX10_whereLies_35 rfl rfl (j := 2) rfl ?_
      exact r_retI hC hR ⟨rfl, rfl⟩ dX10_whereLies_36 hw
    · refine r_aload_n hC dX10_whereLies_13 rfl rfl (j := 0) rfl ?_
      refine r_getR hC dX10_whereLies_14 rfl hG.o.1 hG.o.2 ffg_X10_whereLies_28 hG.a18.2 ?_
      refine r_iload_n hC dX10_whereLies_17 rfl rfl (j := 3) rfl ?_
      obtain ⟨hi, hw⟩ := hw
      refine r_iald hC dX10_whereLies_18 rfl (hG.a18.1).1 (hG.a18.1).2.1 (by rw [(hG.a18.1).2.2]; exact hi) ?_
      refine r_iload_n hC dX10_whereLies_19 rfl rfl (j := 1) rfl ?_
      refine r_icmp_ne hC (tgt := 27) dX10_whereLies_20 rfl (by decide) hw (fun hw => ?_) (fun hw => ?_)
      · refine r_iload_n hC dX10_whereLies_27 rfl rfl (j := 2) rfl ?_
        exact r_sub (lv' := [(0, .ref (gA g 100)), (1, .int x1), (3, .int x3)]) [0, 1, 3] rfl (t_X10_whereLies_28 hC hG hR (fun x1 x2 x3 I  hw => ih x1 x2 x3 I  hw) _ _ _ _ hw)
      · refine r_iload_n hC dX10_whereLies_23 rfl rfl (j := 3) rfl ?_
        refine r_goto hC (tgt := 28) dX10_whereLies_24 (by decide) ?_
        exact r_sub (lv' := [(0, .ref (gA g 100)), (1, .int x1), (3, .int x3)]) [0, 1, 3] rfl (t_X10_whereLies_28 hC hG hR (fun x1 x2 x3 I  hw => ih x1 x2 x3 I  hw) _ _ _ _ hw)
set_option maxRecDepth 100000 in
set_option maxHeartbeats 4000000 in
theorem t_X10_whereLies_0 {f : Fx} {g : Gm}  {Post : Int32 → Mm → Prop} {x1 : Int32} {I : Mm} (hC : Cx f cX10_whereLies 4 RX10 wsX10_whereLies rm_X10_whereLies) (hG : shM g) (hR : RtI f cX10_whereLies (fun r u => u.1 = g ∧ Post r u.2)) (hw : wp_X10_whereLies  x1 I Post) : PW f 0 0 g I 0 [(0, .ref (gA g 100)), (1, .int x1)] [] := by
  unfold wp_X10_whereLies at hw
  refine r_bipush hC (v := (-9 : Int32)) dX10_whereLies_0 rfl (by decide) ?_
  refine r_istore_n hC (lv' := [(2, .int (-9 : Int32)), (0, .ref (gA g 100)), (1, .int x1)]) dX10_whereLies_2 rfl rfl (by decide) rfl ?_
  refine r_iconst hC (v := (0 : Int32)) dX10_whereLies_3 rfl (by decide) ?_
  refine r_istore_n hC (lv' := [(3, .int (0 : Int32)), (2, .int (-9 : Int32)), (0, .ref (gA g 100)), (1, .int x1)]) dX10_whereLies_4 rfl rfl (by decide) rfl ?_
  obtain ⟨nn5, hw⟩ := hw
  exact r_sub (lv' := [(0, .ref (gA g 100)), (1, .int x1), (2, .int (-9 : Int32)), (3, .int (0 : Int32))]) [2, 3, 1, 0] rfl ((t_X10_whereLies_5 hC hG hR nn5 _ _ _ _ hw))
set_option maxRecDepth 100000 in
theorem c_X10_whereLies {l : Launch} {x : Gx} {g : Gm}  {x1 : Int32} {I : Mm} {Post : Int32 → Mm → Prop} (hG : shM g) (hw : wp_X10_whereLies  x1 I Post) : KI l x yX10_whereLies wsX10_whereLies rm_X10_whereLies g I [.ref (gA g 100), .int x1] (fun r u => u.1 = g ∧ Post r u.2) := KI_of (by decide) rfl rfl (Nat.le_of_ble_eq_true rfl) (fun f hC _ _ hR => t_X10_whereLies_0 hC hG hR hw)

/-! X10_takesOut -/
abbrev rm_X10_takesOut : Room := { frames := 0, cells := 0, slots := 0, locals := 0 }
theorem ci_X10_takesOut : CI yX10_takesOut wsX10_takesOut cX10_takesOut 3 none 1 := ⟨⟨_, rfl⟩, by decide, by decide, by decide +kernel⟩
def wp_X10_takesOut_12   (Post : Mm → Prop) : Nat → Int32 → Mm → Prop
  | 0, _, _ => False
  | nn12 + 1, x2, I => if (I 100 15) ≤ x2 then (Post I) else (vp_in (x2 + (1 : Int32)) 8 ∧ (vp_in x2 8 ∧ (wp_X10_takesOut_12  Post nn12 (x2 + 1) (up2 I 118 x2.toNatClampNeg (I 118 (x2 + (1 : Int32)).toNatClampNeg)))))
def wp_X10_takesOut  (x1 : Int32) (I : Mm) (Post : Mm → Prop) : Prop := ∃ nn12, wp_X10_takesOut_12  Post nn12 x1 (up2 I 100 15 ((I 100 15) - (1 : Int32)))
set_option maxRecDepth 20000 in
theorem uw_X10_takesOut_10 : ∀ w ∈ u_ws RX10 TX10 30, w ∈ wsX10_takesOut := by decide +kernel
set_option maxRecDepth 20000 in
theorem ffg_X10_takesOut_141 : ∀ k ∈ ([10] : List Nat), FF wsX10_takesOut RX10 141 k 15 ∧ fR k 15 = false := List.forall_mem_cons.mpr ⟨⟨⟨RX10, TX10, 30, "PageDesksModel", rfl, rfl, by decide, by decide, uw_X10_takesOut_10, (List.mem_of_getElem? (i := 1) rfl), Or.inl rfl⟩, rfl⟩, fun _ h => absurd h List.not_mem_nil⟩
set_option maxRecDepth 20000 in
theorem ffp_X10_takesOut_141 : ∀ k ∈ ([10] : List Nat), FF wsX10_takesOut RX10 141 k 15 ∧ fR k 15 = false ∧ FP k 15 := List.forall_mem_cons.mpr ⟨⟨⟨RX10, TX10, 30, "PageDesksModel", rfl, rfl, by decide, by decide, uw_X10_takesOut_10, (List.mem_of_getElem? (i := 1) rfl), Or.inl rfl⟩, rfl, ⟨RX10, TX10, 30, tyX10, rfl, tyX10_ok, nmX10, rfl, rfl⟩⟩, fun _ h => absurd h List.not_mem_nil⟩
set_option maxRecDepth 20000 in
theorem ffg_X10_takesOut_28 : ∀ k ∈ ([10] : List Nat), FF wsX10_takesOut RX10 28 k 18 ∧ fR k 18 = true := List.forall_mem_cons.mpr ⟨⟨⟨RX10, TX10, 30, "PageDesksModel", rfl, rfl, by decide, by decide, uw_X10_takesOut_10, (List.mem_of_getElem? (i := 2) rfl), Or.inl rfl⟩, rfl⟩, fun _ h => absurd h List.not_mem_nil⟩
set_option maxRecDepth 100000 in
set_option maxHeartbeats 4000000 in
theorem t_X10_takesOut_12 {f : Fx} {g : Gm}  {Post : Mm → Prop}  (hC : Cx f cX10_takesOut 3 RX10 wsX10_takesOut rm_X10_takesOut) (hG : shM g) (hR : RtV f cX10_takesOut (fun u => u.1 = g ∧ Post u.2))  : ∀ (nn12 : Nat) (x2 : Int32) (I : Mm) , wp_X10_takesOut_12   Post nn12 x2 I → PW f 0 0 g I 12 [(0, .ref (gA g 100)), (2, .int x2)] [] := by
  intro nn12
  induction nn12 with
  | zero =>
    intro x2 I  hw
    exact absurd hw id
  | succ nn12 ih =>
    intro x2 I  hw
    unfold wp_X10_takesOut_12 at hw
    refine r_iload_n hC dX10_takesOut_12 rfl rfl (j := 1) rfl ?_
    refine r_aload_n hC dX10_takesOut_13 rfl rfl (j := 0) rfl ?_
    refine r_getI hC dX10_takesOut_14 rfl hG.o.1 hG.o.2 ffg_X10_takesOut_141 ?_
    refine r_icmp_ge hC (tgt := 40) dX10_takesOut_17 rfl (by decide) hw (fun hw => ?_) (fun hw => ?_)
    · exact r_retV hC hR ⟨rfl, rfl⟩ dX10_takesOut_40 hw
    · refine r_aload_n hC dX10_takesOut_20 rfl rfl (j := 0) rfl ?_
      refine r_getR hC dX10_takesOut_21 rfl hG.o.1 hG.o.2 ffg_X10_takesOut_28 hG.a18.2 ?_
      refine r_iload_n hC dX10_takesOut_24 rfl rfl (j := 1) rfl ?_
      refine r_aload_n hC dX10_takesOut_25 rfl rfl (j := 0) rfl ?_
      refine r_getR hC dX10_takesOut_26 rfl hG.o.1 hG.o.2 ffg_X10_takesOut_28 hG.a18.2 ?_
      refine r_iload_n hC dX10_takesOut_29 rfl rfl (j := 1) rfl ?_
      refine r_iconst hC (v := (1 : Int32)) dX10_takesOut_30 rfl (by decide) ?_
      refine r_iadd hC dX10_takesOut_31 rfl ?_
      obtain ⟨hi, hw⟩ := hw
      refine r_iald hC dX10_takesOut_32 rfl (hG.a18.1).1 (hG.a18.1).2.1 (by rw [(hG.a18.1).2.2]; exact hi) ?_
      obtain ⟨hi, hw⟩ := hw
      refine r_iast hC dX10_takesOut_33 rfl (hG.a18.1).1 (hG.a18.1).2.1 (by rw [(hG.a18.1).2.2]; exact hi) ?_
      refine r_iinc hC (k := 1) (lv' := [(2, .int (x2 + 1)), (0, .ref (gA g 100))]) dX10_takesOut_34 rfl (j := 1) rfl (by decide) (by decide) rfl ?_
      refine r_goto hC (tgt := 12) dX10_takesOut_37 (by decide) ?_
      exact r_sub (lv' := [(0, .ref (gA g 100)), (2, .int (x2 + 1))]) [1, 0] rfl (ih _ _ hw)
set_option maxRecDepth 100000 in
set_option maxHeartbeats 4000000 in
theorem t_X10_takesOut_0 {f : Fx} {g : Gm}  {Post : Mm → Prop} {x1 : Int32} {I : Mm} (hC : Cx f cX10_takesOut 3 RX10 wsX10_takesOut rm_X10_takesOut) (hG : shM g) (hR : RtV f cX10_takesOut (fun u => u.1 = g ∧ Post u.2)) (hw : wp_X10_takesOut  x1 I Post) : PW f 0 0 g I 0 [(0, .ref (gA g 100)), (1, .int x1)] [] := by
  unfold wp_X10_takesOut at hw
  refine r_aload_n hC dX10_takesOut_0 rfl rfl (j := 0) rfl ?_
  refine r_dup hC dX10_takesOut_1 rfl rfl ?_
  refine r_getI hC dX10_takesOut_2 rfl hG.o.1 hG.o.2 ffg_X10_takesOut_141 ?_
  refine r_iconst hC (v := (1 : Int32)) dX10_takesOut_5 rfl (by decide) ?_
  refine r_isub hC dX10_takesOut_6 rfl ?_
  refine r_putI hC dX10_takesOut_7 rfl hG.o.1 hG.o.2 ffp_X10_takesOut_141 ?_
  refine r_iload_n hC dX10_takesOut_10 rfl rfl (j := 1) rfl ?_
  refine r_istore_n hC (lv' := [(2, .int x1), (0, .ref (gA g 100)), (1, .int x1)]) dX10_takesOut_11 rfl rfl (by decide) rfl ?_
  obtain ⟨nn12, hw⟩ := hw
  exact r_sub (lv' := [(0, .ref (gA g 100)), (2, .int x1)]) [1, 0] rfl ((t_X10_takesOut_12 hC hG hR nn12 _ _ hw))
set_option maxRecDepth 100000 in
theorem c_X10_takesOut {l : Launch} {x : Gx} {g : Gm}  {x1 : Int32} {I : Mm} {Post : Mm → Prop} (hG : shM g) (hw : wp_X10_takesOut  x1 I Post) : KV l x yX10_takesOut wsX10_takesOut rm_X10_takesOut g I [.ref (gA g 100), .int x1] (fun u => u.1 = g ∧ Post u.2) := KV_of (by decide) rfl rfl (Nat.le_of_ble_eq_true rfl) (fun f hC _ _ hR => t_X10_takesOut_0 hC hG hR hw)

/-! X10_putsBehind -/
abbrev rm_X10_putsBehind : Room := { frames := 0, cells := 0, slots := 0, locals := 0 }
theorem ci_X10_putsBehind : CI yX10_putsBehind wsX10_putsBehind cX10_putsBehind 2 none 1 := ⟨⟨_, rfl⟩, by decide, by decide, by decide +kernel⟩
def wp_X10_putsBehind  (x1 : Int32) (I : Mm) (Post : Mm → Prop) : Prop := vp_in (I 100 15) 8 ∧ (Post (up2 (up2 I 118 (I 100 15).toNatClampNeg x1) 100 15 (((up2 I 118 (I 100 15).toNatClampNeg x1) 100 15) + (1 : Int32))))
set_option maxRecDepth 20000 in
theorem uw_X10_putsBehind_10 : ∀ w ∈ u_ws RX10 TX10 30, w ∈ wsX10_putsBehind := by decide +kernel
set_option maxRecDepth 20000 in
theorem ffg_X10_putsBehind_28 : ∀ k ∈ ([10] : List Nat), FF wsX10_putsBehind RX10 28 k 18 ∧ fR k 18 = true := List.forall_mem_cons.mpr ⟨⟨⟨RX10, TX10, 30, "PageDesksModel", rfl, rfl, by decide, by decide, uw_X10_putsBehind_10, (List.mem_of_getElem? (i := 1) rfl), Or.inl rfl⟩, rfl⟩, fun _ h => absurd h List.not_mem_nil⟩
set_option maxRecDepth 20000 in
theorem ffg_X10_putsBehind_141 : ∀ k ∈ ([10] : List Nat), FF wsX10_putsBehind RX10 141 k 15 ∧ fR k 15 = false := List.forall_mem_cons.mpr ⟨⟨⟨RX10, TX10, 30, "PageDesksModel", rfl, rfl, by decide, by decide, uw_X10_putsBehind_10, (List.mem_of_getElem? (i := 2) rfl), Or.inl rfl⟩, rfl⟩, fun _ h => absurd h List.not_mem_nil⟩
set_option maxRecDepth 20000 in
theorem ffp_X10_putsBehind_141 : ∀ k ∈ ([10] : List Nat), FF wsX10_putsBehind RX10 141 k 15 ∧ fR k 15 = false ∧ FP k 15 := List.forall_mem_cons.mpr ⟨⟨⟨RX10, TX10, 30, "PageDesksModel", rfl, rfl, by decide, by decide, uw_X10_putsBehind_10, (List.mem_of_getElem? (i := 2) rfl), Or.inl rfl⟩, rfl, ⟨RX10, TX10, 30, tyX10, rfl, tyX10_ok, nmX10, rfl, rfl⟩⟩, fun _ h => absurd h List.not_mem_nil⟩
set_option maxRecDepth 100000 in
set_option maxHeartbeats 4000000 in
theorem t_X10_putsBehind_0 {f : Fx} {g : Gm}  {Post : Mm → Prop} {x1 : Int32} {I : Mm} (hC : Cx f cX10_putsBehind 2 RX10 wsX10_putsBehind rm_X10_putsBehind) (hG : shM g) (hR : RtV f cX10_putsBehind (fun u => u.1 = g ∧ Post u.2)) (hw : wp_X10_putsBehind  x1 I Post) : PW f 0 0 g I 0 [(0, .ref (gA g 100)), (1, .int x1)] [] := by
  unfold wp_X10_putsBehind at hw
  refine r_aload_n hC dX10_putsBehind_0 rfl rfl (j := 0) rfl ?_
  refine r_getR hC dX10_putsBehind_1 rfl hG.o.1 hG.o.2 ffg_X10_putsBehind_28 hG.a18.2 ?_
  refine r_aload_n hC dX10_putsBehind_4 rfl rfl (j := 0) rfl ?_
  refine r_getI hC dX10_putsBehind_5 rfl hG.o.1 hG.o.2 ffg_X10_putsBehind_141 ?_
  refine r_iload_n hC dX10_putsBehind_8 rfl rfl (j := 1) rfl ?_
  obtain ⟨hi, hw⟩ := hw
  refine r_iast hC dX10_putsBehind_9 rfl (hG.a18.1).1 (hG.a18.1).2.1 (by rw [(hG.a18.1).2.2]; exact hi) ?_
  refine r_aload_n hC dX10_putsBehind_10 rfl rfl (j := 0) rfl ?_
  refine r_dup hC dX10_putsBehind_11 rfl rfl ?_
  refine r_getI hC dX10_putsBehind_12 rfl hG.o.1 hG.o.2 ffg_X10_putsBehind_141 ?_
  refine r_iconst hC (v := (1 : Int32)) dX10_putsBehind_15 rfl (by decide) ?_
  refine r_iadd hC dX10_putsBehind_16 rfl ?_
  refine r_putI hC dX10_putsBehind_17 rfl hG.o.1 hG.o.2 ffp_X10_putsBehind_141 ?_
  exact r_retV hC hR ⟨rfl, rfl⟩ dX10_putsBehind_20 hw
set_option maxRecDepth 100000 in
theorem c_X10_putsBehind {l : Launch} {x : Gx} {g : Gm}  {x1 : Int32} {I : Mm} {Post : Mm → Prop} (hG : shM g) (hw : wp_X10_putsBehind  x1 I Post) : KV l x yX10_putsBehind wsX10_putsBehind rm_X10_putsBehind g I [.ref (gA g 100), .int x1] (fun u => u.1 = g ∧ Post u.2) := KV_of (by decide) rfl rfl (Nat.le_of_ble_eq_true rfl) (fun f hC _ _ hR => t_X10_putsBehind_0 hC hG hR hw)

/-! X10_makesRoom -/
abbrev rm_X10_makesRoom : Room := { frames := 1, cells := 0, slots := 0, locals := 22 }
theorem ci_X10_makesRoom : CI yX10_makesRoom wsX10_makesRoom cX10_makesRoom 3 none 0 := ⟨⟨_, rfl⟩, by decide, by decide, by decide +kernel⟩
def wp_X10_makesRoom_2  (K69 : Mm → Prop) (Post : Mm → Prop) : Nat → Int32 → Mm → Prop
  | 0, _, _ => False
  | nn2 + 1, x1, I => if (8 : Int32) ≤ x1 then (K69  I) else (if (I 100 13) = (1 : Int32) then (vp_in (0 : Int32) 8 ∧ (wp_X10_isIn (I 100 16) (I 118 (0 : Int32).toNatClampNeg) I (fun r3 J4 => if r3 = 0 then (K69  J4) else (vp_in (0 : Int32) 8 ∧ (wp_X10_takesOut (0 : Int32) (up2 J4 100 16 ((J4 100 16) &&& (((1 : Int32) <<< ((J4 118 (0 : Int32).toNatClampNeg) &&& 31)) ^^^ (-1 : Int32)))) (fun J6 => wp_X10_putsBehind (J4 118 (0 : Int32).toNatClampNeg) J6 (fun J8 => wp_X10_makesRoom_2 K69 Post nn2 (x1 + 1) J8))))))) else (K69  I))
def wp_X10_makesRoom_69   (Post : Mm → Prop)  (I : Mm) : Prop := vp_in (0 : Int32) 8 ∧ (wp_X10_takesOut (0 : Int32) (up2 I 100 16 ((I 100 16) &&& (((1 : Int32) <<< ((I 118 (0 : Int32).toNatClampNeg) &&& 31)) ^^^ (-1 : Int32)))) (fun J2 => Post J2))
def wp_X10_makesRoom   (I : Mm) (Post : Mm → Prop) : Prop := ∃ nn2, wp_X10_makesRoom_2 (fun I => wp_X10_makesRoom_69  Post  I) Post nn2 (0 : Int32) I
set_option maxRecDepth 20000 in
theorem uw_X10_makesRoom_10 : ∀ w ∈ u_ws RX10 TX10 30, w ∈ wsX10_makesRoom := by decide +kernel
set_option maxRecDepth 20000 in
theorem ffg_X10_makesRoom_144 : ∀ k ∈ ([10] : List Nat), FF wsX10_makesRoom RX10 144 k 16 ∧ fR k 16 = false := List.forall_mem_cons.mpr ⟨⟨⟨RX10, TX10, 30, "PageDesksModel", rfl, rfl, by decide, by decide, uw_X10_makesRoom_10, (List.mem_of_getElem? (i := 2) rfl), Or.inl rfl⟩, rfl⟩, fun _ h => absurd h List.not_mem_nil⟩
set_option maxRecDepth 20000 in
theorem ffg_X10_makesRoom_28 : ∀ k ∈ ([10] : List Nat), FF wsX10_makesRoom RX10 28 k 18 ∧ fR k 18 = true := List.forall_mem_cons.mpr ⟨⟨⟨RX10, TX10, 30, "PageDesksModel", rfl, rfl, by decide, by decide, uw_X10_makesRoom_10, (List.mem_of_getElem? (i := 3) rfl), Or.inl rfl⟩, rfl⟩, fun _ h => absurd h List.not_mem_nil⟩
set_option maxRecDepth 20000 in
theorem ffp_X10_makesRoom_144 : ∀ k ∈ ([10] : List Nat), FF wsX10_makesRoom RX10 144 k 16 ∧ fR k 16 = false ∧ FP k 16 := List.forall_mem_cons.mpr ⟨⟨⟨RX10, TX10, 30, "PageDesksModel", rfl, rfl, by decide, by decide, uw_X10_makesRoom_10, (List.mem_of_getElem? (i := 2) rfl), Or.inl rfl⟩, rfl, ⟨RX10, TX10, 30, tyX10, rfl, tyX10_ok, nmX10, rfl, rfl⟩⟩, fun _ h => absurd h List.not_mem_nil⟩
set_option maxRecDepth 20000 in
theorem ffg_X10_makesRoom_135 : ∀ k ∈ ([10] : List Nat), FF wsX10_makesRoom RX10 135 k 13 ∧ fR k 13 = false := List.forall_mem_cons.mpr ⟨⟨⟨RX10, TX10, 30, "PageDesksModel", rfl, rfl, by decide, by decide, uw_X10_makesRoom_10, (List.mem_of_getElem? (i := 1) rfl), Or.inl rfl⟩, rfl⟩, fun _ h => absurd h List.not_mem_nil⟩
set_option maxRecDepth 100000 in
set_option maxHeartbeats 4000000 in
theorem t_X10_makesRoom_2 {f : Fx} {g : Gm}  {Post : Mm → Prop} {K69 : Mm → Prop} (hC : Cx f cX10_makesRoom 3 RX10 wsX10_makesRoom rm_X10_makesRoom) (hG : shM g) (hR : RtV f cX10_makesRoom (fun u => u.1 = g ∧ Post u.2)) (hK69 : ∀  (I : Mm) , K69  I → PW f 0 0 g I 69 [(0, .ref (gA g 100))] []) : ∀ (nn2 : Nat) (x1 : Int32) (I : Mm) , wp_X10_makesRoom_2  K69 Post nn2 x1 I → PW f 0 0 g I 2 [(0, .ref (gA g 100)), (1, .int x1)] [] := by
  intro nn2
  induction nn2 with
  | zero =>
    intro x1 I  hw
    exact absurd hw id
  | succ nn2 ih =>
    intro x1 I  hw
    unfold wp_X10_makesRoom_2 at hw
    refine r_iload_n hC dX10_makesRoom_2 rfl rfl (j := 1) rfl ?_
    refine r_bipush hC (v := (8 : Int32)) dX10_makesRoom_3 rfl (by decide) ?_
    refine r_icmp_ge hC (tgt := 69) dX10_makesRoom_5 rfl (by decide) hw (fun hw => ?_) (fun hw => ?_)
    · exact r_sub (lv' := [(0, .ref (gA g 100))]) [0] rfl (hK69 _ hw)
    · refine r_aload_n hC dX10_makesRoom_8 rfl rfl (j := 0) rfl ?_
      refine r_getI hC dX10_makesRoom_9 rfl hG.o.1 hG.o.2 ffg_X10_makesRoom_135 ?_
      refine r_iconst hC (v := (1 : Int32)) dX10_makesRoom_12 rfl (by decide) ?_
      refine r_icmp_ne hC (tgt := 69) dX10_makesRoom_13 rfl (by decide) hw (fun hw => ?_) (fun hw => ?_)
      · exact r_sub (lv' := [(0, .ref (gA g 100))]) [0] rfl (hK69 _ hw)
      · refine r_aload_n hC dX10_makesRoom_16 rfl rfl (j := 0) rfl ?_
        refine r_getI hC dX10_makesRoom_17 rfl hG.o.1 hG.o.2 ffg_X10_makesRoom_144 ?_
        refine r_aload_n hC dX10_makesRoom_20 rfl rfl (j := 0) rfl ?_
        refine r_getR hC dX10_makesRoom_21 rfl hG.o.1 hG.o.2 ffg_X10_makesRoom_28 hG.a18.2 ?_
        refine r_iconst hC (v := (0 : Int32)) dX10_makesRoom_24 rfl (by decide) ?_
        obtain ⟨hi, hw⟩ := hw
        refine r_iald hC dX10_makesRoom_25 rfl (hG.a18.1).1 (hG.a18.1).2.1 (by rw [(hG.a18.1).2.2]; exact hi) ?_
        refine r_callI hC (a_S hC (c_X10_isIn  hw) ci_X10_isIn gX10_makesRoom_X10_isIn ⟨Nat.le_of_ble_eq_true rfl, Nat.le_of_ble_eq_true rfl⟩ ⟨Nat.le_of_ble_eq_true rfl, Nat.le_of_ble_eq_true rfl⟩ rfl rfl (Nat.le_of_ble_eq_true rfl) dX10_makesRoom_26) ⟨rfl, rfl⟩ rfl (fun r3 J4 hw => ?_)
        refine r_if_eq hC (tgt := 69) dX10_makesRoom_29 rfl (by decide) hw (fun hw => ?_) (fun hw => ?_)
        · exact r_sub (lv' := [(0, .ref (gA g 100))]) [0] rfl (hK69 _ hw)
        · refine r_aload_n hC dX10_makesRoom_32 rfl rfl (j := 0) rfl ?_
          refine r_getR hC dX10_makesRoom_33 rfl hG.o.1 hG.o.2 ffg_X10_makesRoom_28 hG.a18.2 ?_
          refine r_iconst hC (v := (0 : Int32)) dX10_makesRoom_36 rfl (by decide) ?_
          obtain ⟨hi, hw⟩ := hw
          refine r_iald hC dX10_makesRoom_37 rfl (hG.a18.1).1 (hG.a18.1).2.1 (by rw [(hG.a18.1).2.2]; exact hi) ?_
          refine r_istore_n hC (lv' := [(2, .int (J4 118 (0 : Int32).toNatClampNeg)), (0, .ref (gA g 100)), (1, .int x1)]) dX10_makesRoom_38 rfl rfl (by decide) rfl ?_
          refine r_aload_n hC dX10_makesRoom_39 rfl rfl (j := 1) rfl ?_
          refine r_dup hC dX10_makesRoom_40 rfl rfl ?_
          refine r_getI hC dX10_makesRoom_41 rfl hG.o.1 hG.o.2 ffg_X10_makesRoom_144 ?_
          refine r_iconst hC (v := (1 : Int32)) dX10_makesRoom_44 rfl (by decide) ?_
          refine r_iload_n hC dX10_makesRoom_45 rfl rfl (j := 0) rfl ?_
          refine r_ishl hC dX10_makesRoom_46 rfl ?_
          refine r_iconst hC (v := (-1 : Int32)) dX10_makesRoom_47 rfl (by decide) ?_
          refine r_ixor hC dX10_makesRoom_48 rfl ?_
          refine r_iand hC dX10_makesRoom_49 rfl ?_
          refine r_putI hC dX10_makesRoom_50 rfl hG.o.1 hG.o.2 ffp_X10_makesRoom_144 ?_
          refine r_aload_n hC dX10_makesRoom_53 rfl rfl (j := 1) rfl ?_
          refine r_iconst hC (v := (0 : Int32)) dX10_makesRoom_54 rfl (by decide) ?_
          refine r_callV hC (a_V hC (k := 10) (c_X10_takesOut hG hw) ci_X10_takesOut gX10_makesRoom_X10_takesOut rfl ⟨Nat.le_of_ble_eq_true rfl, Nat.le_of_ble_eq_true rfl⟩ ⟨Nat.le_of_ble_eq_true rfl, Nat.le_of_ble_eq_true rfl⟩ rfl (by decide) hG.o.1 (List.mem_singleton.mp hG.o.2) rfl rfl (Nat.le_of_ble_eq_true rfl) dX10_makesRoom_55) ⟨rfl, rfl⟩ rfl (fun J6 hw => ?_)
          refine r_aload_n hC dX10_makesRoom_58 rfl rfl (j := 1) rfl ?_
          refine r_iload_n hC dX10_makesRoom_59 rfl rfl (j := 0) rfl ?_
          refine r_callV hC (a_V hC (k := 10) (c_X10_putsBehind hG hw) ci_X10_putsBehind gX10_makesRoom_X10_putsBehind rfl ⟨Nat.le_of_ble_eq_true rfl, Nat.le_of_ble_eq_true rfl⟩ ⟨Nat.le_of_ble_eq_true rfl, Nat.le_of_ble_eq_true rfl⟩ rfl (by decide) hG.o.1 (List.mem_singleton.mp hG.o.2) rfl rfl (Nat.le_of_ble_eq_true rfl) dX10_makesRoom_60) ⟨rfl, rfl⟩ rfl (fun J8 hw => ?_)
          refine r_iinc hC (k := 1) (lv' := [(1, .int (x1 + 1)), (2, .int (J4 118 (0 : Int32).toNatClampNeg)), (0, .ref (gA g 100))]) dX10_makesRoom_63 rfl (j := 2) rfl (by decide) (by decide) rfl ?_
          refine r_goto hC (tgt := 2) dX10_makesRoom_66 (by decide) ?_
          exact r_sub (lv' := [(0, .ref (gA g 100)), (1, .int (x1 + 1))]) [2, 0] rfl (ih _ _ hw)
set_option maxRecDepth 100000 in
set_option maxHeartbeats 4000000 in
theorem t_X10_makesRoom_69 {f : Fx} {g : Gm}  {Post : Mm → Prop}  (hC : Cx f cX10_makesRoom 3 RX10 wsX10_makesRoom rm_X10_makesRoom) (hG : shM g) (hR : RtV f cX10_makesRoom (fun u => u.1 = g ∧ Post u.2))  : ∀  (I : Mm) , wp_X10_makesRoom_69   Post  I → PW f 0 0 g I 69 [(0, .ref (gA g 100))] [] := by
  intro  I  hw
  unfold wp_X10_makesRoom_69 at hw
  refine r_aload_n hC dX10_makesRoom_69 rfl rfl (j := 0) rfl ?_
  refine r_dup hC dX10_makesRoom_70 rfl rfl ?_
  refine r_getI hC dX10_makesRoom_71 rfl hG.o.1 hG.o.2 ffg_X10_makesRoom_144 ?_
  refine r_iconst hC (v := (1 : Int32)) dX10_makesRoom_74 rfl (by decide) ?_
  refine r_aload_n hC dX10_makesRoom_75 rfl rfl (j := 0) rfl ?_
  refine r_getR hC dX10_makesRoom_76 rfl hG.o.1 hG.o.2 ffg_X10_makesRoom_28 hG.a18.2 ?_
  refine r_iconst hC (v := (0 : Int32)) dX10_makesRoom_79 rfl (by decide) ?_
  obtain ⟨hi, hw⟩ := hw
  refine r_iald hC dX10_makesRoom_80 rfl (hG.a18.1).1 (hG.a18.1).2.1 (by rw [(hG.a18.1).2.2]; exact hi) ?_
  refine r_ishl hC dX10_makesRoom_81 rfl ?_
  refine r_iconst hC (v := (-1 : Int32)) dX10_makesRoom_82 rfl (by decide) ?_
  refine r_ixor hC dX10_makesRoom_83 rfl ?_
  refine r_iand hC dX10_makesRoom_84 rfl ?_
  refine r_putI hC dX10_makesRoom_85 rfl hG.o.1 hG.o.2 ffp_X10_makesRoom_144 ?_
  refine r_aload_n hC dX10_makesRoom_88 rfl rfl (j := 0) rfl ?_
  refine r_iconst hC (v := (0 : Int32)) dX10_makesRoom_89 rfl (by decide) ?_
  refine r_callV hC (a_V hC (k := 10) (c_X10_takesOut hG hw) ci_X10_takesOut gX10_makesRoom_X10_takesOut rfl ⟨Nat.le_of_ble_eq_true rfl, Nat.le_of_ble_eq_true rfl⟩ ⟨Nat.le_of_ble_eq_true rfl, Nat.le_of_ble_eq_true rfl⟩ rfl (by decide) hG.o.1 (List.mem_singleton.mp hG.o.2) rfl rfl (Nat.le_of_ble_eq_true rfl) dX10_makesRoom_90) ⟨rfl, rfl⟩ rfl (fun J2 hw => ?_)
  exact r_retV hC hR ⟨rfl, rfl⟩ dX10_makesRoom_93 hw
set_option maxRecDepth 100000 in
set_option maxHeartbeats 4000000 in
theorem t_X10_makesRoom_0 {f : Fx} {g : Gm}  {Post : Mm → Prop}  {I : Mm} (hC : Cx f cX10_makesRoom 3 RX10 wsX10_makesRoom rm_X10_makesRoom) (hG : shM g) (hR : RtV f cX10_makesRoom (fun u => u.1 = g ∧ Post u.2)) (hw : wp_X10_makesRoom   I Post) : PW f 0 0 g I 0 [(0, .ref (gA g 100))] [] := by
  unfold wp_X10_makesRoom at hw
  refine r_iconst hC (v := (0 : Int32)) dX10_makesRoom_0 rfl (by decide) ?_
  refine r_istore_n hC (lv' := [(1, .int (0 : Int32)), (0, .ref (gA g 100))]) dX10_makesRoom_1 rfl rfl (by decide) rfl ?_
  obtain ⟨nn2, hw⟩ := hw
  exact r_sub (lv' := [(0, .ref (gA g 100)), (1, .int (0 : Int32))]) [1, 0] rfl ((t_X10_makesRoom_2 hC hG hR (fun  I  hw => t_X10_makesRoom_69 hC hG hR _ hw) nn2 _ _ hw))
set_option maxRecDepth 100000 in
theorem c_X10_makesRoom {l : Launch} {x : Gx} {g : Gm}   {I : Mm} {Post : Mm → Prop} (hG : shM g) (hw : wp_X10_makesRoom   I Post) : KV l x yX10_makesRoom wsX10_makesRoom rm_X10_makesRoom g I [.ref (gA g 100)] (fun u => u.1 = g ∧ Post u.2) := KV_of (by decide) rfl rfl (Nat.le_of_ble_eq_true rfl) (fun f hC _ _ hR => t_X10_makesRoom_0 hC hG hR hw)

/-! X10_plays -/
abbrev rm_X10_plays : Room := { frames := 2, cells := 0, slots := 0, locals := 44 }
theorem ci_X10_plays : CI yX10_plays wsX10_plays cX10_plays 3 (some .boolean) 1 := ⟨⟨_, rfl⟩, by decide, by decide, by decide +kernel⟩
def wp_X10_plays_29   (Post : Int32 → Mm → Prop) (x1 : Int32) (x2 : Int32) (s0 : Int32) (s1 : Int32) (I : Mm) : Prop := if ((up2 I 100 16 (s1 ||| s0)) 100 13) = (2 : Int32) then (wp_X10_takesOut x2 (up2 I 100 16 (s1 ||| s0)) (fun J8 => wp_X10_putsBehind x1 J8 (fun J10 => Post (0 : Int32) J10))) else (Post (0 : Int32) (up2 I 100 16 (s1 ||| s0)))
def wp_X10_plays_68   (Post : Int32 → Mm → Prop) (x1 : Int32) (I : Mm) : Prop := wp_X10_putsBehind x1 I (fun J6 => Post (1 : Int32) (up2 J6 100 17 ((J6 100 17) + (1 : Int32))))
def wp_X10_plays  (x1 : Int32) (I : Mm) (Post : Int32 → Mm → Prop) : Prop := wp_X10_whereLies x1 I (fun r1 J2 => if r1 < 0 then (if (J2 100 15) = (J2 100 14) then (wp_X10_makesRoom  J2 (fun J4 => wp_X10_plays_68  Post x1 J4)) else (wp_X10_plays_68  Post x1 J2)) else (if (J2 100 13) ≤ 0 then (wp_X10_plays_29  Post x1 r1 (0 : Int32) (J2 100 16) J2) else (wp_X10_plays_29  Post x1 r1 ((1 : Int32) <<< (x1 &&& 31)) (J2 100 16) J2)))
set_option maxRecDepth 20000 in
theorem uw_X10_plays_10 : ∀ w ∈ u_ws RX10 TX10 30, w ∈ wsX10_plays := by decide +kernel
set_option maxRecDepth 20000 in
theorem ffg_X10_plays_141 : ∀ k ∈ ([10] : List Nat), FF wsX10_plays RX10 141 k 15 ∧ fR k 15 = false := List.forall_mem_cons.mpr ⟨⟨⟨RX10, TX10, 30, "PageDesksModel", rfl, rfl, by decide, by decide, uw_X10_plays_10, (List.mem_of_getElem? (i := 3) rfl), Or.inl rfl⟩, rfl⟩, fun _ h => absurd h List.not_mem_nil⟩
set_option maxRecDepth 20000 in
theorem ffg_X10_plays_138 : ∀ k ∈ ([10] : List Nat), FF wsX10_plays RX10 138 k 14 ∧ fR k 14 = false := List.forall_mem_cons.mpr ⟨⟨⟨RX10, TX10, 30, "PageDesksModel", rfl, rfl, by decide, by decide, uw_X10_plays_10, (List.mem_of_getElem? (i := 4) rfl), Or.inl rfl⟩, rfl⟩, fun _ h => absurd h List.not_mem_nil⟩
set_option maxRecDepth 20000 in
theorem ffg_X10_plays_144 : ∀ k ∈ ([10] : List Nat), FF wsX10_plays RX10 144 k 16 ∧ fR k 16 = false := List.forall_mem_cons.mpr ⟨⟨⟨RX10, TX10, 30, "PageDesksModel", rfl, rfl, by decide, by decide, uw_X10_plays_10, (List.mem_of_getElem? (i := 1) rfl), Or.inl rfl⟩, rfl⟩, fun _ h => absurd h List.not_mem_nil⟩
set_option maxRecDepth 20000 in
theorem ffg_X10_plays_135 : ∀ k ∈ ([10] : List Nat), FF wsX10_plays RX10 135 k 13 ∧ fR k 13 = false := List.forall_mem_cons.mpr ⟨⟨⟨RX10, TX10, 30, "PageDesksModel", rfl, rfl, by decide, by decide, uw_X10_plays_10, (List.mem_of_getElem? (i := 2) rfl), Or.inl rfl⟩, rfl⟩, fun _ h => absurd h List.not_mem_nil⟩
set_option maxRecDepth 20000 in
theorem ffg_X10_plays_147 : ∀ k ∈ ([10] : List Nat), FF wsX10_plays RX10 147 k 17 ∧ fR k 17 = false := List.forall_mem_cons.mpr ⟨⟨⟨RX10, TX10, 30, "PageDesksModel", rfl, rfl, by decide, by decide, uw_X10_plays_10, (List.mem_of_getElem? (i := 5) rfl), Or.inl rfl⟩, rfl⟩, fun _ h => absurd h List.not_mem_nil⟩
set_option maxRecDepth 20000 in
theorem ffp_X10_plays_147 : ∀ k ∈ ([10] : List Nat), FF wsX10_plays RX10 147 k 17 ∧ fR k 17 = false ∧ FP k 17 := List.forall_mem_cons.mpr ⟨⟨⟨RX10, TX10, 30, "PageDesksModel", rfl, rfl, by decide, by decide, uw_X10_plays_10, (List.mem_of_getElem? (i := 5) rfl), Or.inl rfl⟩, rfl, ⟨RX10, TX10, 30, tyX10, rfl, tyX10_ok, nmX10, rfl, rfl⟩⟩, fun _ h => absurd h List.not_mem_nil⟩
set_option maxRecDepth 20000 in
theorem ffp_X10_plays_144 : ∀ k ∈ ([10] : List Nat), FF wsX10_plays RX10 144 k 16 ∧ fR k 16 = false ∧ FP k 16 := List.forall_mem_cons.mpr ⟨⟨⟨RX10, TX10, 30, "PageDesksModel", rfl, rfl, by decide, by decide, uw_X10_plays_10, (List.mem_of_getElem? (i := 1) rfl), Or.inl rfl⟩, rfl, ⟨RX10, TX10, 30, tyX10, rfl, tyX10_ok, nmX10, rfl, rfl⟩⟩, fun _ h => absurd h List.not_mem_nil⟩
set_option maxRecDepth 100000 in
set_option maxHeartbeats 4000000 in
theorem t_X10_plays_29 {f : Fx} {g : Gm}  {Post : Int32 → Mm → Prop}  (hC : Cx f cX10_plays 3 RX10 wsX10_plays rm_X10_plays) (hG : shM g) (hR : RtZ f cX10_plays (fun r u => u.1 = g ∧ Post r u.2))  : ∀ (x1 : Int32) (x2 : Int32) (s0 : Int32) (s1 : Int32) (I : Mm) , wp_X10_plays_29   Post x1 x2 s0 s1 I → PW f 0 0 g I 29 [(0, .ref (gA g 100)), (1, .int x1), (2, .int x2)] [.int s0, .int s1, .ref (gA g 100)] := by
  intro x1 x2 s0 s1 I  hw
  unfold wp_X10_plays_29 at hw
  refine r_ior hC dX10_plays_29 rfl ?_
  refine r_putI hC dX10_plays_30 rfl hG.o.1 hG.o.2 ffp_X10_plays_144 ?_
  refine r_aload_n hC dX10_plays_33 rfl rfl (j := 0) rfl ?_
  refine r_getI hC dX10_plays_34 rfl hG.o.1 hG.o.2 ffg_X10_plays_135 ?_
  refine r_iconst hC (v := (2 : Int32)) dX10_plays_37 rfl (by decide) ?_
  refine r_icmp_ne hC (tgt := 51) dX10_plays_38 rfl (by decide) hw (fun hw => ?_) (fun hw => ?_)
  · refine r_iconst hC (v := (0 : Int32)) dX10_plays_51 rfl (by decide) ?_
    exact r_retZ hC hR ⟨rfl, rfl⟩ dX10_plays_52 (by decide) hw
  · refine r_aload_n hC dX10_plays_41 rfl rfl (j := 0) rfl ?_
    refine r_iload_n hC dX10_plays_42 rfl rfl (j := 2) rfl ?_
    refine r_callV hC (a_V hC (k := 10) (c_X10_takesOut hG hw) ci_X10_takesOut gX10_plays_X10_takesOut rfl ⟨Nat.le_of_ble_eq_true rfl, Nat.le_of_ble_eq_true rfl⟩ ⟨Nat.le_of_ble_eq_true rfl, Nat.le_of_ble_eq_true rfl⟩ rfl (by decide) hG.o.1 (List.mem_singleton.mp hG.o.2) rfl rfl (Nat.le_of_ble_eq_true rfl) dX10_plays_43) ⟨rfl, rfl⟩ rfl (fun J8 hw => ?_)
    refine r_aload_n hC dX10_plays_46 rfl rfl (j := 0) rfl ?_
    refine r_iload_n hC dX10_plays_47 rfl rfl (j := 1) rfl ?_
    refine r_callV hC (a_V hC (k := 10) (c_X10_putsBehind hG hw) ci_X10_putsBehind gX10_plays_X10_putsBehind rfl ⟨Nat.le_of_ble_eq_true rfl, Nat.le_of_ble_eq_true rfl⟩ ⟨Nat.le_of_ble_eq_true rfl, Nat.le_of_ble_eq_true rfl⟩ rfl (by decide) hG.o.1 (List.mem_singleton.mp hG.o.2) rfl rfl (Nat.le_of_ble_eq_true rfl) dX10_plays_48) ⟨rfl, rfl⟩ rfl (fun J10 hw => ?_)
    refine r_iconst hC (v := (0 : Int32)) dX10_plays_51 rfl (by decide) ?_
    exact r_retZ hC hR ⟨rfl, rfl⟩ dX10_plays_52 (by decide) hw
set_option maxRecDepth 100000 in
set_option maxHeartbeats 4000000 in
theorem t_X10_plays_68 {f : Fx} {g : Gm}  {Post : Int32 → Mm → Prop}  (hC : Cx f cX10_plays 3 RX10 wsX10_plays rm_X10_plays) (hG : shM g) (hR : RtZ f cX10_plays (fun r u => u.1 = g ∧ Post r u.2))  : ∀ (x1 : Int32) (I : Mm) , wp_X10_plays_68   Post x1 I → PW f 0 0 g I 68 [(0, .ref (gA g 100)), (1, .int x1)] [] := by
  intro x1 I  hw
  unfold wp_X10_plays_68 at hw
  refine r_aload_n hC dX10_plays_68 rfl rfl (j := 0) rfl ?_
  refine r_iload_n hC dX10_plays_69 rfl rfl (j := 1) rfl ?_
  refine r_callV hC (a_V hC (k := 10) (c_X10_putsBehind hG hw) ci_X10_putsBehind gX10_plays_X10_putsBehind rfl ⟨Nat.le_of_ble_eq_true rfl, Nat.le_of_ble_eq_true rfl⟩ ⟨Nat.le_of_ble_eq_true rfl, Nat.le_of_ble_eq_true rfl⟩ rfl (by decide) hG.o.1 (List.mem_singleton.mp hG.o.2) rfl rfl (Nat.le_of_ble_eq_true rfl) dX10_plays_70) ⟨rfl, rfl⟩ rfl (fun J6 hw => ?_)
  refine r_aload_n hC dX10_plays_73 rfl rfl (j := 0) rfl ?_
  refine r_dup hC dX10_plays_74 rfl rfl ?_
  refine r_getI hC dX10_plays_75 rfl hG.o.1 hG.o.2 ffg_X10_plays_147 ?_
  refine r_iconst hC (v := (1 : Int32)) dX10_plays_78 rfl (by decide) ?_
  refine r_iadd hC dX10_plays_79 rfl ?_
  refine r_putI hC dX10_plays_80 rfl hG.o.1 hG.o.2 ffp_X10_plays_147 ?_
  refine r_iconst hC (v := (1 : Int32)) dX10_plays_83 rfl (by decide) ?_
  exact r_retZ hC hR ⟨rfl, rfl⟩ dX10_plays_84 (by decide) hw
set_option maxRecDepth 100000 in
set_option maxHeartbeats 4000000 in
theorem t_X10_plays_0 {f : Fx} {g : Gm}  {Post : Int32 → Mm → Prop} {x1 : Int32} {I : Mm} (hC : Cx f cX10_plays 3 RX10 wsX10_plays rm_X10_plays) (hG : shM g) (hR : RtZ f cX10_plays (fun r u => u.1 = g ∧ Post r u.2)) (hw : wp_X10_plays  x1 I Post) : PW f 0 0 g I 0 [(0, .ref (gA g 100)), (1, .int x1)] [] := by
  unfold wp_X10_plays at hw
  refine r_aload_n hC dX10_plays_0 rfl rfl (j := 0) rfl ?_
  refine r_iload_n hC dX10_plays_1 rfl rfl (j := 1) rfl ?_
  refine r_callI hC (a_V hC (k := 10) (c_X10_whereLies hG hw) ci_X10_whereLies gX10_plays_X10_whereLies rfl ⟨Nat.le_of_ble_eq_true rfl, Nat.le_of_ble_eq_true rfl⟩ ⟨Nat.le_of_ble_eq_true rfl, Nat.le_of_ble_eq_true rfl⟩ rfl (by decide) hG.o.1 (List.mem_singleton.mp hG.o.2) rfl rfl (Nat.le_of_ble_eq_true rfl) dX10_plays_2) ⟨rfl, rfl⟩ rfl (fun r1 J2 hw => ?_)
  refine r_istore_n hC (lv' := [(2, .int r1), (0, .ref (gA g 100)), (1, .int x1)]) dX10_plays_5 rfl rfl (by decide) rfl ?_
  refine r_iload_n hC dX10_plays_6 rfl rfl (j := 0) rfl ?_
  refine r_if_lt hC (tgt := 53) dX10_plays_7 rfl (by decide) hw (fun hw => ?_) (fun hw => ?_)
  · refine r_aload_n hC dX10_plays_53 rfl rfl (j := 1) rfl ?_
    refine r_getI hC dX10_plays_54 rfl hG.o.1 hG.o.2 ffg_X10_plays_141 ?_
    refine r_aload_n hC dX10_plays_57 rfl rfl (j := 1) rfl ?_
    refine r_getI hC dX10_plays_58 rfl hG.o.1 hG.o.2 ffg_X10_plays_138 ?_
    refine r_icmp_ne hC (tgt := 68) dX10_plays_61 rfl (by decide) hw (fun hw => ?_) (fun hw => ?_)
    · exact r_sub (lv' := [(0, .ref (gA g 100)), (1, .int x1)]) [1, 2] rfl (t_X10_plays_68 hC hG hR _ _ hw)
    · refine r_aload_n hC dX10_plays_64 rfl rfl (j := 1) rfl ?_
      refine r_callV hC (a_V hC (k := 10) (c_X10_makesRoom hG hw) ci_X10_makesRoom gX10_plays_X10_makesRoom rfl ⟨Nat.le_of_ble_eq_true rfl, Nat.le_of_ble_eq_true rfl⟩ ⟨Nat.le_of_ble_eq_true rfl, Nat.le_of_ble_eq_true rfl⟩ rfl (by decide) hG.o.1 (List.mem_singleton.mp hG.o.2) rfl rfl (Nat.le_of_ble_eq_true rfl) dX10_plays_65) ⟨rfl, rfl⟩ rfl (fun J4 hw => ?_)
      exact r_sub (lv' := [(0, .ref (gA g 100)), (1, .int x1)]) [1, 2] rfl (t_X10_plays_68 hC hG hR _ _ hw)
  · refine r_aload_n hC dX10_plays_10 rfl rfl (j := 1) rfl ?_
    refine r_dup hC dX10_plays_11 rfl rfl ?_
    refine r_getI hC dX10_plays_12 rfl hG.o.1 hG.o.2 ffg_X10_plays_144 ?_
    refine r_aload_n hC dX10_plays_15 rfl rfl (j := 1) rfl ?_
    refine r_getI hC dX10_plays_16 rfl hG.o.1 hG.o.2 ffg_X10_plays_135 ?_
    refine r_if_le hC (tgt := 28) dX10_plays_19 rfl (by decide) hw (fun hw => ?_) (fun hw => ?_)
    · refine r_iconst hC (v := (0 : Int32)) dX10_plays_28 rfl (by decide) ?_
      exact r_sub (lv' := [(0, .ref (gA g 100)), (1, .int x1), (2, .int r1)]) [1, 2, 0] rfl (t_X10_plays_29 hC hG hR _ _ _ _ _ hw)
    · refine r_iconst hC (v := (1 : Int32)) dX10_plays_22 rfl (by decide) ?_
      refine r_iload_n hC dX10_plays_23 rfl rfl (j := 2) rfl ?_
      refine r_ishl hC dX10_plays_24 rfl ?_
      refine r_goto hC (tgt := 29) dX10_plays_25 (by decide) ?_
      exact r_sub (lv' := [(0, .ref (gA g 100)), (1, .int x1), (2, .int r1)]) [1, 2, 0] rfl (t_X10_plays_29 hC hG hR _ _ _ _ _ hw)
set_option maxRecDepth 100000 in
theorem c_X10_plays {l : Launch} {x : Gx} {g : Gm}  {x1 : Int32} {I : Mm} {Post : Int32 → Mm → Prop} (hG : shM g) (hw : wp_X10_plays  x1 I Post) : KI l x yX10_plays wsX10_plays rm_X10_plays g I [.ref (gA g 100), .int x1] (fun r u => u.1 = g ∧ Post r u.2) := KZ_of (by decide) rfl rfl (Nat.le_of_ble_eq_true rfl) (fun f hC _ _ hR => t_X10_plays_0 hC hG hR hw)

/-! X10_playsLine -/
abbrev rm_X10_playsLine : Room := { frames := 3, cells := 0, slots := 0, locals := 66 }
theorem ci_X10_playsLine : CI yX10_playsLine wsX10_playsLine cX10_playsLine 5 none 3 := ⟨⟨_, rfl⟩, by decide, by decide, by decide +kernel⟩
def wp_X10_playsLine_9   (Post : Mm → Prop) : Nat → Int32 → Int32 → Mm → Prop
  | 0, _, _, _ => False
  | nn9 + 1, x3, x4, I => if x3 ≤ x4 then (Post I) else (vp_in x4 24 ∧ (wp_X10_plays (I 106 x4.toNatClampNeg) I (fun r3 J4 => wp_X10_playsLine_9  Post nn9 x3 (x4 + 1) J4)))
def wp_X10_playsLine  (x1 : Int32) (x2 : Int32) (x3 : Int32) (I : Mm) (Post : Mm → Prop) : Prop := wp_X10_clears x1 x2 I (fun J2 => ∃ nn9, wp_X10_playsLine_9  Post nn9 x3 (0 : Int32) J2)
set_option maxRecDepth 20000 in
theorem uw_X10_playsLine_10 : ∀ w ∈ u_ws RX10 TX10 30, w ∈ wsX10_playsLine := by decide +kernel
set_option maxRecDepth 20000 in
theorem ffg_X10_playsLine_16 : ∀ k ∈ ([10] : List Nat), FF wsX10_playsLine RX10 16 k 6 ∧ fR k 6 = true := List.forall_mem_cons.mpr ⟨⟨⟨RX10, TX10, 30, "PageDesksModel", rfl, rfl, by decide, by decide, uw_X10_playsLine_10, (List.mem_of_getElem? (i := 1) rfl), Or.inl rfl⟩, rfl⟩, fun _ h => absurd h List.not_mem_nil⟩
set_option maxRecDepth 100000 in
set_option maxHeartbeats 4000000 in
theorem t_X10_playsLine_9 {f : Fx} {g : Gm}  {Post : Mm → Prop}  (hC : Cx f cX10_playsLine 5 RX10 wsX10_playsLine rm_X10_playsLine) (hG : shM g) (hR : RtV f cX10_playsLine (fun u => u.1 = g ∧ Post u.2))  : ∀ (nn9 : Nat) (x3 : Int32) (x4 : Int32) (I : Mm) , wp_X10_playsLine_9   Post nn9 x3 x4 I → PW f 0 0 g I 9 [(0, .ref (gA g 100)), (3, .int x3), (4, .int x4)] [] := by
  intro nn9
  induction nn9 with
  | zero =>
    intro x3 x4 I  hw
    exact absurd hw id
  | succ nn9 ih =>
    intro x3 x4 I  hw
    unfold wp_X10_playsLine_9 at hw
    refine r_iload hC dX10_playsLine_9 rfl (j := 2) rfl ?_
    refine r_iload_n hC dX10_playsLine_11 rfl rfl (j := 1) rfl ?_
    refine r_icmp_ge hC (tgt := 33) dX10_playsLine_12 rfl (by decide) hw (fun hw => ?_) (fun hw => ?_)
    · exact r_retV hC hR ⟨rfl, rfl⟩ dX10_playsLine_33 hw
    · refine r_aload_n hC dX10_playsLine_15 rfl rfl (j := 0) rfl ?_
      refine r_aload_n hC dX10_playsLine_16 rfl rfl (j := 0) rfl ?_
      refine r_getR hC dX10_playsLine_17 rfl hG.o.1 hG.o.2 ffg_X10_playsLine_16 hG.a6.2 ?_
      refine r_iload hC dX10_playsLine_20 rfl (j := 2) rfl ?_
      obtain ⟨hi, hw⟩ := hw
      refine r_iald hC dX10_playsLine_22 rfl (hG.a6.1).1 (hG.a6.1).2.1 (by rw [(hG.a6.1).2.2]; exact hi) ?_
      refine r_callI hC (a_V hC (k := 10) (c_X10_plays hG hw) ci_X10_plays gX10_playsLine_X10_plays rfl ⟨Nat.le_of_ble_eq_true rfl, Nat.le_of_ble_eq_true rfl⟩ ⟨Nat.le_of_ble_eq_true rfl, Nat.le_of_ble_eq_true rfl⟩ rfl (by decide) hG.o.1 (List.mem_singleton.mp hG.o.2) rfl rfl (Nat.le_of_ble_eq_true rfl) dX10_playsLine_23) ⟨rfl, rfl⟩ rfl (fun r3 J4 hw => ?_)
      refine r_pop hC dX10_playsLine_26 rfl rfl ?_
      refine r_iinc hC (k := 1) (lv' := [(4, .int (x4 + 1)), (0, .ref (gA g 100)), (3, .int x3)]) dX10_playsLine_27 rfl (j := 2) rfl (by decide) (by decide) rfl ?_
      refine r_goto hC (tgt := 9) dX10_playsLine_30 (by decide) ?_
      exact r_sub (lv' := [(0, .ref (gA g 100)), (3, .int x3), (4, .int (x4 + 1))]) [1, 2, 0] rfl (ih _ _ _ hw)
set_option maxRecDepth 100000 in
set_option maxHeartbeats 4000000 in
theorem t_X10_playsLine_0 {f : Fx} {g : Gm}  {Post : Mm → Prop} {x1 : Int32} {x2 : Int32} {x3 : Int32} {I : Mm} (hC : Cx f cX10_playsLine 5 RX10 wsX10_playsLine rm_X10_playsLine) (hG : shM g) (hR : RtV f cX10_playsLine (fun u => u.1 = g ∧ Post u.2)) (hw : wp_X10_playsLine  x1 x2 x3 I Post) : PW f 0 0 g I 0 [(0, .ref (gA g 100)), (1, .int x1), (2, .int x2), (3, .int x3)] [] := by
  unfold wp_X10_playsLine at hw
  refine r_aload_n hC dX10_playsLine_0 rfl rfl (j := 0) rfl ?_
  refine r_iload_n hC dX10_playsLine_1 rfl rfl (j := 1) rfl ?_
  refine r_iload_n hC dX10_playsLine_2 rfl rfl (j := 2) rfl ?_
  refine r_callV hC (a_V hC (k := 10) (c_X10_clears hG hw) ci_X10_clears gX10_playsLine_X10_clears rfl ⟨Nat.le_of_ble_eq_true rfl, Nat.le_of_ble_eq_true rfl⟩ ⟨Nat.le_of_ble_eq_true rfl, Nat.le_of_ble_eq_true rfl⟩ rfl (by decide) hG.o.1 (List.mem_singleton.mp hG.o.2) rfl rfl (Nat.le_of_ble_eq_true rfl) dX10_playsLine_3) ⟨rfl, rfl⟩ rfl (fun J2 hw => ?_)
  refine r_iconst hC (v := (0 : Int32)) dX10_playsLine_6 rfl (by decide) ?_
  refine r_istore hC (lv' := [(4, .int (0 : Int32)), (0, .ref (gA g 100)), (1, .int x1), (2, .int x2), (3, .int x3)]) dX10_playsLine_7 rfl (by decide) rfl ?_
  obtain ⟨nn9, hw⟩ := hw
  exact r_sub (lv' := [(0, .ref (gA g 100)), (3, .int x3), (4, .int (0 : Int32))]) [1, 4, 0] rfl ((t_X10_playsLine_9 hC hG hR nn9 _ _ _ hw))
set_option maxRecDepth 100000 in
theorem c_X10_playsLine {l : Launch} {x : Gx} {g : Gm}  {x1 : Int32} {x2 : Int32} {x3 : Int32} {I : Mm} {Post : Mm → Prop} (hG : shM g) (hw : wp_X10_playsLine  x1 x2 x3 I Post) : KV l x yX10_playsLine wsX10_playsLine rm_X10_playsLine g I [.ref (gA g 100), .int x1, .int x2, .int x3] (fun u => u.1 = g ∧ Post u.2) := KV_of (by decide) rfl rfl (Nat.le_of_ble_eq_true rfl) (fun f hC _ _ hR => t_X10_playsLine_0 hC hG hR hw)

/-! X10_playsNow -/
abbrev rm_X10_playsNow : Room := { frames := 4, cells := 0, slots := 0, locals := 90 }
theorem ci_X10_playsNow : CI yX10_playsNow wsX10_playsNow cX10_playsNow 2 none 1 := ⟨⟨_, rfl⟩, by decide, by decide, by decide +kernel⟩
def wp_X10_playsNow  (x1 : Int32) (I : Mm) (Post : Mm → Prop) : Prop := vp_in x1 4 ∧ (vp_in x1 4 ∧ (wp_X10_playsLine (I 104 x1.toNatClampNeg) (I 105 x1.toNatClampNeg) (I 100 3) I (fun J2 => Post J2)))
set_option maxRecDepth 20000 in
theorem uw_X10_playsNow_10 : ∀ w ∈ u_ws RX10 TX10 30, w ∈ wsX10_playsNow := by decide +kernel
set_option maxRecDepth 20000 in
theorem ffg_X10_playsNow_7 : ∀ k ∈ ([10] : List Nat), FF wsX10_playsNow RX10 7 k 4 ∧ fR k 4 = true := List.forall_mem_cons.mpr ⟨⟨⟨RX10, TX10, 30, "PageDesksModel", rfl, rfl, by decide, by decide, uw_X10_playsNow_10, (List.mem_of_getElem? (i := 1) rfl), Or.inl rfl⟩, rfl⟩, fun _ h => absurd h List.not_mem_nil⟩
set_option maxRecDepth 20000 in
theorem ffg_X10_playsNow_13 : ∀ k ∈ ([10] : List Nat), FF wsX10_playsNow RX10 13 k 5 ∧ fR k 5 = true := List.forall_mem_cons.mpr ⟨⟨⟨RX10, TX10, 30, "PageDesksModel", rfl, rfl, by decide, by decide, uw_X10_playsNow_10, (List.mem_of_getElem? (i := 2) rfl), Or.inl rfl⟩, rfl⟩, fun _ h => absurd h List.not_mem_nil⟩
set_option maxRecDepth 20000 in
theorem ffg_X10_playsNow_129 : ∀ k ∈ ([10] : List Nat), FF wsX10_playsNow RX10 129 k 3 ∧ fR k 3 = false := List.forall_mem_cons.mpr ⟨⟨⟨RX10, TX10, 30, "PageDesksModel", rfl, rfl, by decide, by decide, uw_X10_playsNow_10, (List.mem_of_getElem? (i := 3) rfl), Or.inl rfl⟩, rfl⟩, fun _ h => absurd h List.not_mem_nil⟩
set_option maxRecDepth 100000 in
set_option maxHeartbeats 4000000 in
theorem t_X10_playsNow_0 {f : Fx} {g : Gm}  {Post : Mm → Prop} {x1 : Int32} {I : Mm} (hC : Cx f cX10_playsNow 2 RX10 wsX10_playsNow rm_X10_playsNow) (hG : shM g) (hR : RtV f cX10_playsNow (fun u => u.1 = g ∧ Post u.2)) (hw : wp_X10_playsNow  x1 I Post) : PW f 0 0 g I 0 [(0, .ref (gA g 100)), (1, .int x1)] [] := by
  unfold wp_X10_playsNow at hw
  refine r_aload_n hC dX10_playsNow_0 rfl rfl (j := 0) rfl ?_
  refine r_aload_n hC dX10_playsNow_1 rfl rfl (j := 0) rfl ?_
  refine r_getR hC dX10_playsNow_2 rfl hG.o.1 hG.o.2 ffg_X10_playsNow_7 hG.a4.2 ?_
  refine r_iload_n hC dX10_playsNow_5 rfl rfl (j := 1) rfl ?_
  obtain ⟨hi, hw⟩ := hw
  refine r_iald hC dX10_playsNow_6 rfl (hG.a4.1).1 (hG.a4.1).2.1 (by rw [(hG.a4.1).2.2]; exact hi) ?_
  refine r_aload_n hC dX10_playsNow_7 rfl rfl (j := 0) rfl ?_
  refine r_getR hC dX10_playsNow_8 rfl hG.o.1 hG.o.2 ffg_X10_playsNow_13 hG.a5.2 ?_
  refine r_iload_n hC dX10_playsNow_11 rfl rfl (j := 1) rfl ?_
  obtain ⟨hi, hw⟩ := hw
  refine r_iald hC dX10_playsNow_12 rfl (hG.a5.1).1 (hG.a5.1).2.1 (by rw [(hG.a5.1).2.2]; exact hi) ?_
  refine r_aload_n hC dX10_playsNow_13 rfl rfl (j := 0) rfl ?_
  refine r_getI hC dX10_playsNow_14 rfl hG.o.1 hG.o.2 ffg_X10_playsNow_129 ?_
  refine r_callV hC (a_V hC (k := 10) (c_X10_playsLine hG hw) ci_X10_playsLine gX10_playsNow_X10_playsLine rfl ⟨Nat.le_of_ble_eq_true rfl, Nat.le_of_ble_eq_true rfl⟩ ⟨Nat.le_of_ble_eq_true rfl, Nat.le_of_ble_eq_true rfl⟩ rfl (by decide) hG.o.1 (List.mem_singleton.mp hG.o.2) rfl rfl (Nat.le_of_ble_eq_true rfl) dX10_playsNow_17) ⟨rfl, rfl⟩ rfl (fun J2 hw => ?_)
  exact r_retV hC hR ⟨rfl, rfl⟩ dX10_playsNow_20 hw
set_option maxRecDepth 100000 in
theorem c_X10_playsNow {l : Launch} {x : Gx} {g : Gm}  {x1 : Int32} {I : Mm} {Post : Mm → Prop} (hG : shM g) (hw : wp_X10_playsNow  x1 I Post) : KV l x yX10_playsNow wsX10_playsNow rm_X10_playsNow g I [.ref (gA g 100), .int x1] (fun u => u.1 = g ∧ Post u.2) := KV_of (by decide) rfl rfl (Nat.le_of_ble_eq_true rfl) (fun f hC _ _ hR => t_X10_playsNow_0 hC hG hR hw)

/-! X10_playSet -/
abbrev rm_X10_playSet : Room := { frames := 0, cells := 0, slots := 0, locals := 0 }
theorem ci_X10_playSet : CI yX10_playSet wsX10_playSet cX10_playSet 3 (some .int) 0 := ⟨⟨_, rfl⟩, by decide, by decide, by decide +kernel⟩
def wp_X10_playSet_4   (Post : Int32 → Mm → Prop) : Nat → Int32 → Int32 → Mm → Prop
  | 0, _, _, _ => False
  | nn4 + 1, x1, x2, I => if (I 100 15) ≤ x2 then (Post x1 I) else (vp_in x2 8 ∧ (wp_X10_playSet_4  Post nn4 (x1 ||| ((1 : Int32) <<< ((I 118 x2.toNatClampNeg) &&& 31))) (x2 + 1) I))
def wp_X10_playSet   (I : Mm) (Post : Int32 → Mm → Prop) : Prop := ∃ nn4, wp_X10_playSet_4  Post nn4 (0 : Int32) (0 : Int32) I
set_option maxRecDepth 20000 in
theorem uw_X10_playSet_10 : ∀ w ∈ u_ws RX10 TX10 30, w ∈ wsX10_playSet := by decide +kernel
set_option maxRecDepth 20000 in
theorem ffg_X10_playSet_141 : ∀ k ∈ ([10] : List Nat), FF wsX10_playSet RX10 141 k 15 ∧ fR k 15 = false := List.forall_mem_cons.mpr ⟨⟨⟨RX10, TX10, 30, "PageDesksModel", rfl, rfl, by decide, by decide, uw_X10_playSet_10, (List.mem_of_getElem? (i := 1) rfl), Or.inl rfl⟩, rfl⟩, fun _ h => absurd h List.not_mem_nil⟩
set_option maxRecDepth 20000 in
theorem ffg_X10_playSet_28 : ∀ k ∈ ([10] : List Nat), FF wsX10_playSet RX10 28 k 18 ∧ fR k 18 = true := List.forall_mem_cons.mpr ⟨⟨⟨RX10, TX10, 30, "PageDesksModel", rfl, rfl, by decide, by decide, uw_X10_playSet_10, (List.mem_of_getElem? (i := 2) rfl), Or.inl rfl⟩, rfl⟩, fun _ h => absurd h List.not_mem_nil⟩
set_option maxRecDepth 100000 in
set_option maxHeartbeats 4000000 in
theorem t_X10_playSet_4 {f : Fx} {g : Gm}  {Post : Int32 → Mm → Prop}  (hC : Cx f cX10_playSet 3 RX10 wsX10_playSet rm_X10_playSet) (hG : shM g) (hR : RtI f cX10_playSet (fun r u => u.1 = g ∧ Post r u.2))  : ∀ (nn4 : Nat) (x1 : Int32) (x2 : Int32) (I : Mm) , wp_X10_playSet_4   Post nn4 x1 x2 I → PW f 0 0 g I 4 [(0, .ref (gA g 100)), (1, .int x1), (2, .int x2)] [] := by
  intro nn4
  induction nn4 with
  | zero =>
    intro x1 x2 I  hw
    exact absurd hw id
  | succ nn4 ih =>
    intro x1 x2 I  hw
    unfold wp_X10_playSet_4 at hw
    refine r_iload_n hC dX10_playSet_4 rfl rfl (j := 2) rfl ?_
    refine r_aload_n hC dX10_playSet_5 rfl rfl (j := 0) rfl ?_
    refine r_getI hC dX10_playSet_6 rfl hG.o.1 hG.o.2 ffg_X10_playSet_141 ?_
    refine r_icmp_ge hC (tgt := 29) dX10_playSet_9 rfl (by decide) hw (fun hw => ?_) (fun hw => ?_)
    · refine r_iload_n hC dX10_playSet_29 rfl rfl (j := 1) rfl ?_
      exact r_retI hC hR ⟨rfl, rfl⟩ dX10_playSet_30 hw
    · refine r_iload_n hC dX10_playSet_12 rfl rfl (j := 1) rfl ?_
      refine r_iconst hC (v := (1 : Int32)) dX10_playSet_13 rfl (by decide) ?_
      refine r_aload_n hC dX10_playSet_14 rfl rfl (j := 0) rfl ?_
      refine r_getR hC dX10_playSet_15 rfl hG.o.1 hG.o.2 ffg_X10_playSet_28 hG.a18.2 ?_
      refine r_iload_n hC dX10_playSet_18 rfl rfl (j := 2) rfl ?_
      obtain ⟨hi, hw⟩ := hw
      refine r_iald hC dX10_playSet_19 rfl (hG.a18.1).1 (hG.a18.1).2.1 (by rw [(hG.a18.1).2.2]; exact hi) ?_
      refine r_ishl hC dX10_playSet_20 rfl ?_
      refine r_ior hC dX10_playSet_21 rfl ?_
      refine r_istore_n hC (lv' := [(1, .int (x1 ||| ((1 : Int32) <<< ((I 118 x2.toNatClampNeg) &&& 31)))), (0, .ref (gA g 100)), (2, .int x2)]) dX10_playSet_22 rfl rfl (by decide) rfl ?_
      refine r_iinc hC (k := 1) (lv' := [(2, .int (x2 + 1)), (1, .int (x1 ||| ((1 : Int32) <<< ((I 118 x2.toNatClampNeg) &&& 31)))), (0, .ref (gA g 100))]) dX10_playSet_23 rfl (j := 2) rfl (by decide) (by decide) rfl ?_
      refine r_goto hC (tgt := 4) dX10_playSet_26 (by decide) ?_
      exact r_sub (lv' := [(0, .ref (gA g 100)), (1, .int (x1 ||| ((1 : Int32) <<< ((I 118 x2.toNatClampNeg) &&& 31)))), (2, .int (x2 + 1))]) [2, 1, 0] rfl (ih _ _ _ hw)
set_option maxRecDepth 100000 in
set_option maxHeartbeats 4000000 in
theorem t_X10_playSet_0 {f : Fx} {g : Gm}  {Post : Int32 → Mm → Prop}  {I : Mm} (hC : Cx f cX10_playSet 3 RX10 wsX10_playSet rm_X10_playSet) (hG : shM g) (hR : RtI f cX10_playSet (fun r u => u.1 = g ∧ Post r u.2)) (hw : wp_X10_playSet   I Post) : PW f 0 0 g I 0 [(0, .ref (gA g 100))] [] := by
  unfold wp_X10_playSet at hw
  refine r_iconst hC (v := (0 : Int32)) dX10_playSet_0 rfl (by decide) ?_
  refine r_istore_n hC (lv' := [(1, .int (0 : Int32)), (0, .ref (gA g 100))]) dX10_playSet_1 rfl rfl (by decide) rfl ?_
  refine r_iconst hC (v := (0 : Int32)) dX10_playSet_2 rfl (by decide) ?_
  refine r_istore_n hC (lv' := [(2, .int (0 : Int32)), (1, .int (0 : Int32)), (0, .ref (gA g 100))]) dX10_playSet_3 rfl rfl (by decide) rfl ?_
  obtain ⟨nn4, hw⟩ := hw
  exact r_sub (lv' := [(0, .ref (gA g 100)), (1, .int (0 : Int32)), (2, .int (0 : Int32))]) [2, 1, 0] rfl ((t_X10_playSet_4 hC hG hR nn4 _ _ _ hw))
set_option maxRecDepth 100000 in
theorem c_X10_playSet {l : Launch} {x : Gx} {g : Gm}   {I : Mm} {Post : Int32 → Mm → Prop} (hG : shM g) (hw : wp_X10_playSet   I Post) : KI l x yX10_playSet wsX10_playSet rm_X10_playSet g I [.ref (gA g 100)] (fun r u => u.1 = g ∧ Post r u.2) := KI_of (by decide) rfl rfl (Nat.le_of_ble_eq_true rfl) (fun f hC _ _ hR => t_X10_playSet_0 hC hG hR hw)

/-! X10_wouldGo -/
abbrev rm_X10_wouldGo : Room := { frames := 1, cells := 0, slots := 0, locals := 21 }
theorem ci_X10_wouldGo : CI yX10_wouldGo wsX10_wouldGo cX10_wouldGo 3 (some .int) 0 := ⟨⟨_, rfl⟩, by decide, by decide, by decide +kernel⟩
def wp_X10_wouldGo_66  (Kb : Int32 → Int32 → Mm → Prop) (Post : Int32 → Mm → Prop) (x2 : Int32) (s0 : Int32) (I : Mm) : Prop := Kb s0 (x2 + (-1)) I
def wp_X10_wouldGo_65  (Kb : Int32 → Int32 → Mm → Prop) (Post : Int32 → Mm → Prop) (x1 : Int32) (x2 : Int32) (I : Mm) : Prop := wp_X10_wouldGo_66 Kb Post x2 x1 I
def wp_X10_wouldGo_28   (Post : Int32 → Mm → Prop) : Nat → Int32 → Int32 → Mm → Prop
  | 0, _, _, _ => False
  | nn28 + 1, x1, x2, I => if x2 < 0 then (Post x1 I) else (if (I 100 13) = (1 : Int32) then (vp_in x2 8 ∧ (wp_X10_isIn (I 100 16) (I 118 x2.toNatClampNeg) I (fun r1 J2 => if r1 = 0 then (vp_in x2 8 ∧ (wp_X10_wouldGo_66 (fun x1 x2 I => wp_X10_wouldGo_28  Post nn28 x1 x2 I) Post x2 (J2 118 x2.toNatClampNeg) J2)) else (wp_X10_wouldGo_65 (fun x1 x2 I => wp_X10_wouldGo_28  Post nn28 x1 x2 I) Post x1 x2 J2)))) else (wp_X10_wouldGo_65 (fun x1 x2 I => wp_X10_wouldGo_28  Post nn28 x1 x2 I) Post x1 x2 I))
def wp_X10_wouldGo   (I : Mm) (Post : Int32 → Mm → Prop) : Prop := if (I 100 14) ≤ (I 100 15) then (vp_in (0 : Int32) 8 ∧ (∃ nn28, wp_X10_wouldGo_28  Post nn28 (I 118 (0 : Int32).toNatClampNeg) ((I 100 15) - (1 : Int32)) I)) else (Post (-9 : Int32) I)
set_option maxRecDepth 20000 in
theorem uw_X10_wouldGo_10 : ∀ w ∈ u_ws RX10 TX10 30, w ∈ wsX10_wouldGo := by decide +kernel
set_option maxRecDepth 20000 in
theorem ffg_X10_wouldGo_141 : ∀ k ∈ ([10] : List Nat), FF wsX10_wouldGo RX10 141 k 15 ∧ fR k 15 = false := List.forall_mem_cons.mpr ⟨⟨⟨RX10, TX10, 30, "PageDesksModel", rfl, rfl, by decide, by decide, uw_X10_wouldGo_10, (List.mem_of_getElem? (i := 1) rfl), Or.inl rfl⟩, rfl⟩, fun _ h => absurd h List.not_mem_nil⟩
set_option maxRecDepth 20000 in
theorem ffg_X10_wouldGo_138 : ∀ k ∈ ([10] : List Nat), FF wsX10_wouldGo RX10 138 k 14 ∧ fR k 14 = false := List.forall_mem_cons.mpr ⟨⟨⟨RX10, TX10, 30, "PageDesksModel", rfl, rfl, by decide, by decide, uw_X10_wouldGo_10, (List.mem_of_getElem? (i := 2) rfl), Or.inl rfl⟩, rfl⟩, fun _ h => absurd h List.not_mem_nil⟩
set_option maxRecDepth 20000 in
theorem ffg_X10_wouldGo_28 : ∀ k ∈ ([10] : List Nat), FF wsX10_wouldGo RX10 28 k 18 ∧ fR k 18 = true := List.forall_mem_cons.mpr ⟨⟨⟨RX10, TX10, 30, "PageDesksModel", rfl, rfl, by decide, by decide, uw_X10_wouldGo_10, (List.mem_of_getElem? (i := 3) rfl), Or.inl rfl⟩, rfl⟩, fun _ h => absurd h List.not_mem_nil⟩
set_option maxRecDepth 20000 in
theorem ffg_X10_wouldGo_135 : ∀ k ∈ ([10] : List Nat), FF wsX10_wouldGo RX10 135 k 13 ∧ fR k 13 = false := List.forall_mem_cons.mpr ⟨⟨⟨RX10, TX10, 30, "PageDesksModel", rfl, rfl, by decide, by decide, uw_X10_wouldGo_10, (List.mem_of_getElem? (i := 4) rfl), Or.inl rfl⟩, rfl⟩, fun _ h => absurd h List.not_mem_nil⟩
set_option maxRecDepth 20000 in
theorem ffg_X10_wouldGo_144 : ∀ k ∈ ([10] : List Nat), FF wsX10_wouldGo RX10 144 k 16 ∧ fR k 16 = false := List.forall_mem_cons.mpr ⟨⟨⟨RX10, TX10, 30, "PageDesksModel", rfl, rfl, by decide, by decide, uw_X10_wouldGo_10, (List.mem_of_getElem? (i := 5) rfl), Or.inl rfl⟩, rfl⟩, fun _ h => absurd h List.not_mem_nil⟩
set_option maxRecDepth 100000 in
set_option maxHeartbeats 4000000 in
theorem t_X10_wouldGo_66 {f : Fx} {g : Gm}  {Post : Int32 → Mm → Prop} {Kb : Int32 → Int32 → Mm → Prop} (hC : Cx f cX10_wouldGo 3 RX10 wsX10_wouldGo rm_X10_wouldGo) (hG : shM g) (hR : RtI f cX10_wouldGo (fun r u => u.1 = g ∧ Post r u.2)) (hKb : ∀ (x1 : Int32) (x2 : Int32) (I : Mm) , Kb x1 x2 I → PW f 0 0 g I 28 [(0, .ref (gA g 100)), (1, .int x1), (2, .int x2)] []) : ∀ (x2 : Int32) (s0 : Int32) (I : Mm) , wp_X10_wouldGo_66  Kb Post x2 s0 I → PW f 0 0 g I 66 [(0, .ref (gA g 100)), (2, .int x2)] [.int s0] := by
  intro x2 s0 I  hw
  unfold wp_X10_wouldGo_66 at hw
  refine r_istore_n hC (lv' := [(1, .int s0), (0, .ref (gA g 100)), (2, .int x2)]) dX10_wouldGo_66 rfl rfl (by decide) rfl ?_
  refine r_iinc hC (k := -1) (lv' := [(2, .int (x2 + (-1))), (1, .int s0), (0, .ref (gA g 100))]) dX10_wouldGo_67 rfl (j := 2) rfl (by decide) (by decide) rfl ?_
  refine r_goto hC (tgt := 28) dX10_wouldGo_70 (by decide) ?_
  exact r_sub (lv' := [(0, .ref (gA g 100)), (1, .int s0), (2, .int (x2 + (-1)))]) [2, 1, 0] rfl (hKb _ _ _ hw)
set_option maxRecDepth 100000 in
set_option maxHeartbeats 4000000 in
theorem t_X10_wouldGo_65 {f : Fx} {g : Gm}  {Post : Int32 → Mm → Prop} {Kb : Int32 → Int32 → Mm → Prop} (hC : Cx f cX10_wouldGo 3 RX10 wsX10_wouldGo rm_X10_wouldGo) (hG : shM g) (hR : RtI f cX10_wouldGo (fun r u => u.1 = g ∧ Post r u.2)) (hKb : ∀ (x1 : Int32) (x2 : Int32) (I : Mm) , Kb x1 x2 I → PW f 0 0 g I 28 [(0, .ref (gA g 100)), (1, .int x1), (2, .int x2)] []) : ∀ (x1 : Int32) (x2 : Int32) (I : Mm) , wp_X10_wouldGo_65  Kb Post x1 x2 I → PW f 0 0 g I 65 [(0, .ref (gA g 100)), (1, .int x1), (2, .int x2)] [] := by
  intro x1 x2 I  hw
  unfold wp_X10_wouldGo_65 at hw
  refine r_iload_n hC dX10_wouldGo_65 rfl rfl (j := 1) rfl ?_
  exact r_sub (lv' := [(0, .ref (gA g 100)), (2, .int x2)]) [0, 2] rfl (t_X10_wouldGo_66 hC hG hR hKb _ _ _ hw)
set_option maxRecDepth 100000 in
set_option maxHeartbeats 4000000 in
theorem t_X10_wouldGo_28 {f : Fx} {g : Gm}  {Post : Int32 → Mm → Prop}  (hC : Cx f cX10_wouldGo 3 RX10 wsX10_wouldGo rm_X10_wouldGo) (hG : shM g) (hR : RtI f cX10_wouldGo (fun r u => u.1 = g ∧ Post r u.2))  : ∀ (nn28 : Nat) (x1 : Int32) (x2 : Int32) (I : Mm) , wp_X10_wouldGo_28   Post nn28 x1 x2 I → PW f 0 0 g I 28 [(0, .ref (gA g 100)), (1, .int x1), (2, .int x2)] [] := by
  intro nn28
  induction nn28 with
  | zero =>
    intro x1 x2 I  hw
    exact absurd hw id
  | succ nn28 ih =>
    intro x1 x2 I  hw
    unfold wp_X10_wouldGo_28 at hw
    refine r_iload_n hC dX10_wouldGo_28 rfl rfl (j := 2) rfl ?_
    refine r_if_lt hC (tgt := 73) dX10_wouldGo_29 rfl (by decide) hw (fun hw => ?_) (fun hw => ?_)
    · refine r_iload_n hC dX10_wouldGo_73 rfl rfl (j := 1) rfl ?_
      exact r_retI hC hR ⟨rfl, rfl⟩ dX10_wouldGo_74 hw
    · refine r_aload_n hC dX10_wouldGo_32 rfl rfl (j := 0) rfl ?_
      refine r_getI hC dX10_wouldGo_33 rfl hG.o.1 hG.o.2 ffg_X10_wouldGo_135 ?_
      refine r_iconst hC (v := (1 : Int32)) dX10_wouldGo_36 rfl (by decide) ?_
      refine r_icmp_ne hC (tgt := 65) dX10_wouldGo_37 rfl (by decide) hw (fun hw => ?_) (fun hw => ?_)
      · exact r_sub (lv' := [(0, .ref (gA g 100)), (1, .int x1), (2, .int x2)]) [0, 1, 2] rfl (t_X10_wouldGo_65 hC hG hR (fun x1 x2 I  hw => ih x1 x2 I  hw) _ _ _ hw)
      · refine r_aload_n hC dX10_wouldGo_40 rfl rfl (j := 0) rfl ?_
        refine r_getI hC dX10_wouldGo_41 rfl hG.o.1 hG.o.2 ffg_X10_wouldGo_144 ?_
        refine r_aload_n hC dX10_wouldGo_44 rfl rfl (j := 0) rfl ?_
        refine r_getR hC dX10_wouldGo_45 rfl hG.o.1 hG.o.2 ffg_X10_wouldGo_28 hG.a18.2 ?_
        refine r_iload_n hC dX10_wouldGo_48 rfl rfl (j := 2) rfl ?_
        obtain ⟨hi, hw⟩ := hw
        refine r_iald hC dX10_wouldGo_49 rfl (hG.a18.1).1 (hG.a18.1).2.1 (by rw [(hG.a18.1).2.2]; exact hi) ?_
        refine r_callI hC (a_S hC (c_X10_isIn  hw) ci_X10_isIn gX10_wouldGo_X10_isIn ⟨Nat.le_of_ble_eq_true rfl, Nat.le_of_ble_eq_true rfl⟩ ⟨Nat.le_of_ble_eq_true rfl, Nat.le_of_ble_eq_true rfl⟩ rfl rfl (Nat.le_of_ble_eq_true rfl) dX10_wouldGo_50) ⟨rfl, rfl⟩ rfl (fun r1 J2 hw => ?_)
        refine r_if_ne hC (tgt := 65) dX10_wouldGo_53 rfl (by decide) hw (fun hw => ?_) (fun hw => ?_)
        · exact r_sub (lv' := [(0, .ref (gA g 100)), (1, .int x1), (2, .int x2)]) [0, 1, 2] rfl (t_X10_wouldGo_65 hC hG hR (fun x1 x2 I  hw => ih x1 x2 I  hw) _ _ _ hw)
        · refine r_aload_n hC dX10_wouldGo_56 rfl rfl (j := 0) rfl ?_
          refine r_getR hC dX10_wouldGo_57 rfl hG.o.1 hG.o.2 ffg_X10_wouldGo_28 hG.a18.2 ?_
          refine r_iload_n hC dX10_wouldGo_60 rfl rfl (j := 2) rfl ?_
          obtain ⟨hi, hw⟩ := hw
          refine r_iald hC dX10_wouldGo_61 rfl (hG.a18.1).1 (hG.a18.1).2.1 (by rw [(hG.a18.1).2.2]; exact hi) ?_
          refine r_goto hC (tgt := 66) dX10_wouldGo_62 (by decide) ?_
          exact r_sub (lv' := [(0, .ref (gA g 100)), (2, .int x2)]) [0, 2] rfl (t_X10_wouldGo_66 hC hG hR (fun x1 x2 I  hw => ih x1 x2 I  hw) _ _ _ hw)
set_option maxRecDepth 100000 in
set_option maxHeartbeats 4000000 in
theorem t_X10_wouldGo_0 {f : Fx} {g : Gm}  {Post : Int32 → Mm → Prop}  {I : Mm} (hC : Cx f cX10_wouldGo 3 RX10 wsX10_wouldGo rm_X10_wouldGo) (hG : shM g) (hR : RtI f cX10_wouldGo (fun r u => u.1 = g ∧ Post r u.2)) (hw : wp_X10_wouldGo   I Post) : PW f 0 0 g I 0 [(0, .ref (gA g 100))] [] := by
  unfold wp_X10_wouldGo at hw
  refine r_aload_n hC dX10_wouldGo_0 rfl rfl (j := 0) rfl ?_
  refine r_getI hC dX10_wouldGo_1 rfl hG.o.1 hG.o.2 ffg_X10_wouldGo_141 ?_
  refine r_aload_n hC dX10_wouldGo_4 rfl rfl (j := 0) rfl ?_
  refine r_getI hC dX10_wouldGo_5 rfl hG.o.1 hG.o.2 ffg_X10_wouldGo_138 ?_
  refine r_icmp_ge hC (tgt := 14) dX10_wouldGo_8 rfl (by decide) hw (fun hw => ?_) (fun hw => ?_)
  · refine r_aload_n hC dX10_wouldGo_14 rfl rfl (j := 0) rfl ?_
    refine r_getR hC dX10_wouldGo_15 rfl hG.o.1 hG.o.2 ffg_X10_wouldGo_28 hG.a18.2 ?_
    refine r_iconst hC (v := (0 : Int32)) dX10_wouldGo_18 rfl (by decide) ?_
    obtain ⟨hi, hw⟩ := hw
    refine r_iald hC dX10_wouldGo_19 rfl (hG.a18.1).1 (hG.a18.1).2.1 (by rw [(hG.a18.1).2.2]; exact hi) ?_
    refine r_istore_n hC (lv' := [(1, .int (I 118 (0 : Int32).toNatClampNeg)), (0, .ref (gA g 100))]) dX10_wouldGo_20 rfl rfl (by decide) rfl ?_
    refine r_aload_n hC dX10_wouldGo_21 rfl rfl (j := 1) rfl ?_
    refine r_getI hC dX10_wouldGo_22 rfl hG.o.1 hG.o.2 ffg_X10_wouldGo_141 ?_
    refine r_iconst hC (v := (1 : Int32)) dX10_wouldGo_25 rfl (by decide) ?_
    refine r_isub hC dX10_wouldGo_26 rfl ?_
    refine r_istore_n hC (lv' := [(2, .int ((I 100 15) - (1 : Int32))), (1, .int (I 118 (0 : Int32).toNatClampNeg)), (0, .ref (gA g 100))]) dX10_wouldGo_27 rfl rfl (by decide) rfl ?_
    obtain ⟨nn28, hw⟩ := hw
    exact r_sub (lv' := [(0, .ref (gA g 100)), (1, .int (I 118 (0 : Int32).toNatClampNeg)), (2, .int ((I 100 15) - (1 : Int32)))]) [2, 1, 0] rfl ((t_X10_wouldGo_28 hC hG hR nn28 _ _ _ hw))
  · refine r_bipush hC (v := (-9 : Int32)) dX10_wouldGo_11 rfl (by decide) ?_
    exact r_retI hC hR ⟨rfl, rfl⟩ dX10_wouldGo_13 hw
set_option maxRecDepth 100000 in
theorem c_X10_wouldGo {l : Launch} {x : Gx} {g : Gm}   {I : Mm} {Post : Int32 → Mm → Prop} (hG : shM g) (hw : wp_X10_wouldGo   I Post) : KI l x yX10_wouldGo wsX10_wouldGo rm_X10_wouldGo g I [.ref (gA g 100)] (fun r u => u.1 = g ∧ Post r u.2) := KI_of (by decide) rfl rfl (Nat.le_of_ble_eq_true rfl) (fun f hC _ _ hR => t_X10_wouldGo_0 hC hG hR hw)

/-! X10_ofDesk -/
abbrev rm_X10_ofDesk : Room := { frames := 5, cells := 0, slots := 0, locals := 111 }
theorem ci_X10_ofDesk : CI yX10_ofDesk wsX10_ofDesk cX10_ofDesk 3 (some .int) 2 := ⟨⟨_, rfl⟩, by decide, by decide, by decide +kernel⟩
def wp_X10_ofDesk  (x1 : Int32) (x2 : Int32) (I : Mm) (Post : Int32 → Mm → Prop) : Prop := wp_X10_noDesk x1 I (fun r1 J2 => if r1 = 0 then (wp_X10_playsNow x1 J2 (fun J4 => if x2 = 0 then (vp_in x1 4 ∧ (Post (J4 104 x1.toNatClampNeg) J4)) else (if x2 = 1 then (vp_in x1 4 ∧ (Post (J4 105 x1.toNatClampNeg) J4)) else (if x2 = 2 then (wp_X10_playSet  J4 (fun r5 J6 => Post r5 J6)) else (if x2 = 3 then (Post (J4 100 17) J4) else (if x2 = 4 then (wp_X10_wouldGo  J4 (fun r7 J8 => Post r7 J8)) else (if x2 = 5 then (Post (J4 100 16) J4) else (Post (-2 : Int32) J4)))))))) else (Post (-1 : Int32) J2))
set_option maxRecDepth 20000 in
theorem uw_X10_ofDesk_10 : ∀ w ∈ u_ws RX10 TX10 30, w ∈ wsX10_ofDesk := by decide +kernel
set_option maxRecDepth 20000 in
theorem ffg_X10_ofDesk_7 : ∀ k ∈ ([10] : List Nat), FF wsX10_ofDesk RX10 7 k 4 ∧ fR k 4 = true := List.forall_mem_cons.mpr ⟨⟨⟨RX10, TX10, 30, "PageDesksModel", rfl, rfl, by decide, by decide, uw_X10_ofDesk_10, (List.mem_of_getElem? (i := 1) rfl), Or.inl rfl⟩, rfl⟩, fun _ h => absurd h List.not_mem_nil⟩
set_option maxRecDepth 20000 in
theorem ffg_X10_ofDesk_13 : ∀ k ∈ ([10] : List Nat), FF wsX10_ofDesk RX10 13 k 5 ∧ fR k 5 = true := List.forall_mem_cons.mpr ⟨⟨⟨RX10, TX10, 30, "PageDesksModel", rfl, rfl, by decide, by decide, uw_X10_ofDesk_10, (List.mem_of_getElem? (i := 2) rfl), Or.inl rfl⟩, rfl⟩, fun _ h => absurd h List.not_mem_nil⟩
set_option maxRecDepth 20000 in
theorem ffg_X10_ofDesk_147 : ∀ k ∈ ([10] : List Nat), FF wsX10_ofDesk RX10 147 k 17 ∧ fR k 17 = false := List.forall_mem_cons.mpr ⟨⟨⟨RX10, TX10, 30, "PageDesksModel", rfl, rfl, by decide, by decide, uw_X10_ofDesk_10, (List.mem_of_getElem? (i := 3) rfl), Or.inl rfl⟩, rfl⟩, fun _ h => absurd h List.not_mem_nil⟩
set_option maxRecDepth 20000 in
theorem ffg_X10_ofDesk_144 : ∀ k ∈ ([10] : List Nat), FF wsX10_ofDesk RX10 144 k 16 ∧ fR k 16 = false := List.forall_mem_cons.mpr ⟨⟨⟨RX10, TX10, 30, "PageDesksModel", rfl, rfl, by decide, by decide, uw_X10_ofDesk_10, (List.mem_of_getElem? (i := 4) rfl), Or.inl rfl⟩, rfl⟩, fun _ h => absurd h List.not_mem_nil⟩
set_option maxRecDepth 100000 in
set_option maxHeartbeats 4000000 in
theorem t_X10_ofDesk_0 {f : Fx} {g : Gm}  {Post : Int32 → Mm → Prop} {x1 : Int32} {x2 : Int32} {I : Mm} (hC : Cx f cX10_ofDesk 3 RX10 wsX10_ofDesk rm_X10_ofDesk) (hG : shM g) (hR : RtI f cX10_ofDesk (fun r u => u.1 = g ∧ Post r u.2)) (hw : wp_X10_ofDesk  x1 x2 I Post) : PW f 0 0 g I 0 [(0, .ref (gA g 100)), (1, .int x1), (2, .int x2)] [] := by
  unfold wp_X10_ofDesk at hw
  refine r_aload_n hC dX10_ofDesk_0 rfl rfl (j := 0) rfl ?_
  refine r_iload_n hC dX10_ofDesk_1 rfl rfl (j := 1) rfl ?_
  refine r_callI hC (a_V hC (k := 10) (c_X10_noDesk hG hw) ci_X10_noDesk gX10_ofDesk_X10_noDesk rfl ⟨Nat.le_of_ble_eq_true rfl, Nat.le_of_ble_eq_true rfl⟩ ⟨Nat.le_of_ble_eq_true rfl, Nat.le_of_ble_eq_true rfl⟩ rfl (by decide) hG.o.1 (List.mem_singleton.mp hG.o.2) rfl rfl (Nat.le_of_ble_eq_true rfl) dX10_ofDesk_2) ⟨rfl, rfl⟩ rfl (fun r1 J2 hw => ?_)
  refine r_if_eq hC (tgt := 10) dX10_ofDesk_5 rfl (by decide) hw (fun hw => ?_) (fun hw => ?_)
  · refine r_aload_n hC dX10_ofDesk_10 rfl rfl (j := 0) rfl ?_
    refine r_iload_n hC dX10_ofDesk_11 rfl rfl (j := 1) rfl ?_
    refine r_callV hC (a_V hC (k := 10) (c_X10_playsNow hG hw) ci_X10_playsNow gX10_ofDesk_X10_playsNow rfl ⟨Nat.le_of_ble_eq_true rfl, Nat.le_of_ble_eq_true rfl⟩ ⟨Nat.le_of_ble_eq_true rfl, Nat.le_of_ble_eq_true rfl⟩ rfl (by decide) hG.o.1 (List.mem_singleton.mp hG.o.2) rfl rfl (Nat.le_of_ble_eq_true rfl) dX10_ofDesk_12) ⟨rfl, rfl⟩ rfl (fun J4 hw => ?_)
    refine r_iload_n hC dX10_ofDesk_15 rfl rfl (j := 2) rfl ?_
    by_cases h0 : x2 = 0
    · rw [if_pos h0] at hw
      refine r_tabIn hC (tgt := 56) dX10_ofDesk_16 h0 0 (by decide) (by decide) (by decide) rfl (by decide) ?_
      refine r_aload_n hC dX10_ofDesk_56 rfl rfl (j := 0) rfl ?_
      refine r_getR hC dX10_ofDesk_57 rfl hG.o.1 hG.o.2 ffg_X10_ofDesk_7 hG.a4.2 ?_
      refine r_iload_n hC dX10_ofDesk_60 rfl rfl (j := 1) rfl ?_
      obtain ⟨hi, hw⟩ := hw
      refine r_iald hC dX10_ofDesk_61 rfl (hG.a4.1).1 (hG.a4.1).2.1 (by rw [(hG.a4.1).2.2]; exact hi) ?_
      exact r_retI hC hR ⟨rfl, rfl⟩ dX10_ofDesk_62 hw
    · rw [if_neg h0] at hw
      by_cases h1 : x2 = 1
      · rw [if_pos h1] at hw
        refine r_tabIn hC (tgt := 63) dX10_ofDesk_16 h1 1 (by decide) (by decide) (by decide) rfl (by decide) ?_
        refine r_aload_n hC dX10_ofDesk_63 rfl rfl (j := 0) rfl ?_
        refine r_getR hC dX10_ofDesk_64 rfl hG.o.1 hG.o.2 ffg_X10_ofDesk_13 hG.a5.2 ?_
        refine r_iload_n hC dX10_ofDesk_67 rfl rfl (j := 1) rfl ?_
        obtain ⟨hi, hw⟩ := hw
        refine r_iald hC dX10_ofDesk_68 rfl (hG.a5.1).1 (hG.a5.1).2.1 (by rw [(hG.a5.1).2.2]; exact hi) ?_
        exact r_retI hC hR ⟨rfl, rfl⟩ dX10_ofDesk_69 hw
      · rw [if_neg h1] at hw
        by_cases h2 : x2 = 2
        · rw [if_pos h2] at hw
          refine r_tabIn hC (tgt := 70) dX10_ofDesk_16 h2 2 (by decide) (by decide) (by decide) rfl (by decide) ?_
          refine r_aload_n hC dX10_ofDesk_70 rfl rfl (j := 0) rfl ?_
          refine r_callI hC (a_V hC (k := 10) (c_X10_playSet hG hw) ci_X10_playSet gX10_ofDesk_X10_playSet rfl ⟨Nat.le_of_ble_eq_true rfl, Nat.le_of_ble_eq_true rfl⟩ ⟨Nat.le_of_ble_eq_true rfl, Nat.le_of_ble_eq_true rfl⟩ rfl (by decide) hG.o.1 (List.mem_singleton.mp hG.o.2) rfl rfl (Nat.le_of_ble_eq_true rfl) dX10_ofDesk_71) ⟨rfl, rfl⟩ rfl (fun r5 J6 hw => ?_)
          exact r_retI hC hR ⟨rfl, rfl⟩ dX10_ofDesk_74 hw
        · rw [if_neg h2] at hw
          by_cases h3 : x2 = 3
          · rw [if_pos h3] at hw
            refine r_tabIn hC (tgt := 75) dX10_ofDesk_16 h3 3 (by decide) (by decide) (by decide) rfl (by decide) ?_
            refine r_aload_n hC dX10_ofDesk_75 rfl rfl (j := 0) rfl ?_
            refine r_getI hC dX10_ofDesk_76 rfl hG.o.1 hG.o.2 ffg_X10_ofDesk_147 ?_
            exact r_retI hC hR ⟨rfl, rfl⟩ dX10_ofDesk_79 hw
          · rw [if_neg h3] at hw
            by_cases h4 : x2 = 4
            · rw [if_pos h4] at hw
              refine r_tabIn hC (tgt := 80) dX10_ofDesk_16 h4 4 (by decide) (by decide) (by decide) rfl (by decide) ?_
              refine r_aload_n hC dX10_ofDesk_80 rfl rfl (j := 0) rfl ?_
              refine r_callI hC (a_V hC (k := 10) (c_X10_wouldGo hG hw) ci_X10_wouldGo gX10_ofDesk_X10_wouldGo rfl ⟨Nat.le_of_ble_eq_true rfl, Nat.le_of_ble_eq_true rfl⟩ ⟨Nat.le_of_ble_eq_true rfl, Nat.le_of_ble_eq_true rfl⟩ rfl (by decide) hG.o.1 (List.mem_singleton.mp hG.o.2) rfl rfl (Nat.le_of_ble_eq_true rfl) dX10_ofDesk_81) ⟨rfl, rfl⟩ rfl (fun r7 J8 hw => ?_)
              exact r_retI hC hR ⟨rfl, rfl⟩ dX10_ofDesk_84 hw
            · rw [if_neg h4] at hw
              by_cases h5 : x2 = 5
              · rw [if_pos h5] at hw
                refine r_tabIn hC (tgt := 85) dX10_ofDesk_16 h5 5 (by decide) (by decide) (by decide) rfl (by decide) ?_
                refine r_aload_n hC dX10_ofDesk_85 rfl rfl (j := 0) rfl ?_
                refine r_getI hC dX10_ofDesk_86 rfl hG.o.1 hG.o.2 ffg_X10_ofDesk_144 ?_
                exact r_retI hC hR ⟨rfl, rfl⟩ dX10_ofDesk_89 hw
              · rw [if_neg h5] at hw
                have e0 := lv_neT h0 (show (0 : Int32).toInt = 0 by decide)
                have e1 := lv_neT h1 (show (1 : Int32).toInt = 1 by decide)
                have e2 := lv_neT h2 (show (2 : Int32).toInt = 2 by decide)
                have e3 := lv_neT h3 (show (3 : Int32).toInt = 3 by decide)
                have e4 := lv_neT h4 (show (4 : Int32).toInt = 4 by decide)
                have e5 := lv_neT h5 (show (5 : Int32).toInt = 5 by decide)
                refine r_tabOut hC (tgt := 90) dX10_ofDesk_16 (by omega) (by decide) ?_
                refine r_bipush hC (v := (-2 : Int32)) dX10_ofDesk_90 rfl (by decide) ?_
                exact r_retI hC hR ⟨rfl, rfl⟩ dX10_ofDesk_92 hw
  · refine r_iconst hC (v := (-1 : Int32)) dX10_ofDesk_8 rfl (by decide) ?_
    exact r_retI hC hR ⟨rfl, rfl⟩ dX10_ofDesk_9 hw
set_option maxRecDepth 100000 in
theorem c_X10_ofDesk {l : Launch} {x : Gx} {g : Gm}  {x1 : Int32} {x2 : Int32} {I : Mm} {Post : Int32 → Mm → Prop} (hG : shM g) (hw : wp_X10_ofDesk  x1 x2 I Post) : KI l x yX10_ofDesk wsX10_ofDesk rm_X10_ofDesk g I [.ref (gA g 100), .int x1, .int x2] (fun r u => u.1 = g ∧ Post r u.2) := KI_of (by decide) rfl rfl (Nat.le_of_ble_eq_true rfl) (fun f hC _ _ hR => t_X10_ofDesk_0 hC hG hR hw)
