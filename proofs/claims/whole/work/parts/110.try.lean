/-! X3_placeOf -/
abbrev rm_X3_placeOf : Room := { frames := 0, cells := 0, slots := 0, locals := 0 }
theorem ci_X3_placeOf : CI yX3_placeOf wsX3_placeOf cX3_placeOf 3 (some .int) 1 := ⟨⟨_, rfl⟩, by decide, by decide, by decide +kernel⟩
def wp_X3_placeOf_2 (ki : Nat → Nat) (d : Nat)  (Post : Int32 → Mm → Prop) : Nat → Int32 → Int32 → Mm → Prop
  | 0, _, _, _ => False
  | nn + 1, x1, x2, I => if (I d 2) ≤ x2 then (Post (-9 : Int32) I) else (vp_in x2 8 ∧ (if (I (d + 20) x2.toNatClampNeg) = x1 then (Post x2 I) else (wp_X3_placeOf_2 ki d Post nn x1 (x2 + 1) I)))
def wp_X3_placeOf (ki : Nat → Nat) (d : Nat) (x1 : Int32) (I : Mm) (Post : Int32 → Mm → Prop) : Prop := ∃ nn, wp_X3_placeOf_2 ki d Post nn x1 (0 : Int32) I
set_option maxRecDepth 20000 in
theorem uw_X3_placeOf_0 : ∀ w ∈ u_ws RX0 TX0 5, w ∈ wsX3_placeOf := by decide +kernel
set_option maxRecDepth 20000 in
theorem uw_X3_placeOf_3 : ∀ w ∈ u_ws RX3 TX3 5, w ∈ wsX3_placeOf := by decide +kernel
set_option maxRecDepth 20000 in
theorem uw_X3_placeOf_5 : ∀ w ∈ u_ws RX5 TX5 5, w ∈ wsX3_placeOf := by decide +kernel
set_option maxRecDepth 20000 in
theorem ffg_X3_placeOf_19 : ∀ k ∈ ([0, 3, 5] : List Nat), FF wsX3_placeOf RX3 19 k 2 ∧ fR k 2 = false := List.forall_mem_cons.mpr ⟨⟨⟨RX0, TX0, 5, "PageDesks$Queue", rfl, rfl, by decide, by decide, uw_X3_placeOf_0, (List.mem_of_getElem? (i := 1) rfl), Or.inl rfl⟩, rfl⟩, List.forall_mem_cons.mpr ⟨⟨⟨RX3, TX3, 5, "PageDesks$Queue", rfl, rfl, by decide, by decide, uw_X3_placeOf_3, (List.mem_of_getElem? (i := 1) rfl), Or.inl rfl⟩, rfl⟩, List.forall_mem_cons.mpr ⟨⟨⟨RX5, TX5, 5, "PageDesks$Queue", rfl, rfl, by decide, by decide, uw_X3_placeOf_5, (List.mem_of_getElem? (i := 1) rfl), Or.inl rfl⟩, rfl⟩, fun _ h => absurd h List.not_mem_nil⟩⟩⟩
set_option maxRecDepth 20000 in
theorem ffg_X3_placeOf_9 : ∀ k ∈ ([0, 3, 5] : List Nat), FF wsX3_placeOf RX3 9 k 0 ∧ fR k 0 = true := List.forall_mem_cons.mpr ⟨⟨⟨RX0, TX0, 5, "PageDesks$Queue", rfl, rfl, by decide, by decide, uw_X3_placeOf_0, (List.mem_of_getElem? (i := 2) rfl), Or.inl rfl⟩, rfl⟩, List.forall_mem_cons.mpr ⟨⟨⟨RX3, TX3, 5, "PageDesks$Queue", rfl, rfl, by decide, by decide, uw_X3_placeOf_3, (List.mem_of_getElem? (i := 2) rfl), Or.inl rfl⟩, rfl⟩, List.forall_mem_cons.mpr ⟨⟨⟨RX5, TX5, 5, "PageDesks$Queue", rfl, rfl, by decide, by decide, uw_X3_placeOf_5, (List.mem_of_getElem? (i := 2) rfl), Or.inl rfl⟩, rfl⟩, fun _ h => absurd h List.not_mem_nil⟩⟩⟩
set_option maxRecDepth 100000 in
set_option maxHeartbeats 4000000 in
theorem t_X3_placeOf_2 {f : Fx} {g : Gm} {d : Nat} {Post : Int32 → Mm → Prop}  (hC : Cx f cX3_placeOf 3 RX3 wsX3_placeOf rm_X3_placeOf) (hd : shD g [0, 3, 5] d) (hR : RtI f cX3_placeOf (fun r u => u.1 = g ∧ Post r u.2))  : ∀ (nn : Nat) (x1 : Int32) (x2 : Int32) (I : Mm) , wp_X3_placeOf_2 (gK g) d  Post nn x1 x2 I → PW f 0 0 g I 2 [(0, .ref (gA g d)), (1, .int x1), (2, .int x2)] [] := by
  intro nn
  induction nn with
  | zero =>
    intro x1 x2 I  hw
    exact absurd hw id
  | succ nn ih =>
    intro x1 x2 I  hw
    unfold wp_X3_placeOf_2 at hw
    refine r_iload_n hC dX3_placeOf_2 rfl rfl (j := 2) rfl ?_
    refine r_aload_n hC dX3_placeOf_3 rfl rfl (j := 0) rfl ?_
    refine r_getI hC dX3_placeOf_4 rfl (hd).1.1 (hd).1.2 ffg_X3_placeOf_19 ?_
    refine r_icmp_ge hC (tgt := 28) dX3_placeOf_7 rfl (by decide) hw (fun hw => ?_) (fun hw => ?_)
    · refine r_bipush hC (v := (-9 : Int32)) dX3_placeOf_28 rfl (by decide) ?_
      exact r_retI hC hR ⟨rfl, rfl⟩ dX3_placeOf_30 hw
    · refine r_aload_n hC dX3_placeOf_10 rfl rfl (j := 0) rfl ?_
      refine r_getR hC dX3_placeOf_11 rfl (hd).1.1 (hd).1.2 ffg_X3_placeOf_9 (hd).2.2 ?_
      refine r_iload_n hC dX3_placeOf_14 rfl rfl (j := 2) rfl ?_
      obtain ⟨hi, hw⟩ := hw
      refine r_iald hC dX3_placeOf_15 rfl ((hd).2.1).1 ((hd).2.1).2.1 (by rw [((hd).2.1).2.2]; exact hi) ?_
      refine r_iload_n hC dX3_placeOf_16 rfl rfl (j := 1) rfl ?_
      refine r_icmp_ne hC (tgt := 22) dX3_placeOf_17 rfl (by decide) hw (fun hw => ?_) (fun hw => ?_)
      · refine r_iinc hC (k := 1) (lv' := [(2, .int (x2 + 1)), (0, .ref (gA g d)), (1, .int x1)]) dX3_placeOf_22 rfl (j := 2) rfl (by decide) (by decide) rfl ?_
        refine r_goto hC (tgt := 2) dX3_placeOf_25 (by decide) ?_
        exact r_sub (lv' := [(0, .ref (gA g d)), (1, .int x1), (2, .int (x2 + 1))]) [1, 2, 0] rfl (ih _ _ _ hw)
      · refine r_iload_n hC dX3_placeOf_20 rfl rfl (j := 2) rfl ?_
        exact r_retI hC hR ⟨rfl, rfl⟩ dX3_placeOf_21 hw
set_option maxRecDepth 100000 in
set_option maxHeartbeats 4000000 in
theorem t_X3_placeOf_0 {f : Fx} {g : Gm} {d : Nat} {Post : Int32 → Mm → Prop} {x1 : Int32} {I : Mm} (hC : Cx f cX3_placeOf 3 RX3 wsX3_placeOf rm_X3_placeOf) (hd : shD g [0, 3, 5] d) (hR : RtI f cX3_placeOf (fun r u => u.1 = g ∧ Post r u.2)) (hw : wp_X3_placeOf (gK g) d x1 I Post) : PW f 0 0 g I 0 [(0, .ref (gA g d)), (1, .int x1)] [] := by
  unfold wp_X3_placeOf at hw
  refine r_iconst hC (v := (0 : Int32)) dX3_placeOf_0 rfl (by decide) ?_
  refine r_istore_n hC (lv' := [(2, .int (0 : Int32)), (0, .ref (gA g d)), (1, .int x1)]) dX3_placeOf_1 rfl rfl (by decide) rfl ?_
  obtain ⟨nn, hw⟩ := hw
  exact r_sub (lv' := [(0, .ref (gA g d)), (1, .int x1), (2, .int (0 : Int32))]) [1, 2, 0] rfl ((t_X3_placeOf_2 hC hd hR nn _ _ _ hw))
set_option maxRecDepth 100000 in
theorem c_X3_placeOf {l : Launch} {x : Gx} {g : Gm} {d : Nat} {x1 : Int32} {I : Mm} {Post : Int32 → Mm → Prop} (hd : shD g [0, 3, 5] d) (hw : wp_X3_placeOf (gK g) d x1 I Post) : KI l x yX3_placeOf wsX3_placeOf rm_X3_placeOf g I [.ref (gA g d), .int x1] (fun r u => u.1 = g ∧ Post r u.2) := KI_of (by decide) rfl rfl (Nat.le_of_ble_eq_true rfl) (fun f hC _ _ hR => t_X3_placeOf_0 hC hd hR hw)
