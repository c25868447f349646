/-! X0_kind -/
abbrev rm_X0_kind : Room := { frames := 0, cells := 0, slots := 0, locals := 0 }
theorem ci_X0_kind : CI yX0_kind wsX0_kind cX0_kind 1 (some .int) 0 := ⟨⟨_, rfl⟩, by decide, by decide, by decide +kernel⟩
def wp_X0_kind (ki : Nat → Nat) (d : Nat)  (I : Mm) (Post : Int32 → Mm → Prop) : Prop := Post (1 : Int32) I

set_option maxRecDepth 100000 in
set_option maxHeartbeats 4000000 in
theorem t_X0_kind_0 {f : Fx} {g : Gm} {d : Nat} {Post : Int32 → Mm → Prop}  {I : Mm} (hC : Cx f cX0_kind 1 RX0 wsX0_kind rm_X0_kind) (hd : shD g [0, 5] d) (hR : RtI f cX0_kind (fun r u => u.1 = g ∧ Post r u.2)) (hw : wp_X0_kind (gK g) d  I Post) : PW f 0 0 g I 0 [(0, .ref (gA g d))] [] := by
  unfold wp_X0_kind at hw
  refine r_iconst hC (v := (1 : Int32)) dX0_kind_0 rfl (by decide) ?_
  exact r_retI hC hR ⟨rfl, rfl⟩ dX0_kind_1 hw
set_option maxRecDepth 100000 in
theorem c_X0_kind {l : Launch} {x : Gx} {g : Gm} {d : Nat}  {I : Mm} {Post : Int32 → Mm → Prop} (hd : shD g [0, 5] d) (hw : wp_X0_kind (gK g) d  I Post) : KI l x yX0_kind wsX0_kind rm_X0_kind g I [.ref (gA g d)] (fun r u => u.1 = g ∧ Post r u.2) := KI_of (by decide) rfl rfl (Nat.le_of_ble_eq_true rfl) (fun f hC _ _ hR => t_X0_kind_0 hC hd hR hw)

/-! X0_use -/
abbrev rm_X0_use : Room := { frames := 0, cells := 0, slots := 0, locals := 0 }
theorem ci_X0_use : CI yX0_use wsX0_use cX0_use 2 none 1 := ⟨⟨_, rfl⟩, by decide, by decide, by decide +kernel⟩
def wp_X0_use (ki : Nat → Nat) (d : Nat) (x1 : Int32) (I : Mm) (Post : Mm → Prop) : Prop := vp_in x1 8 ∧ (Post (up2 I d 3 ((I d 3) ||| ((1 : Int32) <<< ((I (d + 20) x1.toNatClampNeg) &&& 31)))))
set_option maxRecDepth 20000 in
theorem uw_X0_use_0 : ∀ w ∈ u_ws RX0 TX0 5, w ∈ wsX0_use := by decide +kernel
set_option maxRecDepth 20000 in
theorem uw_X0_use_5 : ∀ w ∈ u_ws RX5 TX5 5, w ∈ wsX0_use := by decide +kernel
set_option maxRecDepth 20000 in
theorem ffg_X0_use_9 : ∀ k ∈ ([0, 5] : List Nat), FF wsX0_use RX0 9 k 3 ∧ fR k 3 = false := List.forall_mem_cons.mpr ⟨⟨⟨RX0, TX0, 5, "PageDesks$Chance", rfl, rfl, by decide, by decide, uw_X0_use_0, (List.mem_of_getElem? (i := 1) rfl), Or.inr (List.mem_of_getElem? (i := 2) rfl)⟩, rfl⟩, List.forall_mem_cons.mpr ⟨⟨⟨RX5, TX5, 5, "PageDesks$Chance", rfl, rfl, by decide, by decide, uw_X0_use_5, (List.mem_of_getElem? (i := 1) rfl), Or.inr (List.mem_of_getElem? (i := 2) rfl)⟩, rfl⟩, fun _ h => absurd h List.not_mem_nil⟩⟩
set_option maxRecDepth 20000 in
theorem ffg_X0_use_15 : ∀ k ∈ ([0, 5] : List Nat), FF wsX0_use RX0 15 k 0 ∧ fR k 0 = true := List.forall_mem_cons.mpr ⟨⟨⟨RX0, TX0, 5, "PageDesks$Chance", rfl, rfl, by decide, by decide, uw_X0_use_0, (List.mem_of_getElem? (i := 3) rfl), Or.inr (List.mem_of_getElem? (i := 4) rfl)⟩, rfl⟩, List.forall_mem_cons.mpr ⟨⟨⟨RX5, TX5, 5, "PageDesks$Chance", rfl, rfl, by decide, by decide, uw_X0_use_5, (List.mem_of_getElem? (i := 3) rfl), Or.inr (List.mem_of_getElem? (i := 4) rfl)⟩, rfl⟩, fun _ h => absurd h List.not_mem_nil⟩⟩
set_option maxRecDepth 20000 in
theorem ffp_X0_use_9 : ∀ k ∈ ([0, 5] : List Nat), FF wsX0_use RX0 9 k 3 ∧ fR k 3 = false ∧ FP k 3 := List.forall_mem_cons.mpr ⟨⟨⟨RX0, TX0, 5, "PageDesks$Chance", rfl, rfl, by decide, by decide, uw_X0_use_0, (List.mem_of_getElem? (i := 1) rfl), Or.inr (List.mem_of_getElem? (i := 2) rfl)⟩, rfl, ⟨RX0, TX0, 5, tyX0, rfl, tyX0_ok, nmX0, rfl, rfl⟩⟩, List.forall_mem_cons.mpr ⟨⟨⟨RX5, TX5, 5, "PageDesks$Chance", rfl, rfl, by decide, by decide, uw_X0_use_5, (List.mem_of_getElem? (i := 1) rfl), Or.inr (List.mem_of_getElem? (i := 2) rfl)⟩, rfl, ⟨RX5, TX5, 5, tyX5, rfl, tyX5_ok, nmX5, rfl, rfl⟩⟩, fun _ h => absurd h List.not_mem_nil⟩⟩
set_option maxRecDepth 100000 in
set_option maxHeartbeats 4000000 in
theorem t_X0_use_0 {f : Fx} {g : Gm} {d : Nat} {Post : Mm → Prop} {x1 : Int32} {I : Mm} (hC : Cx f cX0_use 2 RX0 wsX0_use rm_X0_use) (hd : shD g [0, 5] d) (hR : RtV f cX0_use (fun u => u.1 = g ∧ Post u.2)) (hw : wp_X0_use (gK g) d x1 I Post) : PW f 0 0 g I 0 [(0, .ref (gA g d)), (1, .int x1)] [] := by
  unfold wp_X0_use at hw
  refine r_aload_n hC dX0_use_0 rfl rfl (j := 0) rfl ?_
  refine r_dup hC dX0_use_1 rfl rfl ?_
  refine r_getI hC dX0_use_2 rfl (hd).1.1 (hd).1.2 ffg_X0_use_9 ?_
  refine r_iconst hC (v := (1 : Int32)) dX0_use_5 rfl (by decide) ?_
  refine r_aload_n hC dX0_use_6 rfl rfl (j := 0) rfl ?_
  refine r_getR hC dX0_use_7 rfl (hd).1.1 (hd).1.2 ffg_X0_use_15 (hd).2.2 ?_
  refine r_iload_n hC dX0_use_10 rfl rfl (j := 1) rfl ?_
  obtain ⟨hi, hw⟩ := hw
  refine r_iald hC dX0_use_11 rfl ((hd).2.1).1 ((hd).2.1).2.1 (by rw [((hd).2.1).2.2]; exact hi) ?_
  refine r_ishl hC dX0_use_12 rfl ?_
  refine r_ior hC dX0_use_13 rfl ?_
  refine r_putI hC dX0_use_14 rfl (hd).1.1 (hd).1.2 ffp_X0_use_9 ?_
  exact r_retV hC hR ⟨rfl, rfl⟩ dX0_use_17 hw
set_option maxRecDepth 100000 in
theorem c_X0_use {l : Launch} {x : Gx} {g : Gm} {d : Nat} {x1 : Int32} {I : Mm} {Post : Mm → Prop} (hd : shD g [0, 5] d) (hw : wp_X0_use (gK g) d x1 I Post) : KV l x yX0_use wsX0_use rm_X0_use g I [.ref (gA g d), .int x1] (fun u => u.1 = g ∧ Post u.2) := KV_of (by decide) rfl rfl (Nat.le_of_ble_eq_true rfl) (fun f hC _ _ hR => t_X0_use_0 hC hd hR hw)

/-! X3_isUsed -/
abbrev rm_X3_isUsed : Room := { frames := 0, cells := 0, slots := 0, locals := 0 }
theorem ci_X3_isUsed : CI yX3_isUsed wsX3_isUsed cX3_isUsed 2 (some .boolean) 1 := ⟨⟨_, rfl⟩, by decide, by decide, by decide +kernel⟩
def wp_X3_isUsed (ki : Nat → Nat) (d : Nat) (x1 : Int32) (I : Mm) (Post : Int32 → Mm → Prop) : Prop := vp_in x1 8 ∧ (if (((I d 3) >>> ((I (d + 20) x1.toNatClampNeg) &&& 31)) &&& (1 : Int32)) = (1 : Int32) then (Post (1 : Int32) I) else (Post (0 : Int32) I))
set_option maxRecDepth 20000 in
theorem uw_X3_isUsed_0 : ∀ w ∈ u_ws RX0 TX0 5, w ∈ wsX3_isUsed := by decide +kernel
set_option maxRecDepth 20000 in
theorem uw_X3_isUsed_3 : ∀ w ∈ u_ws RX3 TX3 5, w ∈ wsX3_isUsed := by decide +kernel
set_option maxRecDepth 20000 in
theorem uw_X3_isUsed_5 : ∀ w ∈ u_ws RX5 TX5 5, w ∈ wsX3_isUsed := by decide +kernel
set_option maxRecDepth 20000 in
theorem ffg_X3_isUsed_22 : ∀ k ∈ ([0, 3, 5] : List Nat), FF wsX3_isUsed RX3 22 k 3 ∧ fR k 3 = false := List.forall_mem_cons.mpr ⟨⟨⟨RX0, TX0, 5, "PageDesks$Queue", rfl, rfl, by decide, by decide, uw_X3_isUsed_0, (List.mem_of_getElem? (i := 1) rfl), Or.inl rfl⟩, rfl⟩, List.forall_mem_cons.mpr ⟨⟨⟨RX3, TX3, 5, "PageDesks$Queue", rfl, rfl, by decide, by decide, uw_X3_isUsed_3, (List.mem_of_getElem? (i := 1) rfl), Or.inl rfl⟩, rfl⟩, List.forall_mem_cons.mpr ⟨⟨⟨RX5, TX5, 5, "PageDesks$Queue", rfl, rfl, by decide, by decide, uw_X3_isUsed_5, (List.mem_of_getElem? (i := 1) rfl), Or.inl rfl⟩, rfl⟩, fun _ h => absurd h List.not_mem_nil⟩⟩⟩
set_option maxRecDepth 20000 in
theorem ffg_X3_isUsed_9 : ∀ k ∈ ([0, 3, 5] : List Nat), FF wsX3_isUsed RX3 9 k 0 ∧ fR k 0 = true := List.forall_mem_cons.mpr ⟨⟨⟨RX0, TX0, 5, "PageDesks$Queue", rfl, rfl, by decide, by decide, uw_X3_isUsed_0, (List.mem_of_getElem? (i := 2) rfl), Or.inl rfl⟩, rfl⟩, List.forall_mem_cons.mpr ⟨⟨⟨RX3, TX3, 5, "PageDesks$Queue", rfl, rfl, by decide, by decide, uw_X3_isUsed_3, (List.mem_of_getElem? (i := 2) rfl), Or.inl rfl⟩, rfl⟩, List.forall_mem_cons.mpr ⟨⟨⟨RX5, TX5, 5, "PageDesks$Queue", rfl, rfl, by decide, by decide, uw_X3_isUsed_5, (List.mem_of_getElem? (i := 2) rfl), Or.inl rfl⟩, rfl⟩, fun _ h => absurd h List.not_mem_nil⟩⟩⟩
set_option maxRecDepth 100000 in
set_option maxHeartbeats 4000000 in
theorem t_X3_isUsed_0 {f : Fx} {g : Gm} {d : Nat} {Post : Int32 → Mm → Prop} {x1 : Int32} {I : Mm} (hC : Cx f cX3_isUsed 2 RX3 wsX3_isUsed rm_X3_isUsed) (hd : shD g [0, 3, 5] d) (hR : RtZ f cX3_isUsed (fun r u => u.1 = g ∧ Post r u.2)) (hw : wp_X3_isUsed (gK g) d x1 I Post) : PW f 0 0 g I 0 [(0, .ref (gA g d)), (1, .int x1)] [] := by
  unfold wp_X3_isUsed at hw
  refine r_aload_n hC dX3_isUsed_0 rfl rfl (j := 0) rfl ?_
  refine r_getI hC dX3_isUsed_1 rfl (hd).1.1 (hd).1.2 ffg_X3_isUsed_22 ?_
  refine r_aload_n hC dX3_isUsed_4 rfl rfl (j := 0) rfl ?_
  refine r_getR hC dX3_isUsed_5 rfl (hd).1.1 (hd).1.2 ffg_X3_isUsed_9 (hd).2.2 ?_
  refine r_iload_n hC dX3_isUsed_8 rfl rfl (j := 1) rfl ?_
  obtain ⟨hi, hw⟩ := hw
  refine r_iald hC dX3_isUsed_9 rfl ((hd).2.1).1 ((hd).2.1).2.1 (by rw [((hd).2.1).2.2]; exact hi) ?_
  refine r_ishr hC dX3_isUsed_10 rfl ?_
  refine r_iconst hC (v := (1 : Int32)) dX3_isUsed_11 rfl (by decide) ?_
  refine r_iand hC dX3_isUsed_12 rfl ?_
  refine r_iconst hC (v := (1 : Int32)) dX3_isUsed_13 rfl (by decide) ?_
  refine r_icmp_ne hC (tgt := 21) dX3_isUsed_14 rfl (by decide) hw (fun hw => ?_) (fun hw => ?_)
  · refine r_iconst hC (v := (0 : Int32)) dX3_isUsed_21 rfl (by decide) ?_
    exact r_retZ hC hR ⟨rfl, rfl⟩ dX3_isUsed_22 (by decide) hw
  · refine r_iconst hC (v := (1 : Int32)) dX3_isUsed_17 rfl (by decide) ?_
    refine r_goto hC (tgt := 22) dX3_isUsed_18 (by decide) ?_
    exact r_retZ hC hR ⟨rfl, rfl⟩ dX3_isUsed_22 (by decide) hw
set_option maxRecDepth 100000 in
theorem c_X3_isUsed {l : Launch} {x : Gx} {g : Gm} {d : Nat} {x1 : Int32} {I : Mm} {Post : Int32 → Mm → Prop} (hd : shD g [0, 3, 5] d) (hw : wp_X3_isUsed (gK g) d x1 I Post) : KI l x yX3_isUsed wsX3_isUsed rm_X3_isUsed g I [.ref (gA g d), .int x1] (fun r u => u.1 = g ∧ Post r u.2) := KZ_of (by decide) rfl rfl (Nat.le_of_ble_eq_true rfl) (fun f hC _ _ hR => t_X3_isUsed_0 hC hd hR hw)

/-! X3_lieBehindAll -/
abbrev rm_X3_lieBehindAll : Room := { frames := 0, cells := 0, slots := 0, locals := 0 }
theorem ci_X3_lieBehindAll : CI yX3_lieBehindAll wsX3_lieBehindAll cX3_lieBehindAll 4 none 1 := ⟨⟨_, rfl⟩, by decide, by decide, by decide +kernel⟩
def wp_X3_lieBehindAll_9 (ki : Nat → Nat) (d : Nat)  (Post : Mm → Prop) : Nat → Int32 → Int32 → Mm → Prop
  | 0, _, _, _ => False
  | nn9 + 1, x2, x3, I => if ((I d 2) - (1 : Int32)) ≤ x3 then (vp_in ((I d 2) - (1 : Int32)) 8 ∧ (Post (up2 I (d + 20) ((I d 2) - (1 : Int32)).toNatClampNeg x2))) else (vp_in (x3 + (1 : Int32)) 8 ∧ (vp_in x3 8 ∧ (wp_X3_lieBehindAll_9 ki d Post nn9 x2 (x3 + 1) (up2 I (d + 20) x3.toNatClampNeg (I (d + 20) (x3 + (1 : Int32)).toNatClampNeg)))))
def wp_X3_lieBehindAll (ki : Nat → Nat) (d : Nat) (x1 : Int32) (I : Mm) (Post : Mm → Prop) : Prop := vp_in x1 8 ∧ (∃ nn9, wp_X3_lieBehindAll_9 ki d Post nn9 (I (d + 20) x1.toNatClampNeg) x1 I)
set_option maxRecDepth 20000 in
theorem uw_X3_lieBehindAll_0 : ∀ w ∈ u_ws RX0 TX0 5, w ∈ wsX3_lieBehindAll := by decide +kernel
set_option maxRecDepth 20000 in
theorem uw_X3_lieBehindAll_3 : ∀ w ∈ u_ws RX3 TX3 5, w ∈ wsX3_lieBehindAll := by decide +kernel
set_option maxRecDepth 20000 in
theorem uw_X3_lieBehindAll_5 : ∀ w ∈ u_ws RX5 TX5 5, w ∈ wsX3_lieBehindAll := by decide +kernel
set_option maxRecDepth 20000 in
theorem ffg_X3_lieBehindAll_9 : ∀ k ∈ ([0, 3, 5] : List Nat), FF wsX3_lieBehindAll RX3 9 k 0 ∧ fR k 0 = true := List.forall_mem_cons.mpr ⟨⟨⟨RX0, TX0, 5, "PageDesks$Queue", rfl, rfl, by decide, by decide, uw_X3_lieBehindAll_0, (List.mem_of_getElem? (i := 1) rfl), Or.inl rfl⟩, rfl⟩, List.forall_mem_cons.mpr ⟨⟨⟨RX3, TX3, 5, "PageDesks$Queue", rfl, rfl, by decide, by decide, uw_X3_lieBehindAll_3, (List.mem_of_getElem? (i := 1) rfl), Or.inl rfl⟩, rfl⟩, List.forall_mem_cons.mpr ⟨⟨⟨RX5, TX5, 5, "PageDesks$Queue", rfl, rfl, by decide, by decide, uw_X3_lieBehindAll_5, (List.mem_of_getElem? (i := 1) rfl), Or.inl rfl⟩, rfl⟩, fun _ h => absurd h List.not_mem_nil⟩⟩⟩
set_option maxRecDepth 20000 in
theorem ffg_X3_lieBehindAll_19 : ∀ k ∈ ([0, 3, 5] : List Nat), FF wsX3_lieBehindAll RX3 19 k 2 ∧ fR k 2 = false := List.forall_mem_cons.mpr ⟨⟨⟨RX0, TX0, 5, "PageDesks$Queue", rfl, rfl, by decide, by decide, uw_X3_lieBehindAll_0, (List.mem_of_getElem? (i := 2) rfl), Or.inl rfl⟩, rfl⟩, List.forall_mem_cons.mpr ⟨⟨⟨RX3, TX3, 5, "PageDesks$Queue", rfl, rfl, by decide, by decide, uw_X3_lieBehindAll_3, (List.mem_of_getElem? (i := 2) rfl), Or.inl rfl⟩, rfl⟩, List.forall_mem_cons.mpr ⟨⟨⟨RX5, TX5, 5, "PageDesks$Queue", rfl, rfl, by decide, by decide, uw_X3_lieBehindAll_5, (List.mem_of_getElem? (i := 2) rfl), Or.inl rfl⟩, rfl⟩, fun _ h => absurd h List.not_mem_nil⟩⟩⟩
set_option maxRecDepth 100000 in
set_option maxHeartbeats 4000000 in
theorem t_X3_lieBehindAll_9 {f : Fx} {g : Gm} {d : Nat} {Post : Mm → Prop}  (hC : Cx f cX3_lieBehindAll 4 RX3 wsX3_lieBehindAll rm_X3_lieBehindAll) (hd : shD g [0, 3, 5] d) (hR : RtV f cX3_lieBehindAll (fun u => u.1 = g ∧ Post u.2))  : ∀ (nn9 : Nat) (x2 : Int32) (x3 : Int32) (I : Mm) , wp_X3_lieBehindAll_9 (gK g) d  Post nn9 x2 x3 I → PW f 0 0 g I 9 [(0, .ref (gA g d)), (2, .int x2), (3, .int x3)] [] := by
  intro nn9
  induction nn9 with
  | zero =>
    intro x2 x3 I  hw
    exact absurd hw id
  | succ nn9 ih =>
    intro x2 x3 I  hw
    unfold wp_X3_lieBehindAll_9 at hw
    refine r_iload_n hC dX3_lieBehindAll_9 rfl rfl (j := 2) rfl ?_
    refine r_aload_n hC dX3_lieBehindAll_10 rfl rfl (j := 0) rfl ?_
    refine r_getI hC dX3_lieBehindAll_11 rfl (hd).1.1 (hd).1.2 ffg_X3_lieBehindAll_19 ?_
    refine r_iconst hC (v := (1 : Int32)) dX3_lieBehindAll_14 rfl (by decide) ?_
    refine r_isub hC dX3_lieBehindAll_15 rfl ?_
    refine r_icmp_ge hC (tgt := 39) dX3_lieBehindAll_16 rfl (by decide) hw (fun hw => ?_) (fun hw => ?_)
    · refine r_aload_n hC dX3_lieBehindAll_39 rfl rfl (j := 0) rfl ?_
      refine r_getR hC dX3_lieBehindAll_40 rfl (hd).1.1 (hd).1.2 ffg_X3_lieBehindAll_9 (hd).2.2 ?_
      refine r_aload_n hC dX3_lieBehindAll_43 rfl rfl (j := 0) rfl ?_
      refine r_getI hC dX3_lieBehindAll_44 rfl (hd).1.1 (hd).1.2 ffg_X3_lieBehindAll_19 ?_
      refine r_iconst hC (v := (1 : Int32)) dX3_lieBehindAll_47 rfl (by decide) ?_
      refine r_isub hC dX3_lieBehindAll_48 rfl ?_
      refine r_iload_n hC dX3_lieBehindAll_49 rfl rfl (j := 1) rfl ?_
      obtain ⟨hi, hw⟩ := hw
      refine r_iast hC dX3_lieBehindAll_50 rfl ((hd).2.1).1 ((hd).2.1).2.1 (by rw [((hd).2.1).2.2]; exact hi) ?_
      exact r_retV hC hR ⟨rfl, rfl⟩ dX3_lieBehindAll_51 hw
    · refine r_aload_n hC dX3_lieBehindAll_19 rfl rfl (j := 0) rfl ?_
      refine r_getR hC dX3_lieBehindAll_20 rfl (hd).1.1 (hd).1.2 ffg_X3_lieBehindAll_9 (hd).2.2 ?_
      refine r_iload_n hC dX3_lieBehindAll_23 rfl rfl (j := 2) rfl ?_
      refine r_aload_n hC dX3_lieBehindAll_24 rfl rfl (j := 0) rfl ?_
      refine r_getR hC dX3_lieBehindAll_25 rfl (hd).1.1 (hd).1.2 ffg_X3_lieBehindAll_9 (hd).2.2 ?_
      refine r_iload_n hC dX3_lieBehindAll_28 rfl rfl (j := 2) rfl ?_
      refine r_iconst hC (v := (1 : Int32)) dX3_lieBehindAll_29 rfl (by decide) ?_
      refine r_iadd hC dX3_lieBehindAll_30 rfl ?_
      obtain ⟨hi, hw⟩ := hw
      refine r_iald hC dX3_lieBehindAll_31 rfl ((hd).2.1).1 ((hd).2.1).2.1 (by rw [((hd).2.1).2.2]; exact hi) ?_
      obtain ⟨hi, hw⟩ := hw
      refine r_iast hC dX3_lieBehindAll_32 rfl ((hd).2.1).1 ((hd).2.1).2.1 (by rw [((hd).2.1).2.2]; exact hi) ?_
      refine r_iinc hC (k := 1) (lv' := [(3, .int (x3 + 1)), (0, .ref (gA g d)), (2, .int x2)]) dX3_lieBehindAll_33 rfl (j := 2) rfl (by decide) (by decide) rfl ?_
      refine r_goto hC (tgt := 9) dX3_lieBehindAll_36 (by decide) ?_
      exact r_sub (lv' := [(0, .ref (gA g d)), (2, .int x2), (3, .int (x3 + 1))]) [1, 2, 0] rfl (ih _ _ _ hw)
set_option maxRecDepth 100000 in
set_option maxHeartbeats 4000000 in
theorem t_X3_lieBehindAll_0 {f : Fx} {g : Gm} {d : Nat} {Post : Mm → Prop} {x1 : Int32} {I : Mm} (hC : Cx f cX3_lieBehindAll 4 RX3 wsX3_lieBehindAll rm_X3_lieBehindAll) (hd : shD g [0, 3, 5] d) (hR : RtV f cX3_lieBehindAll (fun u => u.1 = g ∧ Post u.2)) (hw : wp_X3_lieBehindAll (gK g) d x1 I Post) : PW f 0 0 g I 0 [(0, .ref (gA g d)), (1, .int x1)] [] := by
  unfold wp_X3_lieBehindAll at hw
  refine r_aload_n hC dX3_lieBehindAll_0 rfl rfl (j := 0) rfl ?_
  refine r_getR hC dX3_lieBehindAll_1 rfl (hd).1.1 (hd).1.2 ffg_X3_lieBehindAll_9 (hd).2.2 ?_
  refine r_iload_n hC dX3_lieBehindAll_4 rfl rfl (j := 1) rfl ?_
  obtain ⟨hi, hw⟩ := hw
  refine r_iald hC dX3_lieBehindAll_5 rfl ((hd).2.1).1 ((hd).2.1).2.1 (by rw [((hd).2.1).2.2]; exact hi) ?_
  refine r_istore_n hC (lv' := [(2, .int (I (d + 20) x1.toNatClampNeg)), (0, .ref (gA g d)), (1, .int x1)]) dX3_lieBehindAll_6 rfl rfl (by decide) rfl ?_
  refine r_iload_n hC dX3_lieBehindAll_7 rfl rfl (j := 2) rfl ?_
  refine r_istore_n hC (lv' := [(3, .int x1), (2, .int (I (d + 20) x1.toNatClampNeg)), (0, .ref (gA g d)), (1, .int x1)]) dX3_lieBehindAll_8 rfl rfl (by decide) rfl ?_
  obtain ⟨nn9, hw⟩ := hw
  exact r_sub (lv' := [(0, .ref (gA g d)), (2, .int (I (d + 20) x1.toNatClampNeg)), (3, .int x1)]) [2, 1, 0] rfl ((t_X3_lieBehindAll_9 hC hd hR nn9 _ _ _ hw))
set_option maxRecDepth 100000 in
theorem c_X3_lieBehindAll {l : Launch} {x : Gx} {g : Gm} {d : Nat} {x1 : Int32} {I : Mm} {Post : Mm → Prop} (hd : shD g [0, 3, 5] d) (hw : wp_X3_lieBehindAll (gK g) d x1 I Post) : KV l x yX3_lieBehindAll wsX3_lieBehindAll rm_X3_lieBehindAll g I [.ref (gA g d), .int x1] (fun u => u.1 = g ∧ Post u.2) := KV_of (by decide) rfl rfl (Nat.le_of_ble_eq_true rfl) (fun f hC _ _ hR => t_X3_lieBehindAll_0 hC hd hR hw)

/-! X0_spareUsed -/
abbrev rm_X0_spareUsed : Room := { frames := 1, cells := 0, slots := 0, locals := 23 }
theorem ci_X0_spareUsed : CI yX0_spareUsed wsX0_spareUsed cX0_spareUsed 2 none 0 := ⟨⟨_, rfl⟩, by decide, by decide, by decide +kernel⟩
def wp_X0_spareUsed_2 (ki : Nat → Nat) (d : Nat)  (Post : Mm → Prop) : Nat → Int32 → Mm → Prop
  | 0, _, _ => False
  | nn2 + 1, x1, I => if (I d 2) ≤ x1 then (Post I) else (wp_X3_isUsed ki d (0 : Int32) I (fun r1 J2 => if r1 = 0 then (Post J2) else (vp_in (0 : Int32) 8 ∧ (wp_X3_lieBehindAll ki d (0 : Int32) (up2 J2 d 3 ((J2 d 3) &&& (((1 : Int32) <<< ((J2 (d + 20) (0 : Int32).toNatClampNeg) &&& 31)) ^^^ (-1 : Int32)))) (fun J4 => wp_X0_spareUsed_2 ki d Post nn2 (x1 + 1) J4)))))
def wp_X0_spareUsed (ki : Nat → Nat) (d : Nat)  (I : Mm) (Post : Mm → Prop) : Prop := ∃ nn2, wp_X0_spareUsed_2 ki d Post nn2 (0 : Int32) I
set_option maxRecDepth 20000 in
theorem uw_X0_spareUsed_0 : ∀ w ∈ u_ws RX0 TX0 5, w ∈ wsX0_spareUsed := by decide +kernel
set_option maxRecDepth 20000 in
theorem uw_X0_spareUsed_5 : ∀ w ∈ u_ws RX5 TX5 5, w ∈ wsX0_spareUsed := by decide +kernel
set_option maxRecDepth 20000 in
theorem ffg_X0_spareUsed_19 : ∀ k ∈ ([0, 5] : List Nat), FF wsX0_spareUsed RX0 19 k 2 ∧ fR k 2 = false := List.forall_mem_cons.mpr ⟨⟨⟨RX0, TX0, 5, "PageDesks$Chance", rfl, rfl, by decide, by decide, uw_X0_spareUsed_0, (List.mem_of_getElem? (i := 1) rfl), Or.inr (List.mem_of_getElem? (i := 2) rfl)⟩, rfl⟩, List.forall_mem_cons.mpr ⟨⟨⟨RX5, TX5, 5, "PageDesks$Chance", rfl, rfl, by decide, by decide, uw_X0_spareUsed_5, (List.mem_of_getElem? (i := 1) rfl), Or.inr (List.mem_of_getElem? (i := 2) rfl)⟩, rfl⟩, fun _ h => absurd h List.not_mem_nil⟩⟩
set_option maxRecDepth 20000 in
theorem ffg_X0_spareUsed_9 : ∀ k ∈ ([0, 5] : List Nat), FF wsX0_spareUsed RX0 9 k 3 ∧ fR k 3 = false := List.forall_mem_cons.mpr ⟨⟨⟨RX0, TX0, 5, "PageDesks$Chance", rfl, rfl, by decide, by decide, uw_X0_spareUsed_0, (List.mem_of_getElem? (i := 3) rfl), Or.inr (List.mem_of_getElem? (i := 4) rfl)⟩, rfl⟩, List.forall_mem_cons.mpr ⟨⟨⟨RX5, TX5, 5, "PageDesks$Chance", rfl, rfl, by decide, by decide, uw_X0_spareUsed_5, (List.mem_of_getElem? (i := 3) rfl), Or.inr (List.mem_of_getElem? (i := 4) rfl)⟩, rfl⟩, fun _ h => absurd h List.not_mem_nil⟩⟩
set_option maxRecDepth 20000 in
theorem ffg_X0_spareUsed_15 : ∀ k ∈ ([0, 5] : List Nat), FF wsX0_spareUsed RX0 15 k 0 ∧ fR k 0 = true := List.forall_mem_cons.mpr ⟨⟨⟨RX0, TX0, 5, "PageDesks$Chance", rfl, rfl, by decide, by decide, uw_X0_spareUsed_0, (List.mem_of_getElem? (i := 5) rfl), Or.inr (List.mem_of_getElem? (i := 6) rfl)⟩, rfl⟩, List.forall_mem_cons.mpr ⟨⟨⟨RX5, TX5, 5, "PageDesks$Chance", rfl, rfl, by decide, by decide, uw_X0_spareUsed_5, (List.mem_of_getElem? (i := 5) rfl), Or.inr (List.mem_of_getElem? (i := 6) rfl)⟩, rfl⟩, fun _ h => absurd h List.not_mem_nil⟩⟩
set_option maxRecDepth 20000 in
theorem ffp_X0_spareUsed_9 : ∀ k ∈ ([0, 5] : List Nat), FF wsX0_spareUsed RX0 9 k 3 ∧ fR k 3 = false ∧ FP k 3 := List.forall_mem_cons.mpr ⟨⟨⟨RX0, TX0, 5, "PageDesks$Chance", rfl, rfl, by decide, by decide, uw_X0_spareUsed_0, (List.mem_of_getElem? (i := 3) rfl), Or.inr (List.mem_of_getElem? (i := 4) rfl)⟩, rfl, ⟨RX0, TX0, 5, tyX0, rfl, tyX0_ok, nmX0, rfl, rfl⟩⟩, List.forall_mem_cons.mpr ⟨⟨⟨RX5, TX5, 5, "PageDesks$Chance", rfl, rfl, by decide, by decide, uw_X0_spareUsed_5, (List.mem_of_getElem? (i := 3) rfl), Or.inr (List.mem_of_getElem? (i := 4) rfl)⟩, rfl, ⟨RX5, TX5, 5, tyX5, rfl, tyX5_ok, nmX5, rfl, rfl⟩⟩, fun _ h => absurd h List.not_mem_nil⟩⟩
set_option maxRecDepth 100000 in
set_option maxHeartbeats 4000000 in
theorem t_X0_spareUsed_2 {f : Fx} {g : Gm} {d : Nat} {Post : Mm → Prop}  (hC : Cx f cX0_spareUsed 2 RX0 wsX0_spareUsed rm_X0_spareUsed) (hd : shD g [0, 5] d) (hR : RtV f cX0_spareUsed (fun u => u.1 = g ∧ Post u.2))  : ∀ (nn2 : Nat) (x1 : Int32) (I : Mm) , wp_X0_spareUsed_2 (gK g) d  Post nn2 x1 I → PW f 0 0 g I 2 [(0, .ref (gA g d)), (1, .int x1)] [] := by
  intro nn2
  induction nn2 with
  | zero =>
    intro x1 I  hw
    exact absurd hw id
  | succ nn2 ih =>
    intro x1 I  hw
    unfold wp_X0_spareUsed_2 at hw
    refine r_iload_n hC dX0_spareUsed_2 rfl rfl (j := 1) rfl ?_
    refine r_aload_n hC dX0_spareUsed_3 rfl rfl (j := 0) rfl ?_
    refine r_getI hC dX0_spareUsed_4 rfl (hd).1.1 (hd).1.2 ffg_X0_spareUsed_19 ?_
    refine r_icmp_ge hC (tgt := 48) dX0_spareUsed_7 rfl (by decide) hw (fun hw => ?_) (fun hw => ?_)
    · exact r_retV hC hR ⟨rfl, rfl⟩ dX0_spareUsed_48 hw
    · refine r_aload_n hC dX0_spareUsed_10 rfl rfl (j := 0) rfl ?_
      refine r_iconst hC (v := (0 : Int32)) dX0_spareUsed_11 rfl (by decide) ?_
      refine r_callI hC (rmc := rm_X3_isUsed) (a_K05 hd (fun h => a_U hC (k := 0) (rmc := rm_X3_isUsed) (c_X3_isUsed (shD.of hd h (by decide)) hw) ci_X3_isUsed gX0_spareUsed_X3_isUsed_u22X0 rfl ⟨Nat.le_of_ble_eq_true rfl, Nat.le_of_ble_eq_true rfl⟩ ⟨Nat.le_of_ble_eq_true rfl, Nat.le_of_ble_eq_true rfl⟩ rfl (by decide) (hd).1.1 h rfl rfl (Nat.le_of_ble_eq_true rfl) dX0_spareUsed_12) (fun h => a_U hC (k := 5) (rmc := rm_X3_isUsed) (c_X3_isUsed (shD.of hd h (by decide)) hw) ci_X3_isUsed gX0_spareUsed_X3_isUsed_u22X5 rfl ⟨Nat.le_of_ble_eq_true rfl, Nat.le_of_ble_eq_true rfl⟩ ⟨Nat.le_of_ble_eq_true rfl, Nat.le_of_ble_eq_true rfl⟩ rfl (by decide) (hd).1.1 h rfl rfl (Nat.le_of_ble_eq_true rfl) dX0_spareUsed_12)) ⟨rfl, rfl⟩ rfl (fun r1 J2 hw => ?_)
      refine r_if_eq hC (tgt := 48) dX0_spareUsed_15 rfl (by decide) hw (fun hw => ?_) (fun hw => ?_)
      · exact r_retV hC hR ⟨rfl, rfl⟩ dX0_spareUsed_48 hw
      · refine r_aload_n hC dX0_spareUsed_18 rfl rfl (j := 0) rfl ?_
        refine r_dup hC dX0_spareUsed_19 rfl rfl ?_
        refine r_getI hC dX0_spareUsed_20 rfl (hd).1.1 (hd).1.2 ffg_X0_spareUsed_9 ?_
        refine r_iconst hC (v := (1 : Int32)) dX0_spareUsed_23 rfl (by decide) ?_
        refine r_aload_n hC dX0_spareUsed_24 rfl rfl (j := 0) rfl ?_
        refine r_getR hC dX0_spareUsed_25 rfl (hd).1.1 (hd).1.2 ffg_X0_spareUsed_15 (hd).2.2 ?_
        refine r_iconst hC (v := (0 : Int32)) dX0_spareUsed_28 rfl (by decide) ?_
        obtain ⟨hi, hw⟩ := hw
        refine r_iald hC dX0_spareUsed_29 rfl ((hd).2.1).1 ((hd).2.1).2.1 (by rw [((hd).2.1).2.2]; exact hi) ?_
        refine r_ishl hC dX0_spareUsed_30 rfl ?_
        refine r_iconst hC (v := (-1 : Int32)) dX0_spareUsed_31 rfl (by decide) ?_
        refine r_ixor hC dX0_spareUsed_32 rfl ?_
        refine r_iand hC dX0_spareUsed_33 rfl ?_
        refine r_putI hC dX0_spareUsed_34 rfl (hd).1.1 (hd).1.2 ffp_X0_spareUsed_9 ?_
        refine r_aload_n hC dX0_spareUsed_37 rfl rfl (j := 0) rfl ?_
        refine r_iconst hC (v := (0 : Int32)) dX0_spareUsed_38 rfl (by decide) ?_
        refine r_callV hC (rmc := rm_X3_lieBehindAll) (a_K05 hd (fun h => a_U hC (k := 0) (rmc := rm_X3_lieBehindAll) (c_X3_lieBehindAll (shD.of hd h (by decide)) hw) ci_X3_lieBehindAll gX0_spareUsed_X3_lieBehindAll_u26X0 rfl ⟨Nat.le_of_ble_eq_true rfl, Nat.le_of_ble_eq_true rfl⟩ ⟨Nat.le_of_ble_eq_true rfl, Nat.le_of_ble_eq_true rfl⟩ rfl (by decide) (hd).1.1 h rfl rfl (Nat.le_of_ble_eq_true rfl) dX0_spareUsed_39) (fun h => a_U hC (k := 5) (rmc := rm_X3_lieBehindAll) (c_X3_lieBehindAll (shD.of hd h (by decide)) hw) ci_X3_lieBehindAll gX0_spareUsed_X3_lieBehindAll_u26X5 rfl ⟨Nat.le_of_ble_eq_true rfl, Nat.le_of_ble_eq_true rfl⟩ ⟨Nat.le_of_ble_eq_true rfl, Nat.le_of_ble_eq_true rfl⟩ rfl (by decide) (hd).1.1 h rfl rfl (Nat.le_of_ble_eq_true rfl) dX0_spareUsed_39)) ⟨rfl, rfl⟩ rfl (fun J4 hw => ?_)
        refine r_iinc hC (k := 1) (lv' := [(1, .int (x1 + 1)), (0, .ref (gA g d))]) dX0_spareUsed_42 rfl (j := 1) rfl (by decide) (by decide) rfl ?_
        refine r_goto hC (tgt := 2) dX0_spareUsed_45 (by decide) ?_
        exact r_sub (lv' := [(0, .ref (gA g d)), (1, .int (x1 + 1))]) [1, 0] rfl (ih _ _ hw)
set_option maxRecDepth 100000 in
set_option maxHeartbeats 4000000 in
theorem t_X0_spareUsed_0 {f : Fx} {g : Gm} {d : Nat} {Post : Mm → Prop}  {I : Mm} (hC : Cx f cX0_spareUsed 2 RX0 wsX0_spareUsed rm_X0_spareUsed) (hd : shD g [0, 5] d) (hR : RtV f cX0_spareUsed (fun u => u.1 = g ∧ Post u.2)) (hw : wp_X0_spareUsed (gK g) d  I Post) : PW f 0 0 g I 0 [(0, .ref (gA g d))] [] := by
  unfold wp_X0_spareUsed at hw
  refine r_iconst hC (v := (0 : Int32)) dX0_spareUsed_0 rfl (by decide) ?_
  refine r_istore_n hC (lv' := [(1, .int (0 : Int32)), (0, .ref (gA g d))]) dX0_spareUsed_1 rfl rfl (by decide) rfl ?_
  obtain ⟨nn2, hw⟩ := hw
  exact r_sub (lv' := [(0, .ref (gA g d)), (1, .int (0 : Int32))]) [1, 0] rfl ((t_X0_spareUsed_2 hC hd hR nn2 _ _ hw))
set_option maxRecDepth 100000 in
theorem c_X0_spareUsed {l : Launch} {x : Gx} {g : Gm} {d : Nat}  {I : Mm} {Post : Mm → Prop} (hd : shD g [0, 5] d) (hw : wp_X0_spareUsed (gK g) d  I Post) : KV l x yX0_spareUsed wsX0_spareUsed rm_X0_spareUsed g I [.ref (gA g d)] (fun u => u.1 = g ∧ Post u.2) := KV_of (by decide) rfl rfl (Nat.le_of_ble_eq_true rfl) (fun f hC _ _ hR => t_X0_spareUsed_0 hC hd hR hw)

/-! X0_placeToGo -/
abbrev rm_X0_placeToGo : Room := { frames := 1, cells := 0, slots := 0, locals := 21 }
theorem ci_X0_placeToGo : CI yX0_placeToGo wsX0_placeToGo cX0_placeToGo 2 (some .int) 0 := ⟨⟨_, rfl⟩, by decide, by decide, by decide +kernel⟩
def wp_X0_placeToGo_2 (ki : Nat → Nat) (d : Nat)  (Post : Int32 → Mm → Prop) : Nat → Int32 → Mm → Prop
  | 0, _, _ => False
  | nn2 + 1, x1, I => if (I d 2) ≤ x1 then (Post (0 : Int32) I) else (wp_X3_isUsed ki d x1 I (fun r1 J2 => if r1 = 0 then (Post x1 J2) else (wp_X0_placeToGo_2 ki d Post nn2 (x1 + 1) J2)))
def wp_X0_placeToGo (ki : Nat → Nat) (d : Nat)  (I : Mm) (Post : Int32 → Mm → Prop) : Prop := ∃ nn2, wp_X0_placeToGo_2 ki d Post nn2 (0 : Int32) I
set_option maxRecDepth 20000 in
theorem uw_X0_placeToGo_0 : ∀ w ∈ u_ws RX0 TX0 5, w ∈ wsX0_placeToGo := by decide +kernel
set_option maxRecDepth 20000 in
theorem uw_X0_placeToGo_5 : ∀ w ∈ u_ws RX5 TX5 5, w ∈ wsX0_placeToGo := by decide +kernel
set_option maxRecDepth 20000 in
theorem ffg_X0_placeToGo_19 : ∀ k ∈ ([0, 5] : List Nat), FF wsX0_placeToGo RX0 19 k 2 ∧ fR k 2 = false := List.forall_mem_cons.mpr ⟨⟨⟨RX0, TX0, 5, "PageDesks$Chance", rfl, rfl, by decide, by decide, uw_X0_placeToGo_0, (List.mem_of_getElem? (i := 1) rfl), Or.inr (List.mem_of_getElem? (i := 2) rfl)⟩, rfl⟩, List.forall_mem_cons.mpr ⟨⟨⟨RX5, TX5, 5, "PageDesks$Chance", rfl, rfl, by decide, by decide, uw_X0_placeToGo_5, (List.mem_of_getElem? (i := 1) rfl), Or.inr (List.mem_of_getElem? (i := 2) rfl)⟩, rfl⟩, fun _ h => absurd h List.not_mem_nil⟩⟩
set_option maxRecDepth 100000 in
set_option maxHeartbeats 4000000 in
theorem t_X0_placeToGo_2 {f : Fx} {g : Gm} {d : Nat} {Post : Int32 → Mm → Prop}  (hC : Cx f cX0_placeToGo 2 RX0 wsX0_placeToGo rm_X0_placeToGo) (hd : shD g [0, 5] d) (hR : RtI f cX0_placeToGo (fun r u => u.1 = g ∧ Post r u.2))  : ∀ (nn2 : Nat) (x1 : Int32) (I : Mm) , wp_X0_placeToGo_2 (gK g) d  Post nn2 x1 I → PW f 0 0 g I 2 [(0, .ref (gA g d)), (1, .int x1)] [] := by
  intro nn2
  induction nn2 with
  | zero =>
    intro x1 I  hw
    exact absurd hw id
  | succ nn2 ih =>
    intro x1 I  hw
    unfold wp_X0_placeToGo_2 at hw
    refine r_iload_n hC dX0_placeToGo_2 rfl rfl (j := 1) rfl ?_
    refine r_aload_n hC dX0_placeToGo_3 rfl rfl (j := 0) rfl ?_
    refine r_getI hC dX0_placeToGo_4 rfl (hd).1.1 (hd).1.2 ffg_X0_placeToGo_19 ?_
    refine r_icmp_ge hC (tgt := 26) dX0_placeToGo_7 rfl (by decide) hw (fun hw => ?_) (fun hw => ?_)
    · refine r_iconst hC (v := (0 : Int32)) dX0_placeToGo_26 rfl (by decide) ?_
      exact r_retI hC hR ⟨rfl, rfl⟩ dX0_placeToGo_27 hw
    · refine r_aload_n hC dX0_placeToGo_10 rfl rfl (j := 0) rfl ?_
      refine r_iload_n hC dX0_placeToGo_11 rfl rfl (j := 1) rfl ?_
      refine r_callI hC (rmc := rm_X3_isUsed) (a_K05 hd (fun h => a_U hC (k := 0) (rmc := rm_X3_isUsed) (c_X3_isUsed (shD.of hd h (by decide)) hw) ci_X3_isUsed gX0_placeToGo_X3_isUsed_u22X0 rfl ⟨Nat.le_of_ble_eq_true rfl, Nat.le_of_ble_eq_true rfl⟩ ⟨Nat.le_of_ble_eq_true rfl, Nat.le_of_ble_eq_true rfl⟩ rfl (by decide) (hd).1.1 h rfl rfl (Nat.le_of_ble_eq_true rfl) dX0_placeToGo_12) (fun h => a_U hC (k := 5) (rmc := rm_X3_isUsed) (c_X3_isUsed (shD.of hd h (by decide)) hw) ci_X3_isUsed gX0_placeToGo_X3_isUsed_u22X5 rfl ⟨Nat.le_of_ble_eq_true rfl, Nat.le_of_ble_eq_true rfl⟩ ⟨Nat.le_of_ble_eq_true rfl, Nat.le_of_ble_eq_true rfl⟩ rfl (by decide) (hd).1.1 h rfl rfl (Nat.le_of_ble_eq_true rfl) dX0_placeToGo_12)) ⟨rfl, rfl⟩ rfl (fun r1 J2 hw => ?_)
      refine r_if_ne hC (tgt := 20) dX0_placeToGo_15 rfl (by decide) hw (fun hw => ?_) (fun hw => ?_)
      · refine r_iinc hC (k := 1) (lv' := [(1, .int (x1 + 1)), (0, .ref (gA g d))]) dX0_placeToGo_20 rfl (j := 1) rfl (by decide) (by decide) rfl ?_
        refine r_goto hC (tgt := 2) dX0_placeToGo_23 (by decide) ?_
        exact r_sub (lv' := [(0, .ref (gA g d)), (1, .int (x1 + 1))]) [1, 0] rfl (ih _ _ hw)
      · refine r_iload_n hC dX0_placeToGo_18 rfl rfl (j := 1) rfl ?_
        exact r_retI hC hR ⟨rfl, rfl⟩ dX0_placeToGo_19 hw
set_option maxRecDepth 100000 in
set_option maxHeartbeats 4000000 in
theorem t_X0_placeToGo_0 {f : Fx} {g : Gm} {d : Nat} {Post : Int32 → Mm → Prop}  {I : Mm} (hC : Cx f cX0_placeToGo 2 RX0 wsX0_placeToGo rm_X0_placeToGo) (hd : shD g [0, 5] d) (hR : RtI f cX0_placeToGo (fun r u => u.1 = g ∧ Post r u.2)) (hw : wp_X0_placeToGo (gK g) d  I Post) : PW f 0 0 g I 0 [(0, .ref (gA g d))] [] := by
  unfold wp_X0_placeToGo at hw
  refine r_iconst hC (v := (0 : Int32)) dX0_placeToGo_0 rfl (by decide) ?_
  refine r_istore_n hC (lv' := [(1, .int (0 : Int32)), (0, .ref (gA g d))]) dX0_placeToGo_1 rfl rfl (by decide) rfl ?_
  obtain ⟨nn2, hw⟩ := hw
  exact r_sub (lv' := [(0, .ref (gA g d)), (1, .int (0 : Int32))]) [1, 0] rfl ((t_X0_placeToGo_2 hC hd hR nn2 _ _ hw))
set_option maxRecDepth 100000 in
theorem c_X0_placeToGo {l : Launch} {x : Gx} {g : Gm} {d : Nat}  {I : Mm} {Post : Int32 → Mm → Prop} (hd : shD g [0, 5] d) (hw : wp_X0_placeToGo (gK g) d  I Post) : KI l x yX0_placeToGo wsX0_placeToGo rm_X0_placeToGo g I [.ref (gA g d)] (fun r u => u.1 = g ∧ Post r u.2) := KI_of (by decide) rfl rfl (Nat.le_of_ble_eq_true rfl) (fun f hC _ _ hR => t_X0_placeToGo_0 hC hd hR hw)

/-! X8_leave -/
abbrev rm_X8_leave : Room := { frames := 0, cells := 0, slots := 0, locals := 0 }
theorem ci_X8_leave : CI yX8_leave wsX8_leave cX8_leave 2 none 1 := ⟨⟨_, rfl⟩, by decide, by decide, by decide +kernel⟩
def wp_X8_leave  (x1 : Int32) (I : Mm) (Post : Mm → Prop) : Prop := Post (up2 I 16 0 (((31 : Int32) * (I 16 0)) + x1))
set_option maxRecDepth 20000 in
theorem uw_X8_leave_8 : ∀ w ∈ u_ws RX8 TX8 1, w ∈ wsX8_leave := by decide +kernel
set_option maxRecDepth 20000 in
theorem ffg_X8_leave_7 : ∀ k ∈ ([8] : List Nat), FF wsX8_leave RX8 7 k 0 ∧ fR k 0 = false := List.forall_mem_cons.mpr ⟨⟨⟨RX8, TX8, 1, "PageDesks$Trace", rfl, rfl, by decide, by decide, uw_X8_leave_8, (List.mem_of_getElem? (i := 1) rfl), Or.inl rfl⟩, rfl⟩, fun _ h => absurd h List.not_mem_nil⟩
set_option maxRecDepth 20000 in
theorem ffp_X8_leave_7 : ∀ k ∈ ([8] : List Nat), FF wsX8_leave RX8 7 k 0 ∧ fR k 0 = false ∧ FP k 0 := List.forall_mem_cons.mpr ⟨⟨⟨RX8, TX8, 1, "PageDesks$Trace", rfl, rfl, by decide, by decide, uw_X8_leave_8, (List.mem_of_getElem? (i := 1) rfl), Or.inl rfl⟩, rfl, ⟨RX8, TX8, 1, tyX8, rfl, tyX8_ok, nmX8, rfl, rfl⟩⟩, fun _ h => absurd h List.not_mem_nil⟩
set_option maxRecDepth 100000 in
set_option maxHeartbeats 4000000 in
theorem t_X8_leave_0 {f : Fx} {g : Gm}  {Post : Mm → Prop} {x1 : Int32} {I : Mm} (hC : Cx f cX8_leave 2 RX8 wsX8_leave rm_X8_leave) (hG : shC g) (hR : RtV f cX8_leave (fun u => u.1 = g ∧ Post u.2)) (hw : wp_X8_leave  x1 I Post) : PW f 0 0 g I 0 [(0, .ref (gA g 16)), (1, .int x1)] [] := by
  unfold wp_X8_leave at hw
  refine r_aload_n hC dX8_leave_0 rfl rfl (j := 0) rfl ?_
  refine r_bipush hC (v := (31 : Int32)) dX8_leave_1 rfl (by decide) ?_
  refine r_aload_n hC dX8_leave_3 rfl rfl (j := 0) rfl ?_
  refine r_getI hC dX8_leave_4 rfl (hG).1 (hG).2 ffg_X8_leave_7 ?_
  refine r_imul hC dX8_leave_7 rfl ?_
  refine r_iload_n hC dX8_leave_8 rfl rfl (j := 1) rfl ?_
  refine r_iadd hC dX8_leave_9 rfl ?_
  refine r_putI hC dX8_leave_10 rfl (hG).1 (hG).2 ffp_X8_leave_7 ?_
  exact r_retV hC hR ⟨rfl, rfl⟩ dX8_leave_13 hw
set_option maxRecDepth 100000 in
theorem c_X8_leave {l : Launch} {x : Gx} {g : Gm}  {x1 : Int32} {I : Mm} {Post : Mm → Prop} (hG : shC g) (hw : wp_X8_leave  x1 I Post) : KV l x yX8_leave wsX8_leave rm_X8_leave g I [.ref (gA g 16), .int x1] (fun u => u.1 = g ∧ Post u.2) := KV_of (by decide) rfl rfl (Nat.le_of_ble_eq_true rfl) (fun f hC _ _ hR => t_X8_leave_0 hC hG hR hw)

/-! X3_queueTelling -/
abbrev rm_X3_queueTelling : Room := { frames := 1, cells := 0, slots := 0, locals := 21 }
theorem ci_X3_queueTelling : CI yX3_queueTelling wsX3_queueTelling cX3_queueTelling 2 (some .int) 1 := ⟨⟨_, rfl⟩, by decide, by decide, by decide +kernel⟩
def wp_X3_queueTelling (ki : Nat → Nat) (d : Nat)  (I : Mm) (Post : Int32 → Mm → Prop) : Prop := wp_X8_leave (1 : Int32) I (fun J2 => Post (J2 d 1) J2)
set_option maxRecDepth 20000 in
theorem uw_X3_queueTelling_0 : ∀ w ∈ u_ws RX0 TX0 5, w ∈ wsX3_queueTelling := by decide +kernel
set_option maxRecDepth 20000 in
theorem uw_X3_queueTelling_3 : ∀ w ∈ u_ws RX3 TX3 5, w ∈ wsX3_queueTelling := by decide +kernel
set_option maxRecDepth 20000 in
theorem uw_X3_queueTelling_5 : ∀ w ∈ u_ws RX5 TX5 5, w ∈ wsX3_queueTelling := by decide +kernel
set_option maxRecDepth 20000 in
theorem ffg_X3_queueTelling_15 : ∀ k ∈ ([0, 3, 5] : List Nat), FF wsX3_queueTelling RX3 15 k 1 ∧ fR k 1 = false := List.forall_mem_cons.mpr ⟨⟨⟨RX0, TX0, 5, "PageDesks$Queue", rfl, rfl, by decide, by decide, uw_X3_queueTelling_0, (List.mem_of_getElem? (i := 1) rfl), Or.inl rfl⟩, rfl⟩, List.forall_mem_cons.mpr ⟨⟨⟨RX3, TX3, 5, "PageDesks$Queue", rfl, rfl, by decide, by decide, uw_X3_queueTelling_3, (List.mem_of_getElem? (i := 1) rfl), Or.inl rfl⟩, rfl⟩, List.forall_mem_cons.mpr ⟨⟨⟨RX5, TX5, 5, "PageDesks$Queue", rfl, rfl, by decide, by decide, uw_X3_queueTelling_5, (List.mem_of_getElem? (i := 1) rfl), Or.inl rfl⟩, rfl⟩, fun _ h => absurd h List.not_mem_nil⟩⟩⟩
set_option maxRecDepth 100000 in
set_option maxHeartbeats 4000000 in
theorem t_X3_queueTelling_0 {f : Fx} {g : Gm} {d : Nat} {Post : Int32 → Mm → Prop}  {I : Mm} (hC : Cx f cX3_queueTelling 2 RX3 wsX3_queueTelling rm_X3_queueTelling) (hd : shD g [0, 3, 5] d) (hc : shC g) (hR : RtI f cX3_queueTelling (fun r u => u.1 = g ∧ Post r u.2)) (hw : wp_X3_queueTelling (gK g) d  I Post) : PW f 0 0 g I 0 [(0, .ref (gA g d)), (1, .ref (gA g 16))] [] := by
  unfold wp_X3_queueTelling at hw
  refine r_aload_n hC dX3_queueTelling_0 rfl rfl (j := 1) rfl ?_
  refine r_iconst hC (v := (1 : Int32)) dX3_queueTelling_1 rfl (by decide) ?_
  refine r_callV hC (a_V hC (k := 8) (c_X8_leave hc hw) ci_X8_leave gX3_queueTelling_X8_leave rfl ⟨Nat.le_of_ble_eq_true rfl, Nat.le_of_ble_eq_true rfl⟩ ⟨Nat.le_of_ble_eq_true rfl, Nat.le_of_ble_eq_true rfl⟩ rfl (by decide) (hc).1 (List.mem_singleton.mp (hc).2) rfl rfl (Nat.le_of_ble_eq_true rfl) dX3_queueTelling_2) ⟨rfl, rfl⟩ rfl (fun J2 hw => ?_)
  refine r_aload_n hC dX3_queueTelling_5 rfl rfl (j := 0) rfl ?_
  refine r_getI hC dX3_queueTelling_6 rfl (hd).1.1 (hd).1.2 ffg_X3_queueTelling_15 ?_
  exact r_retI hC hR ⟨rfl, rfl⟩ dX3_queueTelling_9 hw
set_option maxRecDepth 100000 in
theorem c_X3_queueTelling {l : Launch} {x : Gx} {g : Gm} {d : Nat}  {I : Mm} {Post : Int32 → Mm → Prop} (hd : shD g [0, 3, 5] d) (hc : shC g) (hw : wp_X3_queueTelling (gK g) d  I Post) : KI l x yX3_queueTelling wsX3_queueTelling rm_X3_queueTelling g I [.ref (gA g d), .ref (gA g 16)] (fun r u => u.1 = g ∧ Post r u.2) := KI_of (by decide) rfl rfl (Nat.le_of_ble_eq_true rfl) (fun f hC _ _ hR => t_X3_queueTelling_0 hC hd hc hR hw)

/-! X0_telling -/
abbrev rm_X0_telling : Room := { frames := 2, cells := 0, slots := 0, locals := 42 }
theorem ci_X0_telling : CI yX0_telling wsX0_telling cX0_telling 2 (some .int) 1 := ⟨⟨_, rfl⟩, by decide, by decide, by decide +kernel⟩
def wp_X0_telling (ki : Nat → Nat) (d : Nat)  (I : Mm) (Post : Int32 → Mm → Prop) : Prop := wp_X8_leave (2 : Int32) I (fun J2 => wp_X3_queueTelling ki d J2 (fun r3 J4 => Post (r3 + (100 : Int32)) J4))

set_option maxRecDepth 100000 in
set_option maxHeartbeats 4000000 in
theorem t_X0_telling_0 {f : Fx} {g : Gm} {d : Nat} {Post : Int32 → Mm → Prop}  {I : Mm} (hC : Cx f cX0_telling 2 RX0 wsX0_telling rm_X0_telling) (hd : shD g [0, 5] d) (hc : shC g) (hR : RtI f cX0_telling (fun r u => u.1 = g ∧ Post r u.2)) (hw : wp_X0_telling (gK g) d  I Post) : PW f 0 0 g I 0 [(0, .ref (gA g d)), (1, .ref (gA g 16))] [] := by
  unfold wp_X0_telling at hw
  refine r_aload_n hC dX0_telling_0 rfl rfl (j := 1) rfl ?_
  refine r_iconst hC (v := (2 : Int32)) dX0_telling_1 rfl (by decide) ?_
  refine r_callV hC (a_V hC (k := 8) (c_X8_leave hc hw) ci_X8_leave gX0_telling_X8_leave rfl ⟨Nat.le_of_ble_eq_true rfl, Nat.le_of_ble_eq_true rfl⟩ ⟨Nat.le_of_ble_eq_true rfl, Nat.le_of_ble_eq_true rfl⟩ rfl (by decide) (hc).1 (List.mem_singleton.mp (hc).2) rfl rfl (Nat.le_of_ble_eq_true rfl) dX0_telling_2) ⟨rfl, rfl⟩ rfl (fun J2 hw => ?_)
  refine r_aload_n hC dX0_telling_5 rfl rfl (j := 0) rfl ?_
  refine r_aload_n hC dX0_telling_6 rfl rfl (j := 1) rfl ?_
  refine r_callI hC (rmc := rm_X3_queueTelling) (a_K05 hd (fun h => a_U hC (k := 0) (rmc := rm_X3_queueTelling) (c_X3_queueTelling (shD.of hd h (by decide)) hc hw) ci_X3_queueTelling gX0_telling_X3_queueTelling_u35X0 rfl ⟨Nat.le_of_ble_eq_true rfl, Nat.le_of_ble_eq_true rfl⟩ ⟨Nat.le_of_ble_eq_true rfl, Nat.le_of_ble_eq_true rfl⟩ rfl (by decide) (hd).1.1 h rfl rfl (Nat.le_of_ble_eq_true rfl) dX0_telling_7) (fun h => a_U hC (k := 5) (rmc := rm_X3_queueTelling) (c_X3_queueTelling (shD.of hd h (by decide)) hc hw) ci_X3_queueTelling gX0_telling_X3_queueTelling_u35X5 rfl ⟨Nat.le_of_ble_eq_true rfl, Nat.le_of_ble_eq_true rfl⟩ ⟨Nat.le_of_ble_eq_true rfl, Nat.le_of_ble_eq_true rfl⟩ rfl (by decide) (hd).1.1 h rfl rfl (Nat.le_of_ble_eq_true rfl) dX0_telling_7)) ⟨rfl, rfl⟩ rfl (fun r3 J4 hw => ?_)
  refine r_bipush hC (v := (100 : Int32)) dX0_telling_10 rfl (by decide) ?_
  refine r_iadd hC dX0_telling_12 rfl ?_
  exact r_retI hC hR ⟨rfl, rfl⟩ dX0_telling_13 hw
set_option maxRecDepth 100000 in
theorem c_X0_telling {l : Launch} {x : Gx} {g : Gm} {d : Nat}  {I : Mm} {Post : Int32 → Mm → Prop} (hd : shD g [0, 5] d) (hc : shC g) (hw : wp_X0_telling (gK g) d  I Post) : KI l x yX0_telling wsX0_telling rm_X0_telling g I [.ref (gA g d), .ref (gA g 16)] (fun r u => u.1 = g ∧ Post r u.2) := KI_of (by decide) rfl rfl (Nat.le_of_ble_eq_true rfl) (fun f hC _ _ hR => t_X0_telling_0 hC hd hc hR hw)

/-! J6_bitCount_0f7a4 -/
abbrev rm_J6_bitCount_0f7a4 : Room := { frames := 0, cells := 0, slots := 0, locals := 0 }
theorem ci_J6_bitCount_0f7a4 : CI yJ6_bitCount_0f7a4 wsJ6_bitCount_0f7a4 cJ6_bitCount_0f7a4 1 (some .int) 1 := ⟨⟨_, rfl⟩, by decide, by decide, by decide +kernel⟩
def wp_J6_bitCount_0f7a4  (x0 : Int32) (I : Mm) (Post : Int32 → Mm → Prop) : Prop := Post ((((((((x0 - (((x0.toUInt32 >>> ((1 : Int32).toUInt32 &&& Int32.toUInt32 31)).toInt32) &&& (1431655765 : Int32))) &&& (858993459 : Int32)) + ((((x0 - (((x0.toUInt32 >>> ((1 : Int32).toUInt32 &&& Int32.toUInt32 31)).toInt32) &&& (1431655765 : Int32))).toUInt32 >>> ((2 : Int32).toUInt32 &&& Int32.toUInt32 31)).toInt32) &&& (858993459 : Int32))) + (((((x0 - (((x0.toUInt32 >>> ((1 : Int32).toUInt32 &&& Int32.toUInt32 31)).toInt32) &&& (1431655765 : Int32))) &&& (858993459 : Int32)) + ((((x0 - (((x0.toUInt32 >>> ((1 : Int32).toUInt32 &&& Int32.toUInt32 31)).toInt32) &&& (1431655765 : Int32))).toUInt32 >>> ((2 : Int32).toUInt32 &&& Int32.toUInt32 31)).toInt32) &&& (858993459 : Int32))).toUInt32 >>> ((4 : Int32).toUInt32 &&& Int32.toUInt32 31)).toInt32)) &&& (252645135 : Int32)) + (((((((x0 - (((x0.toUInt32 >>> ((1 : Int32).toUInt32 &&& Int32.toUInt32 31)).toInt32) &&& (1431655765 : Int32))) &&& (858993459 : Int32)) + ((((x0 - (((x0.toUInt32 >>> ((1 : Int32).toUInt32 &&& Int32.toUInt32 31)).toInt32) &&& (1431655765 : Int32))).toUInt32 >>> ((2 : Int32).toUInt32 &&& Int32.toUInt32 31)).toInt32) &&& (858993459 : Int32))) + (((((x0 - (((x0.toUInt32 >>> ((1 : Int32).toUInt32 &&& Int32.toUInt32 31)).toInt32) &&& (1431655765 : Int32))) &&& (858993459 : Int32)) + ((((x0 - (((x0.toUInt32 >>> ((1 : Int32).toUInt32 &&& Int32.toUInt32 31)).toInt32) &&& (1431655765 : Int32))).toUInt32 >>> ((2 : Int32).toUInt32 &&& Int32.toUInt32 31)).toInt32) &&& (858993459 : Int32))).toUInt32 >>> ((4 : Int32).toUInt32 &&& Int32.toUInt32 31)).toInt32)) &&& (252645135 : Int32)).toUInt32 >>> ((8 : Int32).toUInt32 &&& Int32.toUInt32 31)).toInt32)) + ((((((((x0 - (((x0.toUInt32 >>> ((1 : Int32).toUInt32 &&& Int32.toUInt32 31)).toInt32) &&& (1431655765 : Int32))) &&& (858993459 : Int32)) + ((((x0 - (((x0.toUInt32 >>> ((1 : Int32).toUInt32 &&& Int32.toUInt32 31)).toInt32) &&& (1431655765 : Int32))).toUInt32 >>> ((2 : Int32).toUInt32 &&& Int32.toUInt32 31)).toInt32) &&& (858993459 : Int32))) + (((((x0 - (((x0.toUInt32 >>> ((1 : Int32).toUInt32 &&& Int32.toUInt32 31)).toInt32) &&& (1431655765 : Int32))) &&& (858993459 : Int32)) + ((((x0 - (((x0.toUInt32 >>> ((1 : Int32).toUInt32 &&& Int32.toUInt32 31)).toInt32) &&& (1431655765 : Int32))).toUInt32 >>> ((2 : Int32).toUInt32 &&& Int32.toUInt32 31)).toInt32) &&& (858993459 : Int32))).toUInt32 >>> ((4 : Int32).toUInt32 &&& Int32.toUInt32 31)).toInt32)) &&& (252645135 : Int32)) + (((((((x0 - (((x0.toUInt32 >>> ((1 : Int32).toUInt32 &&& Int32.toUInt32 31)).toInt32) &&& (1431655765 : Int32))) &&& (858993459 : Int32)) + ((((x0 - (((x0.toUInt32 >>> ((1 : Int32).toUInt32 &&& Int32.toUInt32 31)).toInt32) &&& (1431655765 : Int32))).toUInt32 >>> ((2 : Int32).toUInt32 &&& Int32.toUInt32 31)).toInt32) &&& (858993459 : Int32))) + (((((x0 - (((x0.toUInt32 >>> ((1 : Int32).toUInt32 &&& Int32.toUInt32 31)).toInt32) &&& (1431655765 : Int32))) &&& (858993459 : Int32)) + ((((x0 - (((x0.toUInt32 >>> ((1 : Int32).toUInt32 &&& Int32.toUInt32 31)).toInt32) &&& (1431655765 : Int32))).toUInt32 >>> ((2 : Int32).toUInt32 &&& Int32.toUInt32 31)).toInt32) &&& (858993459 : Int32))).toUInt32 >>> ((4 : Int32).toUInt32 &&& Int32.toUInt32 31)).toInt32)) &&& (252645135 : Int32)).toUInt32 >>> ((8 : Int32).toUInt32 &&& Int32.toUInt32 31)).toInt32)).toUInt32 >>> ((16 : Int32).toUInt32 &&& Int32.toUInt32 31)).toInt32)) &&& (63 : Int32)) I

set_option maxRecDepth 100000 in
set_option maxHeartbeats 4000000 in
theorem t_J6_bitCount_0f7a4_0 {f : Fx} {g : Gm}  {Post : Int32 → Mm → Prop} {x0 : Int32} {I : Mm} (hC : Cx f cJ6_bitCount_0f7a4 1 RJ6 wsJ6_bitCount_0f7a4 rm_J6_bitCount_0f7a4)  (hR : RtI f cJ6_bitCount_0f7a4 (fun r u => u.1 = g ∧ Post r u.2)) (hw : wp_J6_bitCount_0f7a4  x0 I Post) : PW f 0 0 g I 0 [(0, .int x0)] [] := by
  unfold wp_J6_bitCount_0f7a4 at hw
  refine r_iload_n hC dJ6_bitCount_0f7a4_0 rfl rfl (j := 0) rfl ?_
  refine r_iload_n hC dJ6_bitCount_0f7a4_1 rfl rfl (j := 0) rfl ?_
  refine r_iconst hC (v := (1 : Int32)) dJ6_bitCount_0f7a4_2 rfl (by decide) ?_
  refine r_iushr hC dJ6_bitCount_0f7a4_3 rfl ?_
  refine r_ldcw hC (v := (1431655765 : Int32)) dJ6_bitCount_0f7a4_4 rfl (List.mem_of_getElem? (i := 1) rfl) ?_
  refine r_iand hC dJ6_bitCount_0f7a4_7 rfl ?_
  refine r_isub hC dJ6_bitCount_0f7a4_8 rfl ?_
  refine r_istore_n hC (lv' := [(0, .int (x0 - (((x0.toUInt32 >>> ((1 : Int32).toUInt32 &&& Int32.toUInt32 31)).toInt32) &&& (1431655765 : Int32))))]) dJ6_bitCount_0f7a4_9 rfl rfl (by decide) rfl ?_
  refine r_iload_n hC dJ6_bitCount_0f7a4_10 rfl rfl (j := 0) rfl ?_
  refine r_ldcw hC (v := (858993459 : Int32)) dJ6_bitCount_0f7a4_11 rfl (List.mem_of_getElem? (i := 2) rfl) ?_
  refine r_iand hC dJ6_bitCount_0f7a4_14 rfl ?_
  refine r_iload_n hC dJ6_bitCount_0f7a4_15 rfl rfl (j := 0) rfl ?_
  refine r_iconst hC (v := (2 : Int32)) dJ6_bitCount_0f7a4_16 rfl (by decide) ?_
  refine r_iushr hC dJ6_bitCount_0f7a4_17 rfl ?_
  refine r_ldcw hC (v := (858993459 : Int32)) dJ6_bitCount_0f7a4_18 rfl (List.mem_of_getElem? (i := 2) rfl) ?_
  refine r_iand hC dJ6_bitCount_0f7a4_21 rfl ?_
  refine r_iadd hC dJ6_bitCount_0f7a4_22 rfl ?_
  refine r_istore_n hC (lv' := [(0, .int (((x0 - (((x0.toUInt32 >>> ((1 : Int32).toUInt32 &&& Int32.toUInt32 31)).toInt32) &&& (1431655765 : Int32))) &&& (858993459 : Int32)) + ((((x0 - (((x0.toUInt32 >>> ((1 : Int32).toUInt32 &&& Int32.toUInt32 31)).toInt32) &&& (1431655765 : Int32))).toUInt32 >>> ((2 : Int32).toUInt32 &&& Int32.toUInt32 31)).toInt32) &&& (858993459 : Int32))))]) dJ6_bitCount_0f7a4_23 rfl rfl (by decide) rfl ?_
  refine r_iload_n hC dJ6_bitCount_0f7a4_24 rfl rfl (j := 0) rfl ?_
  refine r_iload_n hC dJ6_bitCount_0f7a4_25 rfl rfl (j := 0) rfl ?_
  refine r_iconst hC (v := (4 : Int32)) dJ6_bitCount_0f7a4_26 rfl (by decide) ?_
  refine r_iushr hC dJ6_bitCount_0f7a4_27 rfl ?_
  refine r_iadd hC dJ6_bitCount_0f7a4_28 rfl ?_
  refine r_ldcw hC (v := (252645135 : Int32)) dJ6_bitCount_0f7a4_29 rfl (List.mem_of_getElem? (i := 3) rfl) ?_
  refine r_iand hC dJ6_bitCount_0f7a4_32 rfl ?_
  refine r_istore_n hC (lv' := [(0, .int (((((x0 - (((x0.toUInt32 >>> ((1 : Int32).toUInt32 &&& Int32.toUInt32 31)).toInt32) &&& (1431655765 : Int32))) &&& (858993459 : Int32)) + ((((x0 - (((x0.toUInt32 >>> ((1 : Int32).toUInt32 &&& Int32.toUInt32 31)).toInt32) &&& (1431655765 : Int32))).toUInt32 >>> ((2 : Int32).toUInt32 &&& Int32.toUInt32 31)).toInt32) &&& (858993459 : Int32))) + (((((x0 - (((x0.toUInt32 >>> ((1 : Int32).toUInt32 &&& Int32.toUInt32 31)).toInt32) &&& (1431655765 : Int32))) &&& (858993459 : Int32)) + ((((x0 - (((x0.toUInt32 >>> ((1 : Int32).toUInt32 &&& Int32.toUInt32 31)).toInt32) &&& (1431655765 : Int32))).toUInt32 >>> ((2 : Int32).toUInt32 &&& Int32.toUInt32 31)).toInt32) &&& (858993459 : Int32))).toUInt32 >>> ((4 : Int32).toUInt32 &&& Int32.toUInt32 31)).toInt32)) &&& (252645135 : Int32)))]) dJ6_bitCount_0f7a4_33 rfl rfl (by decide) rfl ?_
  refine r_iload_n hC dJ6_bitCount_0f7a4_34 rfl rfl (j := 0) rfl ?_
  refine r_iload_n hC dJ6_bitCount_0f7a4_35 rfl rfl (j := 0) rfl ?_
  refine r_bipush hC (v := (8 : Int32)) dJ6_bitCount_0f7a4_36 rfl (by decide) ?_
  refine r_iushr hC dJ6_bitCount_0f7a4_38 rfl ?_
  refine r_iadd hC dJ6_bitCount_0f7a4_39 rfl ?_
  refine r_istore_n hC (lv' := [(0, .int ((((((x0 - (((x0.toUInt32 >>> ((1 : Int32).toUInt32 &&& Int32.toUInt32 31)).toInt32) &&& (1431655765 : Int32))) &&& (858993459 : Int32)) + ((((x0 - (((x0.toUInt32 >>> ((1 : Int32).toUInt32 &&& Int32.toUInt32 31)).toInt32) &&& (1431655765 : Int32))).toUInt32 >>> ((2 : Int32).toUInt32 &&& Int32.toUInt32 31)).toInt32) &&& (858993459 : Int32))) + (((((x0 - (((x0.toUInt32 >>> ((1 : Int32).toUInt32 &&& Int32.toUInt32 31)).toInt32) &&& (1431655765 : Int32))) &&& (858993459 : Int32)) + ((((x0 - (((x0.toUInt32 >>> ((1 : Int32).toUInt32 &&& Int32.toUInt32 31)).toInt32) &&& (1431655765 : Int32))).toUInt32 >>> ((2 : Int32).toUInt32 &&& Int32.toUInt32 31)).toInt32) &&& (858993459 : Int32))).toUInt32 >>> ((4 : Int32).toUInt32 &&& Int32.toUInt32 31)).toInt32)) &&& (252645135 : Int32)) + (((((((x0 - (((x0.toUInt32 >>> ((1 : Int32).toUInt32 &&& Int32.toUInt32 31)).toInt32) &&& (1431655765 : Int32))) &&& (858993459 : Int32)) + ((((x0 - (((x0.toUInt32 >>> ((1 : Int32).toUInt32 &&& Int32.toUInt32 31)).toInt32) &&& (1431655765 : Int32))).toUInt32 >>> ((2 : Int32).toUInt32 &&& Int32.toUInt32 31)).toInt32) &&& (858993459 : Int32))) + (((((x0 - (((x0.toUInt32 >>> ((1 : Int32).toUInt32 &&& Int32.toUInt32 31)).toInt32) &&& (1431655765 : Int32))) &&& (858993459 : Int32)) + ((((x0 - (((x0.toUInt32 >>> ((1 : Int32).toUInt32 &&& Int32.toUInt32 31)).toInt32) &&& (1431655765 : Int32))).toUInt32 >>> ((2 : Int32).toUInt32 &&& Int32.toUInt32 31)).toInt32) &&& (858993459 : Int32))).toUInt32 >>> ((4 : Int32).toUInt32 &&& Int32.toUInt32 31)).toInt32)) &&& (252645135 : Int32)).toUInt32 >>> ((8 : Int32).toUInt32 &&& Int32.toUInt32 31)).toInt32)))]) dJ6_bitCount_0f7a4_40 rfl rfl (by decide) rfl ?_
  refine r_iload_n hC dJ6_bitCount_0f7a4_41 rfl rfl (j := 0) rfl ?_
  refine r_iload_n hC dJ6_bitCount_0f7a4_42 rfl rfl (j := 0) rfl ?_
  refine r_bipush hC (v := (16 : Int32)) dJ6_bitCount_0f7a4_43 rfl (by decide) ?_
  refine r_iushr hC dJ6_bitCount_0f7a4_45 rfl ?_
  refine r_iadd hC dJ6_bitCount_0f7a4_46 rfl ?_
  refine r_istore_n hC (lv' := [(0, .int (((((((x0 - (((x0.toUInt32 >>> ((1 : Int32).toUInt32 &&& Int32.toUInt32 31)).toInt32) &&& (1431655765 : Int32))) &&& (858993459 : Int32)) + ((((x0 - (((x0.toUInt32 >>> ((1 : Int32).toUInt32 &&& Int32.toUInt32 31)).toInt32) &&& (1431655765 : Int32))).toUInt32 >>> ((2 : Int32).toUInt32 &&& Int32.toUInt32 31)).toInt32) &&& (858993459 : Int32))) + (((((x0 - (((x0.toUInt32 >>> ((1 : Int32).toUInt32 &&& Int32.toUInt32 31)).toInt32) &&& (1431655765 : Int32))) &&& (858993459 : Int32)) + ((((x0 - (((x0.toUInt32 >>> ((1 : Int32).toUInt32 &&& Int32.toUInt32 31)).toInt32) &&& (1431655765 : Int32))).toUInt32 >>> ((2 : Int32).toUInt32 &&& Int32.toUInt32 31)).toInt32) &&& (858993459 : Int32))).toUInt32 >>> ((4 : Int32).toUInt32 &&& Int32.toUInt32 31)).toInt32)) &&& (252645135 : Int32)) + (((((((x0 - (((x0.toUInt32 >>> ((1 : Int32).toUInt32 &&& Int32.toUInt32 31)).toInt32) &&& (1431655765 : Int32))) &&& (858993459 : Int32)) + ((((x0 - (((x0.toUInt32 >>> ((1 : Int32).toUInt32 &&& Int32.toUInt32 31)).toInt32) &&& (1431655765 : Int32))).toUInt32 >>> ((2 : Int32).toUInt32 &&& Int32.toUInt32 31)).toInt32) &&& (858993459 : Int32))) + (((((x0 - (((x0.toUInt32 >>> ((1 : Int32).toUInt32 &&& Int32.toUInt32 31)).toInt32) &&& (1431655765 : Int32))) &&& (858993459 : Int32)) + ((((x0 - (((x0.toUInt32 >>> ((1 : Int32).toUInt32 &&& Int32.toUInt32 31)).toInt32) &&& (1431655765 : Int32))).toUInt32 >>> ((2 : Int32).toUInt32 &&& Int32.toUInt32 31)).toInt32) &&& (858993459 : Int32))).toUInt32 >>> ((4 : Int32).toUInt32 &&& Int32.toUInt32 31)).toInt32)) &&& (252645135 : Int32)).toUInt32 >>> ((8 : Int32).toUInt32 &&& Int32.toUInt32 31)).toInt32)) + ((((((((x0 - (((x0.toUInt32 >>> ((1 : Int32).toUInt32 &&& Int32.toUInt32 31)).toInt32) &&& (1431655765 : Int32))) &&& (858993459 : Int32)) + ((((x0 - (((x0.toUInt32 >>> ((1 : Int32).toUInt32 &&& Int32.toUInt32 31)).toInt32) &&& (1431655765 : Int32))).toUInt32 >>> ((2 : Int32).toUInt32 &&& Int32.toUInt32 31)).toInt32) &&& (858993459 : Int32))) + (((((x0 - (((x0.toUInt32 >>> ((1 : Int32).toUInt32 &&& Int32.toUInt32 31)).toInt32) &&& (1431655765 : Int32))) &&& (858993459 : Int32)) + ((((x0 - (((x0.toUInt32 >>> ((1 : Int32).toUInt32 &&& Int32.toUInt32 31)).toInt32) &&& (1431655765 : Int32))).toUInt32 >>> ((2 : Int32).toUInt32 &&& Int32.toUInt32 31)).toInt32) &&& (858993459 : Int32))).toUInt32 >>> ((4 : Int32).toUInt32 &&& Int32.toUInt32 31)).toInt32)) &&& (252645135 : Int32)) + (((((((x0 - (((x0.toUInt32 >>> ((1 : Int32).toUInt32 &&& Int32.toUInt32 31)).toInt32) &&& (1431655765 : Int32))) &&& (858993459 : Int32)) + ((((x0 - (((x0.toUInt32 >>> ((1 : Int32).toUInt32 &&& Int32.toUInt32 31)).toInt32) &&& (1431655765 : Int32))).toUInt32 >>> ((2 : Int32).toUInt32 &&& Int32.toUInt32 31)).toInt32) &&& (858993459 : Int32))) + (((((x0 - (((x0.toUInt32 >>> ((1 : Int32).toUInt32 &&& Int32.toUInt32 31)).toInt32) &&& (1431655765 : Int32))) &&& (858993459 : Int32)) + ((((x0 - (((x0.toUInt32 >>> ((1 : Int32).toUInt32 &&& Int32.toUInt32 31)).toInt32) &&& (1431655765 : Int32))).toUInt32 >>> ((2 : Int32).toUInt32 &&& Int32.toUInt32 31)).toInt32) &&& (858993459 : Int32))).toUInt32 >>> ((4 : Int32).toUInt32 &&& Int32.toUInt32 31)).toInt32)) &&& (252645135 : Int32)).toUInt32 >>> ((8 : Int32).toUInt32 &&& Int32.toUInt32 31)).toInt32)).toUInt32 >>> ((16 : Int32).toUInt32 &&& Int32.toUInt32 31)).toInt32)))]) dJ6_bitCount_0f7a4_47 rfl rfl (by decide) rfl ?_
  refine r_iload_n hC dJ6_bitCount_0f7a4_48 rfl rfl (j := 0) rfl ?_
  refine r_bipush hC (v := (63 : Int32)) dJ6_bitCount_0f7a4_49 rfl (by decide) ?_
  refine r_iand hC dJ6_bitCount_0f7a4_51 rfl ?_
  exact r_retI hC hR ⟨rfl, rfl⟩ dJ6_bitCount_0f7a4_52 hw
set_option maxRecDepth 100000 in
theorem c_J6_bitCount_0f7a4 {l : Launch} {x : Gx} {g : Gm}  {x0 : Int32} {I : Mm} {Post : Int32 → Mm → Prop}  (hw : wp_J6_bitCount_0f7a4  x0 I Post) : KI l x yJ6_bitCount_0f7a4 wsJ6_bitCount_0f7a4 rm_J6_bitCount_0f7a4 g I [.int x0] (fun r u => u.1 = g ∧ Post r u.2) := KI_of (by decide) rfl rfl (Nat.le_of_ble_eq_true rfl) (fun f hC _ _ hR => t_J6_bitCount_0f7a4_0 hC  hR hw)

/-! X2_nextOf -/
abbrev rm_X2_nextOf : Room := { frames := 0, cells := 0, slots := 0, locals := 0 }
theorem ci_X2_nextOf : CI yX2_nextOf wsX2_nextOf cX2_nextOf 4 (some .int) 2 := ⟨⟨_, rfl⟩, by decide, by decide, by decide +kernel⟩
def wp_X2_nextOf_4   (Post : Int32 → Mm → Prop) : Nat → Int32 → Int32 → Mm → Prop
  | 0, _, _, _ => False
  | nn4 + 1, x1, x3, I => if (I 8 1) ≤ x3 then (Post x3 I) else (vp_in x3 24 ∧ (if (I 9 x3.toNatClampNeg) = x1 then (Post x3 I) else (wp_X2_nextOf_4  Post nn4 x1 (x3 + 1) I)))
def wp_X2_nextOf  (x1 : Int32) (x2 : Int32) (I : Mm) (Post : Int32 → Mm → Prop) : Prop := ∃ nn4, wp_X2_nextOf_4  Post nn4 x1 (x2 + (1 : Int32)) I
set_option maxRecDepth 20000 in
theorem uw_X2_nextOf_2 : ∀ w ∈ u_ws RX2 TX2 2, w ∈ wsX2_nextOf := by decide +kernel
set_option maxRecDepth 20000 in
theorem ffg_X2_nextOf_21 : ∀ k ∈ ([2] : List Nat), FF wsX2_nextOf RX2 21 k 1 ∧ fR k 1 = false := List.forall_mem_cons.mpr ⟨⟨⟨RX2, TX2, 2, "PageDesks$Line", rfl, rfl, by decide, by decide, uw_X2_nextOf_2, (List.mem_of_getElem? (i := 1) rfl), Or.inl rfl⟩, rfl⟩, fun _ h => absurd h List.not_mem_nil⟩
set_option maxRecDepth 20000 in
theorem ffg_X2_nextOf_9 : ∀ k ∈ ([2] : List Nat), FF wsX2_nextOf RX2 9 k 0 ∧ fR k 0 = true := List.forall_mem_cons.mpr ⟨⟨⟨RX2, TX2, 2, "PageDesks$Line", rfl, rfl, by decide, by decide, uw_X2_nextOf_2, (List.mem_of_getElem? (i := 2) rfl), Or.inl rfl⟩, rfl⟩, fun _ h => absurd h List.not_mem_nil⟩
set_option maxRecDepth 100000 in
set_option maxHeartbeats 4000000 in
theorem t_X2_nextOf_4 {f : Fx} {g : Gm}  {Post : Int32 → Mm → Prop}  (hC : Cx f cX2_nextOf 4 RX2 wsX2_nextOf rm_X2_nextOf) (hG : shN g) (hR : RtI f cX2_nextOf (fun r u => u.1 = g ∧ Post r u.2))  : ∀ (nn4 : Nat) (x1 : Int32) (x3 : Int32) (I : Mm) , wp_X2_nextOf_4   Post nn4 x1 x3 I → PW f 0 0 g I 4 [(0, .ref (gA g 8)), (1, .int x1), (3, .int x3)] [] := by
  intro nn4
  induction nn4 with
  | zero =>
    intro x1 x3 I  hw
    exact absurd hw id
  | succ nn4 ih =>
    intro x1 x3 I  hw
    unfold wp_X2_nextOf_4 at hw
    refine r_iload_n hC dX2_nextOf_4 rfl rfl (j := 2) rfl ?_
    refine r_aload_n hC dX2_nextOf_5 rfl rfl (j := 0) rfl ?_
    refine r_getI hC dX2_nextOf_6 rfl (hG).1.1 (hG).1.2 ffg_X2_nextOf_21 ?_
    refine r_icmp_ge hC (tgt := 28) dX2_nextOf_9 rfl (by decide) hw (fun hw => ?_) (fun hw => ?_)
    · refine r_iload_n hC dX2_nextOf_28 rfl rfl (j := 2) rfl ?_
      exact r_retI hC hR ⟨rfl, rfl⟩ dX2_nextOf_29 hw
    · refine r_aload_n hC dX2_nextOf_12 rfl rfl (j := 0) rfl ?_
      refine r_getR hC dX2_nextOf_13 rfl (hG).1.1 (hG).1.2 ffg_X2_nextOf_9 (hG).2.2 ?_
      refine r_iload_n hC dX2_nextOf_16 rfl rfl (j := 2) rfl ?_
      obtain ⟨hi, hw⟩ := hw
      refine r_iald hC dX2_nextOf_17 rfl ((hG).2.1).1 ((hG).2.1).2.1 (by rw [((hG).2.1).2.2]; exact hi) ?_
      refine r_iload_n hC dX2_nextOf_18 rfl rfl (j := 1) rfl ?_
      refine r_icmp_eq hC (tgt := 28) dX2_nextOf_19 rfl (by decide) hw (fun hw => ?_) (fun hw => ?_)
      · refine r_iload_n hC dX2_nextOf_28 rfl rfl (j := 2) rfl ?_
        exact r_retI hC hR ⟨rfl, rfl⟩ dX2_nextOf_29 hw
      · refine r_iinc hC (k := 1) (lv' := [(3, .int (x3 + 1)), (0, .ref (gA g 8)), (1, .int x1)]) dX2_nextOf_22 rfl (j := 2) rfl (by decide) (by decide) rfl ?_
        refine r_goto hC (tgt := 4) dX2_nextOf_25 (by decide) ?_
        exact r_sub (lv' := [(0, .ref (gA g 8)), (1, .int x1), (3, .int (x3 + 1))]) [1, 2, 0] rfl (ih _ _ _ hw)
set_option maxRecDepth 100000 in
set_option maxHeartbeats 4000000 in
theorem t_X2_nextOf_0 {f : Fx} {g : Gm}  {Post : Int32 → Mm → Prop} {x1 : Int32} {x2 : Int32} {I : Mm} (hC : Cx f cX2_nextOf 4 RX2 wsX2_nextOf rm_X2_nextOf) (hG : shN g) (hR : RtI f cX2_nextOf (fun r u => u.1 = g ∧ Post r u.2)) (hw : wp_X2_nextOf  x1 x2 I Post) : PW f 0 0 g I 0 [(0, .ref (gA g 8)), (1, .int x1), (2, .int x2)] [] := by
  unfold wp_X2_nextOf at hw
  refine r_iload_n hC dX2_nextOf_0 rfl rfl (j := 2) rfl ?_
  refine r_iconst hC (v := (1 : Int32)) dX2_nextOf_1 rfl (by decide) ?_
  refine r_iadd hC dX2_nextOf_2 rfl ?_
  refine r_istore_n hC (lv' := [(3, .int (x2 + (1 : Int32))), (0, .ref (gA g 8)), (1, .int x1), (2, .int x2)]) dX2_nextOf_3 rfl rfl (by decide) rfl ?_
  obtain ⟨nn4, hw⟩ := hw
  exact r_sub (lv' := [(0, .ref (gA g 8)), (1, .int x1), (3, .int (x2 + (1 : Int32)))]) [1, 2, 0] rfl ((t_X2_nextOf_4 hC hG hR nn4 _ _ _ hw))
set_option maxRecDepth 100000 in
theorem c_X2_nextOf {l : Launch} {x : Gx} {g : Gm}  {x1 : Int32} {x2 : Int32} {I : Mm} {Post : Int32 → Mm → Prop} (hG : shN g) (hw : wp_X2_nextOf  x1 x2 I Post) : KI l x yX2_nextOf wsX2_nextOf rm_X2_nextOf g I [.ref (gA g 8), .int x1, .int x2] (fun r u => u.1 = g ∧ Post r u.2) := KI_of (by decide) rfl rfl (Nat.le_of_ble_eq_true rfl) (fun f hC _ _ hR => t_X2_nextOf_0 hC hG hR hw)

/-! X1_latestOf -/
abbrev rm_X1_latestOf : Room := { frames := 1, cells := 0, slots := 0, locals := 23 }
theorem ci_X1_latestOf : CI yX1_latestOf wsX1_latestOf cX1_latestOf 7 (some .int) 3 := ⟨⟨_, rfl⟩, by decide, by decide, by decide +kernel⟩
def wp_X1_latestOf_47  (Kb : Int32 → Int32 → Int32 → Int32 → Int32 → Mm → Prop) (Post : Int32 → Mm → Prop) (x1 : Int32) (x2 : Int32) (x3 : Int32) (x4 : Int32) (x5 : Int32) (I : Mm) : Prop := Kb x1 x2 x3 x4 (x5 + 1) I
def wp_X1_latestOf_8   (Post : Int32 → Mm → Prop) : Nat → Int32 → Int32 → Int32 → Int32 → Int32 → Mm → Prop
  | 0, _, _, _, _, _, _ => False
  | nn8 + 1, x1, x2, x3, x4, x5, I => if (8 : Int32) ≤ x5 then (Post x3 I) else (wp_X2_nextOf x5 x2 I (fun r1 J2 => if (x1 &&& ((1 : Int32) <<< (x5 &&& 31))) = 0 then (wp_X1_latestOf_47 (fun x1 x2 x3 x4 x5 I => wp_X1_latestOf_8  Post nn8 x1 x2 x3 x4 x5 I) Post x1 x2 x3 x4 x5 J2) else (if r1 ≤ x4 then (wp_X1_latestOf_47 (fun x1 x2 x3 x4 x5 I => wp_X1_latestOf_8  Post nn8 x1 x2 x3 x4 x5 I) Post x1 x2 x3 x4 x5 J2) else (wp_X1_latestOf_47 (fun x1 x2 x3 x4 x5 I => wp_X1_latestOf_8  Post nn8 x1 x2 x3 x4 x5 I) Post x1 x2 x5 r1 x5 J2))))
def wp_X1_latestOf  (x1 : Int32) (x2 : Int32) (I : Mm) (Post : Int32 → Mm → Prop) : Prop := ∃ nn8, wp_X1_latestOf_8  Post nn8 x1 x2 (0 : Int32) (-1 : Int32) (0 : Int32) I

set_option maxRecDepth 100000 in
set_option maxHeartbeats 4000000 in
theorem t_X1_latestOf_47 {f : Fx} {g : Gm}  {Post : Int32 → Mm → Prop} {Kb : Int32 → Int32 → Int32 → Int32 → Int32 → Mm → Prop} (hC : Cx f cX1_latestOf 7 RX1 wsX1_latestOf rm_X1_latestOf) (hN : shN g) (hR : RtI f cX1_latestOf (fun r u => u.1 = g ∧ Post r u.2)) (hKb : ∀ (x1 : Int32) (x2 : Int32) (x3 : Int32) (x4 : Int32) (x5 : Int32) (I : Mm) , Kb x1 x2 x3 x4 x5 I → PW f 0 0 g I 8 [(0, .ref (gA g 8)), (1, .int x1), (2, .int x2), (3, .int x3), (4, .int x4), (5, .int x5)] []) : ∀ (x1 : Int32) (x2 : Int32) (x3 : Int32) (x4 : Int32) (x5 : Int32) (I : Mm) , wp_X1_latestOf_47  Kb Post x1 x2 x3 x4 x5 I → PW f 0 0 g I 47 [(0, .ref (gA g 8)), (1, .int x1), (2, .int x2), (3, .int x3), (4, .int x4), (5, .int x5)] [] := by
  intro x1 x2 x3 x4 x5 I  hw
  unfold wp_X1_latestOf_47 at hw
  refine r_iinc hC (k := 1) (lv' := [(5, .int (x5 + 1)), (0, .ref (gA g 8)), (1, .int x1), (2, .int x2), (3, .int x3), (4, .int x4)]) dX1_latestOf_47 rfl (j := 5) rfl (by decide) (by decide) rfl ?_
  refine r_goto hC (tgt := 8) dX1_latestOf_50 (by decide) ?_
  exact r_sub (lv' := [(0, .ref (gA g 8)), (1, .int x1), (2, .int x2), (3, .int x3), (4, .int x4), (5, .int (x5 + 1))]) [1, 2, 3, 4, 5, 0] rfl (hKb _ _ _ _ _ _ hw)
set_option maxRecDepth 100000 in
set_option maxHeartbeats 4000000 in
theorem t_X1_latestOf_8 {f : Fx} {g : Gm}  {Post : Int32 → Mm → Prop}  (hC : Cx f cX1_latestOf 7 RX1 wsX1_latestOf rm_X1_latestOf) (hN : shN g) (hR : RtI f cX1_latestOf (fun r u => u.1 = g ∧ Post r u.2))  : ∀ (nn8 : Nat) (x1 : Int32) (x2 : Int32) (x3 : Int32) (x4 : Int32) (x5 : Int32) (I : Mm) , wp_X1_latestOf_8   Post nn8 x1 x2 x3 x4 x5 I → PW f 0 0 g I 8 [(0, .ref (gA g 8)), (1, .int x1), (2, .int x2), (3, .int x3), (4, .int x4), (5, .int x5)] [] := by
  intro nn8
  induction nn8 with
  | zero =>
    intro x1 x2 x3 x4 x5 I  hw
    exact absurd hw id
  | succ nn8 ih =>
    intro x1 x2 x3 x4 x5 I  hw
    unfold wp_X1_latestOf_8 at hw
    refine r_iload hC dX1_latestOf_8 rfl (j := 5) rfl ?_
    refine r_bipush hC (v := (8 : Int32)) dX1_latestOf_10 rfl (by decide) ?_
    refine r_icmp_ge hC (tgt := 53) dX1_latestOf_12 rfl (by decide) hw (fun hw => ?_) (fun hw => ?_)
    · refine r_iload_n hC dX1_latestOf_53 rfl rfl (j := 3) rfl ?_
      exact r_retI hC hR ⟨rfl, rfl⟩ dX1_latestOf_54 hw
    · refine r_aload_n hC dX1_latestOf_15 rfl rfl (j := 0) rfl ?_
      refine r_iload hC dX1_latestOf_16 rfl (j := 5) rfl ?_
      refine r_iload_n hC dX1_latestOf_18 rfl rfl (j := 2) rfl ?_
      refine r_callI hC (a_V hC (k := 2) (c_X2_nextOf hN hw) ci_X2_nextOf gX1_latestOf_X2_nextOf rfl ⟨Nat.le_of_ble_eq_true rfl, Nat.le_of_ble_eq_true rfl⟩ ⟨Nat.le_of_ble_eq_true rfl, Nat.le_of_ble_eq_true rfl⟩ rfl (by decide) (hN).1.1 (List.mem_singleton.mp (hN).1.2) rfl rfl (Nat.le_of_ble_eq_true rfl) dX1_latestOf_19) ⟨rfl, rfl⟩ rfl (fun r1 J2 hw => ?_)
      refine r_istore hC (lv' := [(6, .int r1), (0, .ref (gA g 8)), (1, .int x1), (2, .int x2), (3, .int x3), (4, .int x4), (5, .int x5)]) dX1_latestOf_22 rfl (by decide) rfl ?_
      refine r_iload_n hC dX1_latestOf_24 rfl rfl (j := 2) rfl ?_
      refine r_iconst hC (v := (1 : Int32)) dX1_latestOf_25 rfl (by decide) ?_
      refine r_iload hC dX1_latestOf_26 rfl (j := 6) rfl ?_
      refine r_ishl hC dX1_latestOf_28 rfl ?_
      refine r_iand hC dX1_latestOf_29 rfl ?_
      refine r_if_eq hC (tgt := 47) dX1_latestOf_30 rfl (by decide) hw (fun hw => ?_) (fun hw => ?_)
      · exact r_sub (lv' := [(0, .ref (gA g 8)), (1, .int x1), (2, .int x2), (3, .int x3), (4, .int x4), (5, .int x5)]) [1, 2, 3, 4, 5, 6] rfl (t_X1_latestOf_47 hC hN hR (fun x1 x2 x3 x4 x5 I  hw => ih x1 x2 x3 x4 x5 I  hw) _ _ _ _ _ _ hw)
      · refine r_iload hC dX1_latestOf_33 rfl (j := 0) rfl ?_
        refine r_iload hC dX1_latestOf_35 rfl (j := 5) rfl ?_
        refine r_icmp_le hC (tgt := 47) dX1_latestOf_37 rfl (by decide) hw (fun hw => ?_) (fun hw => ?_)
        · exact r_sub (lv' := [(0, .ref (gA g 8)), (1, .int x1), (2, .int x2), (3, .int x3), (4, .int x4), (5, .int x5)]) [1, 2, 3, 4, 5, 6] rfl (t_X1_latestOf_47 hC hN hR (fun x1 x2 x3 x4 x5 I  hw => ih x1 x2 x3 x4 x5 I  hw) _ _ _ _ _ _ hw)
        · refine r_iload hC dX1_latestOf_40 rfl (j := 6) rfl ?_
          refine r_istore_n hC (lv' := [(3, .int x5), (6, .int r1), (0, .ref (gA g 8)), (1, .int x1), (2, .int x2), (4, .int x4), (5, .int x5)]) dX1_latestOf_42 rfl rfl (by decide) rfl ?_
          refine r_iload hC dX1_latestOf_43 rfl (j := 1) rfl ?_
          refine r_istore hC (lv' := [(4, .int r1), (3, .int x5), (6, .int r1), (0, .ref (gA g 8)), (1, .int x1), (2, .int x2), (5, .int x5)]) dX1_latestOf_45 rfl (by decide) rfl ?_
          exact r_sub (lv' := [(0, .ref (gA g 8)), (1, .int x1), (2, .int x2), (3, .int x5), (4, .int r1), (5, .int x5)]) [3, 4, 5, 1, 0, 6] rfl (t_X1_latestOf_47 hC hN hR (fun x1 x2 x3 x4 x5 I  hw => ih x1 x2 x3 x4 x5 I  hw) _ _ _ _ _ _ hw)
set_option maxRecDepth 100000 in
set_option maxHeartbeats 4000000 in
theorem t_X1_latestOf_0 {f : Fx} {g : Gm}  {Post : Int32 → Mm → Prop} {x1 : Int32} {x2 : Int32} {I : Mm} (hC : Cx f cX1_latestOf 7 RX1 wsX1_latestOf rm_X1_latestOf) (hN : shN g) (hR : RtI f cX1_latestOf (fun r u => u.1 = g ∧ Post r u.2)) (hw : wp_X1_latestOf  x1 x2 I Post) : PW f 0 0 g I 0 [(0, .ref (gA g 8)), (1, .int x1), (2, .int x2)] [] := by
  unfold wp_X1_latestOf at hw
  refine r_iconst hC (v := (0 : Int32)) dX1_latestOf_0 rfl (by decide) ?_
  refine r_istore_n hC (lv' := [(3, .int (0 : Int32)), (0, .ref (gA g 8)), (1, .int x1), (2, .int x2)]) dX1_latestOf_1 rfl rfl (by decide) rfl ?_
  refine r_iconst hC (v := (-1 : Int32)) dX1_latestOf_2 rfl (by decide) ?_
  refine r_istore hC (lv' := [(4, .int (-1 : Int32)), (3, .int (0 : Int32)), (0, .ref (gA g 8)), (1, .int x1), (2, .int x2)]) dX1_latestOf_3 rfl (by decide) rfl ?_
  refine r_iconst hC (v := (0 : Int32)) dX1_latestOf_5 rfl (by decide) ?_
  refine r_istore hC (lv' := [(5, .int (0 : Int32)), (4, .int (-1 : Int32)), (3, .int (0 : Int32)), (0, .ref (gA g 8)), (1, .int x1), (2, .int x2)]) dX1_latestOf_6 rfl (by decide) rfl ?_
  obtain ⟨nn8, hw⟩ := hw
  exact r_sub (lv' := [(0, .ref (gA g 8)), (1, .int x1), (2, .int x2), (3, .int (0 : Int32)), (4, .int (-1 : Int32)), (5, .int (0 : Int32))]) [3, 4, 5, 2, 1, 0] rfl ((t_X1_latestOf_8 hC hN hR nn8 _ _ _ _ _ _ hw))
set_option maxRecDepth 100000 in
theorem c_X1_latestOf {l : Launch} {x : Gx} {g : Gm}  {x1 : Int32} {x2 : Int32} {I : Mm} {Post : Int32 → Mm → Prop} (hN : shN g) (hw : wp_X1_latestOf  x1 x2 I Post) : KI l x yX1_latestOf wsX1_latestOf rm_X1_latestOf g I [.ref (gA g 8), .int x1, .int x2] (fun r u => u.1 = g ∧ Post r u.2) := KI_of (by decide) rfl rfl (Nat.le_of_ble_eq_true rfl) (fun f hC _ _ hR => t_X1_latestOf_0 hC hN hR hw)

/-! X1_follow -/
abbrev rm_X1_follow : Room := { frames := 2, cells := 0, slots := 0, locals := 49 }
theorem ci_X1_follow : CI yX1_follow wsX1_follow cX1_follow 6 none 2 := ⟨⟨_, rfl⟩, by decide, by decide, by decide +kernel⟩
def wp_X1_follow_97  (Kb : Int32 → Int32 → Int32 → Mm → Prop) (Post : Mm → Prop) (x2 : Int32) (x3 : Int32) (x4 : Int32) (I : Mm) : Prop := Kb x2 x3 (x4 + 1) I
def wp_X1_follow_92  (Kb : Int32 → Int32 → Int32 → Mm → Prop) (Post : Mm → Prop) (x2 : Int32) (x3 : Int32) (x4 : Int32) (x5 : Int32) (I : Mm) : Prop := wp_X1_follow_97 Kb Post x2 (x3 ||| x5) x4 I
def wp_X1_follow_10   (Post : Mm → Prop) : Nat → Int32 → Int32 → Int32 → Mm → Prop
  | 0, _, _, _, _ => False
  | nn10 + 1, x2, x3, x4, I => if (I 8 1) ≤ x4 then (Post I) else (vp_in x4 24 ∧ (vp_in x4 24 ∧ (if (x3 &&& ((1 : Int32) <<< ((I 9 x4.toNatClampNeg) &&& 31))) = 0 then (wp_J6_bitCount_0f7a4 x3 (up2 (up2 I 11 x4.toNatClampNeg (-9 : Int32)) 10 1 (((up2 I 11 x4.toNatClampNeg (-9 : Int32)) 10 1) + (1 : Int32))) (fun r1 J2 => if r1 = x2 then (wp_X1_latestOf x3 x4 J2 (fun r3 J4 => vp_in x4 24 ∧ (vp_in x4 24 ∧ (wp_X1_follow_92 (fun x2 x3 x4 I => wp_X1_follow_10  Post nn10 x2 x3 x4 I) Post x2 (x3 &&& (((1 : Int32) <<< (((up2 J4 11 x4.toNatClampNeg r3) 11 x4.toNatClampNeg) &&& 31)) ^^^ (-1 : Int32))) x4 ((1 : Int32) <<< ((I 9 x4.toNatClampNeg) &&& 31)) (up2 J4 11 x4.toNatClampNeg r3))))) else (wp_X1_follow_92 (fun x2 x3 x4 I => wp_X1_follow_10  Post nn10 x2 x3 x4 I) Post x2 x3 x4 ((1 : Int32) <<< ((I 9 x4.toNatClampNeg) &&& 31)) J2))) else (wp_X1_follow_97 (fun x2 x3 x4 I => wp_X1_follow_10  Post nn10 x2 x3 x4 I) Post x2 x3 x4 (up2 I 11 x4.toNatClampNeg (-9 : Int32))))))
def wp_X1_follow  (x2 : Int32) (I : Mm) (Post : Mm → Prop) : Prop := ∃ nn10, wp_X1_follow_10  Post nn10 x2 (0 : Int32) (0 : Int32) (up2 I 10 1 (0 : Int32))
set_option maxRecDepth 20000 in
theorem uw_X1_follow_1 : ∀ w ∈ u_ws RX1 TX1 2, w ∈ wsX1_follow := by decide +kernel
set_option maxRecDepth 20000 in
theorem ffp_X1_follow_15 : ∀ k ∈ ([1] : List Nat), FF wsX1_follow RX1 15 k 1 ∧ fR k 1 = false ∧ FP k 1 := List.forall_mem_cons.mpr ⟨⟨⟨RX1, TX1, 2, "PageDesks$Latest", rfl, rfl, by decide, by decide, uw_X1_follow_1, (List.mem_of_getElem? (i := 1) rfl), Or.inl rfl⟩, rfl, ⟨RX1, TX1, 2, tyX1, rfl, tyX1_ok, nmX1, rfl, rfl⟩⟩, fun _ h => absurd h List.not_mem_nil⟩
set_option maxRecDepth 20000 in
theorem uw_X1_follow_2 : ∀ w ∈ u_ws RX2 TX2 2, w ∈ wsX1_follow := by decide +kernel
set_option maxRecDepth 20000 in
theorem ffg_X1_follow_19 : ∀ k ∈ ([2] : List Nat), FF wsX1_follow RX1 19 k 1 ∧ fR k 1 = false := List.forall_mem_cons.mpr ⟨⟨⟨RX2, TX2, 2, "PageDesks$Line", rfl, rfl, by decide, by decide, uw_X1_follow_2, (List.mem_of_getElem? (i := 2) rfl), Or.inl rfl⟩, rfl⟩, fun _ h => absurd h List.not_mem_nil⟩
set_option maxRecDepth 20000 in
theorem ffg_X1_follow_24 : ∀ k ∈ ([2] : List Nat), FF wsX1_follow RX1 24 k 0 ∧ fR k 0 = true := List.forall_mem_cons.mpr ⟨⟨⟨RX2, TX2, 2, "PageDesks$Line", rfl, rfl, by decide, by decide, uw_X1_follow_2, (List.mem_of_getElem? (i := 3) rfl), Or.inl rfl⟩, rfl⟩, fun _ h => absurd h List.not_mem_nil⟩
set_option maxRecDepth 20000 in
theorem ffg_X1_follow_9 : ∀ k ∈ ([1] : List Nat), FF wsX1_follow RX1 9 k 0 ∧ fR k 0 = true := List.forall_mem_cons.mpr ⟨⟨⟨RX1, TX1, 2, "PageDesks$Latest", rfl, rfl, by decide, by decide, uw_X1_follow_1, (List.mem_of_getElem? (i := 4) rfl), Or.inl rfl⟩, rfl⟩, fun _ h => absurd h List.not_mem_nil⟩
set_option maxRecDepth 20000 in
theorem ffg_X1_follow_15 : ∀ k ∈ ([1] : List Nat), FF wsX1_follow RX1 15 k 1 ∧ fR k 1 = false := List.forall_mem_cons.mpr ⟨⟨⟨RX1, TX1, 2, "PageDesks$Latest", rfl, rfl, by decide, by decide, uw_X1_follow_1, (List.mem_of_getElem? (i := 1) rfl), Or.inl rfl⟩, rfl⟩, fun _ h => absurd h List.not_mem_nil⟩
set_option maxRecDepth 100000 in
set_option maxHeartbeats 4000000 in
theorem t_X1_follow_97 {f : Fx} {g : Gm}  {Post : Mm → Prop} {Kb : Int32 → Int32 → Int32 → Mm → Prop} (hC : Cx f cX1_follow 6 RX1 wsX1_follow rm_X1_follow) (hG : shE g) (hN : shN g) (hR : RtV f cX1_follow (fun u => u.1 = g ∧ Post u.2)) (hKb : ∀ (x2 : Int32) (x3 : Int32) (x4 : Int32) (I : Mm) , Kb x2 x3 x4 I → PW f 0 0 g I 10 [(0, .ref (gA g 10)), (1, .ref (gA g 8)), (2, .int x2), (3, .int x3), (4, .int x4)] []) : ∀ (x2 : Int32) (x3 : Int32) (x4 : Int32) (I : Mm) , wp_X1_follow_97  Kb Post x2 x3 x4 I → PW f 0 0 g I 97 [(0, .ref (gA g 10)), (1, .ref (gA g 8)), (2, .int x2), (3, .int x3), (4, .int x4)] [] := by
  intro x2 x3 x4 I  hw
  unfold wp_X1_follow_97 at hw
  refine r_iinc hC (k := 1) (lv' := [(4, .int (x4 + 1)), (0, .ref (gA g 10)), (1, .ref (gA g 8)), (2, .int x2), (3, .int x3)]) dX1_follow_97 rfl (j := 4) rfl (by decide) (by decide) rfl ?_
  refine r_goto hC (tgt := 10) dX1_follow_100 (by decide) ?_
  exact r_sub (lv' := [(0, .ref (gA g 10)), (1, .ref (gA g 8)), (2, .int x2), (3, .int x3), (4, .int (x4 + 1))]) [1, 2, 3, 4, 0] rfl (hKb _ _ _ _ hw)
set_option maxRecDepth 100000 in
set_option maxHeartbeats 4000000 in
theorem t_X1_follow_92 {f : Fx} {g : Gm}  {Post : Mm → Prop} {Kb : Int32 → Int32 → Int32 → Mm → Prop} (hC : Cx f cX1_follow 6 RX1 wsX1_follow rm_X1_follow) (hG : shE g) (hN : shN g) (hR : RtV f cX1_follow (fun u => u.1 = g ∧ Post u.2)) (hKb : ∀ (x2 : Int32) (x3 : Int32) (x4 : Int32) (I : Mm) , Kb x2 x3 x4 I → PW f 0 0 g I 10 [(0, .ref (gA g 10)), (1, .ref (gA g 8)), (2, .int x2), (3, .int x3), (4, .int x4)] []) : ∀ (x2 : Int32) (x3 : Int32) (x4 : Int32) (x5 : Int32) (I : Mm) , wp_X1_follow_92  Kb Post x2 x3 x4 x5 I → PW f 0 0 g I 92 [(0, .ref (gA g 10)), (1, .ref (gA g 8)), (2, .int x2), (3, .int x3), (4, .int x4), (5, .int x5)] [] := by
  intro x2 x3 x4 x5 I  hw
  unfold wp_X1_follow_92 at hw
  refine r_iload_n hC dX1_follow_92 rfl rfl (j := 3) rfl ?_
  refine r_iload hC dX1_follow_93 rfl (j := 5) rfl ?_
  refine r_ior hC dX1_follow_95 rfl ?_
  refine r_istore_n hC (lv' := [(3, .int (x3 ||| x5)), (0, .ref (gA g 10)), (1, .ref (gA g 8)), (2, .int x2), (4, .int x4), (5, .int x5)]) dX1_follow_96 rfl rfl (by decide) rfl ?_
  exact r_sub (lv' := [(0, .ref (gA g 10)), (1, .ref (gA g 8)), (2, .int x2), (3, .int (x3 ||| x5)), (4, .int x4)]) [1, 2, 3, 0, 4] rfl (t_X1_follow_97 hC hG hN hR hKb _ _ _ _ hw)
set_option maxRecDepth 100000 in
set_option maxHeartbeats 4000000 in
theorem t_X1_follow_10 {f : Fx} {g : Gm}  {Post : Mm → Prop}  (hC : Cx f cX1_follow 6 RX1 wsX1_follow rm_X1_follow) (hG : shE g) (hN : shN g) (hR : RtV f cX1_follow (fun u => u.1 = g ∧ Post u.2))  : ∀ (nn10 : Nat) (x2 : Int32) (x3 : Int32) (x4 : Int32) (I : Mm) , wp_X1_follow_10   Post nn10 x2 x3 x4 I → PW f 0 0 g I 10 [(0, .ref (gA g 10)), (1, .ref (gA g 8)), (2, .int x2), (3, .int x3), (4, .int x4)] [] := by
  intro nn10
  induction nn10 with
  | zero =>
    intro x2 x3 x4 I  hw
    exact absurd hw id
  | succ nn10 ih =>
    intro x2 x3 x4 I  hw
    unfold wp_X1_follow_10 at hw
    refine r_iload hC dX1_follow_10 rfl (j := 4) rfl ?_
    refine r_aload_n hC dX1_follow_12 rfl rfl (j := 1) rfl ?_
    refine r_getI hC dX1_follow_13 rfl (hN).1.1 (hN).1.2 ffg_X1_follow_19 ?_
    refine r_icmp_ge hC (tgt := 103) dX1_follow_16 rfl (by decide) hw (fun hw => ?_) (fun hw => ?_)
    · exact r_retV hC hR ⟨rfl, rfl⟩ dX1_follow_103 hw
    · refine r_iconst hC (v := (1 : Int32)) dX1_follow_19 rfl (by decide) ?_
      refine r_aload_n hC dX1_follow_20 rfl rfl (j := 1) rfl ?_
      refine r_getR hC dX1_follow_21 rfl (hN).1.1 (hN).1.2 ffg_X1_follow_24 (hN).2.2 ?_
      refine r_iload hC dX1_follow_24 rfl (j := 4) rfl ?_
      obtain ⟨hi, hw⟩ := hw
      refine r_iald hC dX1_follow_26 rfl ((hN).2.1).1 ((hN).2.1).2.1 (by rw [((hN).2.1).2.2]; exact hi) ?_
      refine r_ishl hC dX1_follow_27 rfl ?_
      refine r_istore hC (lv' := [(5, .int ((1 : Int32) <<< ((I 9 x4.toNatClampNeg) &&& 31))), (0, .ref (gA g 10)), (1, .ref (gA g 8)), (2, .int x2), (3, .int x3), (4, .int x4)]) dX1_follow_28 rfl (by decide) rfl ?_
      refine r_aload_n hC dX1_follow_30 rfl rfl (j := 1) rfl ?_
      refine r_getR hC dX1_follow_31 rfl (hG).1.1 (hG).1.2 ffg_X1_follow_9 (hG).2.2 ?_
      refine r_iload hC dX1_follow_34 rfl (j := 5) rfl ?_
      refine r_bipush hC (v := (-9 : Int32)) dX1_follow_36 rfl (by decide) ?_
      obtain ⟨hi, hw⟩ := hw
      refine r_iast hC dX1_follow_38 rfl ((hG).2.1).1 ((hG).2.1).2.1 (by rw [((hG).2.1).2.2]; exact hi) ?_
      refine r_iload_n hC dX1_follow_39 rfl rfl (j := 4) rfl ?_
      refine r_iload hC dX1_follow_40 rfl (j := 0) rfl ?_
      refine r_iand hC dX1_follow_42 rfl ?_
      refine r_if_ne hC (tgt := 97) dX1_follow_43 rfl (by decide) hw (fun hw => ?_) (fun hw => ?_)
      · exact r_sub (lv' := [(0, .ref (gA g 10)), (1, .ref (gA g 8)), (2, .int x2), (3, .int x3), (4, .int x4)]) [1, 2, 3, 4, 5] rfl (t_X1_follow_97 hC hG hN hR (fun x2 x3 x4 I  hw => ih x2 x3 x4 I  hw) _ _ _ _ hw)
      · refine r_aload_n hC dX1_follow_46 rfl rfl (j := 1) rfl ?_
        refine r_dup hC dX1_follow_47 rfl rfl ?_
        refine r_getI hC dX1_follow_48 rfl (hG).1.1 (hG).1.2 ffg_X1_follow_15 ?_
        refine r_iconst hC (v := (1 : Int32)) dX1_follow_51 rfl (by decide) ?_
        refine r_iadd hC dX1_follow_52 rfl ?_
        refine r_putI hC dX1_follow_53 rfl (hG).1.1 (hG).1.2 ffp_X1_follow_15 ?_
        refine r_iload_n hC dX1_follow_56 rfl rfl (j := 4) rfl ?_
        refine r_callI hC (a_S hC (c_J6_bitCount_0f7a4  hw) ci_J6_bitCount_0f7a4 gX1_follow_J6_bitCount_0f7a4 ⟨Nat.le_of_ble_eq_true rfl, Nat.le_of_ble_eq_true rfl⟩ ⟨Nat.le_of_ble_eq_true rfl, Nat.le_of_ble_eq_true rfl⟩ rfl rfl (Nat.le_of_ble_eq_true rfl) dX1_follow_57) ⟨rfl, rfl⟩ rfl (fun r1 J2 hw => ?_)
        refine r_iload_n hC dX1_follow_60 rfl rfl (j := 3) rfl ?_
        refine r_icmp_ne hC (tgt := 92) dX1_follow_61 rfl (by decide) hw (fun hw => ?_) (fun hw => ?_)
        · exact r_sub (lv' := [(0, .ref (gA g 10)), (1, .ref (gA g 8)), (2, .int x2), (3, .int x3), (4, .int x4), (5, .int ((1 : Int32) <<< ((I 9 x4.toNatClampNeg) &&& 31)))]) [1, 2, 3, 4, 5, 0] rfl (t_X1_follow_92 hC hG hN hR (fun x2 x3 x4 I  hw => ih x2 x3 x4 I  hw) _ _ _ _ _ hw)
        · refine r_aload_n hC dX1_follow_64 rfl rfl (j := 1) rfl ?_
          refine r_getR hC dX1_follow_65 rfl (hG).1.1 (hG).1.2 ffg_X1_follow_9 (hG).2.2 ?_
          refine r_iload hC dX1_follow_68 rfl (j := 5) rfl ?_
          refine r_aload_n hC dX1_follow_70 rfl rfl (j := 2) rfl ?_
          refine r_iload_n hC dX1_follow_71 rfl rfl (j := 4) rfl ?_
          refine r_iload hC dX1_follow_72 rfl (j := 5) rfl ?_
          refine r_callI hC (a_S hC (c_X1_latestOf hN hw) ci_X1_latestOf gX1_follow_X1_latestOf ⟨Nat.le_of_ble_eq_true rfl, Nat.le_of_ble_eq_true rfl⟩ ⟨Nat.le_of_ble_eq_true rfl, Nat.le_of_ble_eq_true rfl⟩ rfl rfl (Nat.le_of_ble_eq_true rfl) dX1_follow_74) ⟨rfl, rfl⟩ rfl (fun r3 J4 hw => ?_)
          obtain ⟨hi, hw⟩ := hw
          refine r_iast hC dX1_follow_77 rfl ((hG).2.1).1 ((hG).2.1).2.1 (by rw [((hG).2.1).2.2]; exact hi) ?_
          refine r_iload_n hC dX1_follow_78 rfl rfl (j := 4) rfl ?_
          refine r_iconst hC (v := (1 : Int32)) dX1_follow_79 rfl (by decide) ?_
          refine r_aload_n hC dX1_follow_80 rfl rfl (j := 1) rfl ?_
          refine r_getR hC dX1_follow_81 rfl (hG).1.1 (hG).1.2 ffg_X1_follow_9 (hG).2.2 ?_
          refine r_iload hC dX1_follow_84 rfl (j := 5) rfl ?_
          obtain ⟨hi, hw⟩ := hw
          refine r_iald hC dX1_follow_86 rfl ((hG).2.1).1 ((hG).2.1).2.1 (by rw [((hG).2.1).2.2]; exact hi) ?_
          refine r_ishl hC dX1_follow_87 rfl ?_
          refine r_iconst hC (v := (-1 : Int32)) dX1_follow_88 rfl (by decide) ?_
          refine r_ixor hC dX1_follow_89 rfl ?_
          refine r_iand hC dX1_follow_90 rfl ?_
          refine r_istore_n hC (lv' := [(3, .int (x3 &&& (((1 : Int32) <<< (((up2 J4 11 x4.toNatClampNeg r3) 11 x4.toNatClampNeg) &&& 31)) ^^^ (-1 : Int32)))), (5, .int ((1 : Int32) <<< ((I 9 x4.toNatClampNeg) &&& 31))), (0, .ref (gA g 10)), (1, .ref (gA g 8)), (2, .int x2), (4, .int x4)]) dX1_follow_91 rfl rfl (by decide) rfl ?_
          exact r_sub (lv' := [(0, .ref (gA g 10)), (1, .ref (gA g 8)), (2, .int x2), (3, .int (x3 &&& (((1 : Int32) <<< (((up2 J4 11 x4.toNatClampNeg r3) 11 x4.toNatClampNeg) &&& 31)) ^^^ (-1 : Int32)))), (4, .int x4), (5, .int ((1 : Int32) <<< ((I 9 x4.toNatClampNeg) &&& 31)))]) [2, 3, 4, 0, 5, 1] rfl (t_X1_follow_92 hC hG hN hR (fun x2 x3 x4 I  hw => ih x2 x3 x4 I  hw) _ _ _ _ _ hw)
set_option maxRecDepth 100000 in
set_option maxHeartbeats 4000000 in
theorem t_X1_follow_0 {f : Fx} {g : Gm}  {Post : Mm → Prop} {x2 : Int32} {I : Mm} (hC : Cx f cX1_follow 6 RX1 wsX1_follow rm_X1_follow) (hG : shE g) (hN : shN g) (hR : RtV f cX1_follow (fun u => u.1 = g ∧ Post u.2)) (hw : wp_X1_follow  x2 I Post) : PW f 0 0 g I 0 [(0, .ref (gA g 10)), (1, .ref (gA g 8)), (2, .int x2)] [] := by
  unfold wp_X1_follow at hw
  refine r_iconst hC (v := (0 : Int32)) dX1_follow_0 rfl (by decide) ?_
  refine r_istore_n hC (lv' := [(3, .int (0 : Int32)), (0, .ref (gA g 10)), (1, .ref (gA g 8)), (2, .int x2)]) dX1_follow_1 rfl rfl (by decide) rfl ?_
  refine r_aload_n hC dX1_follow_2 rfl rfl (j := 1) rfl ?_
  refine r_iconst hC (v := (0 : Int32)) dX1_follow_3 rfl (by decide) ?_
  refine r_putI hC dX1_follow_4 rfl (hG).1.1 (hG).1.2 ffp_X1_follow_15 ?_
  refine r_iconst hC (v := (0 : Int32)) dX1_follow_7 rfl (by decide) ?_
  refine r_istore hC (lv' := [(4, .int (0 : Int32)), (3, .int (0 : Int32)), (0, .ref (gA g 10)), (1, .ref (gA g 8)), (2, .int x2)]) dX1_follow_8 rfl (by decide) rfl ?_
  obtain ⟨nn10, hw⟩ := hw
  exact r_sub (lv' := [(0, .ref (gA g 10)), (1, .ref (gA g 8)), (2, .int x2), (3, .int (0 : Int32)), (4, .int (0 : Int32))]) [2, 3, 4, 1, 0] rfl ((t_X1_follow_10 hC hG hN hR nn10 _ _ _ _ hw))
set_option maxRecDepth 100000 in
theorem c_X1_follow {l : Launch} {x : Gx} {g : Gm}  {x2 : Int32} {I : Mm} {Post : Mm → Prop} (hG : shE g) (hN : shN g) (hw : wp_X1_follow  x2 I Post) : KV l x yX1_follow wsX1_follow rm_X1_follow g I [.ref (gA g 10), .ref (gA g 8), .int x2] (fun u => u.1 = g ∧ Post u.2) := KV_of (by decide) rfl rfl (Nat.le_of_ble_eq_true rfl) (fun f hC _ _ hR => t_X1_follow_0 hC hG hN hR hw)

/-! X2_become -/
abbrev rm_X2_become : Room := { frames := 1, cells := 0, slots := 0, locals := 48 }
theorem ci_X2_become : CI yX2_become wsX2_become cX2_become 3 none 2 := ⟨⟨_, rfl⟩, by decide, by decide, by decide +kernel⟩
def wp_X2_become  (x2 : Int32) (I : Mm) (Post : Mm → Prop) : Prop := (¬ (0 : Int32) < 0 ∧ ¬ (0 : Int32) < 0 ∧ ¬ x2 < 0 ∧ (0 : Int32).toNatClampNeg + x2.toNatClampNeg ≤ 24 ∧ (0 : Int32).toNatClampNeg + x2.toNatClampNeg ≤ 24) ∧ (Post (up2 (va_up I 9 (va_cpy (I 5) (I 9) (0 : Int32).toNatClampNeg (0 : Int32).toNatClampNeg x2.toNatClampNeg)) 8 1 x2))
set_option maxRecDepth 20000 in
theorem uw_X2_become_2 : ∀ w ∈ u_ws RX2 TX2 2, w ∈ wsX2_become := by decide +kernel
set_option maxRecDepth 20000 in
theorem ffg_X2_become_9 : ∀ k ∈ ([2] : List Nat), FF wsX2_become RX2 9 k 0 ∧ fR k 0 = true := List.forall_mem_cons.mpr ⟨⟨⟨RX2, TX2, 2, "PageDesks$Line", rfl, rfl, by decide, by decide, uw_X2_become_2, (List.mem_of_getElem? (i := 1) rfl), Or.inl rfl⟩, rfl⟩, fun _ h => absurd h List.not_mem_nil⟩
set_option maxRecDepth 20000 in
theorem ffp_X2_become_21 : ∀ k ∈ ([2] : List Nat), FF wsX2_become RX2 21 k 1 ∧ fR k 1 = false ∧ FP k 1 := List.forall_mem_cons.mpr ⟨⟨⟨RX2, TX2, 2, "PageDesks$Line", rfl, rfl, by decide, by decide, uw_X2_become_2, (List.mem_of_getElem? (i := 6) rfl), Or.inl rfl⟩, rfl, ⟨RX2, TX2, 2, tyX2, rfl, tyX2_ok, nmX2, rfl, rfl⟩⟩, fun _ h => absurd h List.not_mem_nil⟩
set_option maxRecDepth 100000 in
set_option maxHeartbeats 4000000 in
theorem t_X2_become_0 {f : Fx} {g : Gm}  {Post : Mm → Prop} {x2 : Int32} {I : Mm} (hC : Cx f cX2_become 3 RX2 wsX2_become rm_X2_become) (hG : shN g) (ht : shT g) (hR : RtV f cX2_become (fun u => u.1 = g ∧ Post u.2)) (hw : wp_X2_become  x2 I Post) : PW f 0 0 g I 0 [(0, .ref (gA g 8)), (1, .ref (gA g 5)), (2, .int x2)] [] := by
  unfold wp_X2_become at hw
  refine r_aload_n hC dX2_become_0 rfl rfl (j := 1) rfl ?_
  refine r_iconst hC (v := (0 : Int32)) dX2_become_1 rfl (by decide) ?_
  refine r_aload_n hC dX2_become_2 rfl rfl (j := 0) rfl ?_
  refine r_getR hC dX2_become_3 rfl (hG).1.1 (hG).1.2 ffg_X2_become_9 (hG).2.2 ?_
  refine r_iconst hC (v := (0 : Int32)) dX2_become_6 rfl (by decide) ?_
  refine r_iload_n hC dX2_become_7 rfl rfl (j := 2) rfl ?_
  obtain ⟨⟨h1, h2, h3, h4, h5⟩, hw⟩ := hw
  refine r_copy hC dX2_become_8 rfl (ht.2.2.2.1).1 (ht.2.2.2.1).2.1 ((hG).2.1).1 ((hG).2.1).2.1 h1 h2 h3 (by rw [(ht.2.2.2.1).2.2]; exact h4) (by rw [((hG).2.1).2.2]; exact h5) (List.mem_of_getElem? (i := 2) rfl) (List.mem_of_getElem? (i := 3) rfl) (List.mem_of_getElem? (i := 4) rfl) (List.mem_of_getElem? (i := 5) rfl) (by decide) (Nat.le_of_ble_eq_true rfl) ?_
  refine r_aload_n hC dX2_become_11 rfl rfl (j := 0) rfl ?_
  refine r_iload_n hC dX2_become_12 rfl rfl (j := 2) rfl ?_
  refine r_putI hC dX2_become_13 rfl (hG).1.1 (hG).1.2 ffp_X2_become_21 ?_
  exact r_retV hC hR ⟨rfl, rfl⟩ dX2_become_16 hw
set_option maxRecDepth 100000 in
theorem c_X2_become {l : Launch} {x : Gx} {g : Gm}  {x2 : Int32} {I : Mm} {Post : Mm → Prop} (hG : shN g) (ht : shT g) (hw : wp_X2_become  x2 I Post) : KV l x yX2_become wsX2_become rm_X2_become g I [.ref (gA g 8), .ref (gA g 5), .int x2] (fun u => u.1 = g ∧ Post u.2) := KV_of (by decide) rfl rfl (Nat.le_of_ble_eq_true rfl) (fun f hC _ _ hR => t_X2_become_0 hC hG ht hR hw)

/-! X2_append -/
abbrev rm_X2_append : Room := { frames := 0, cells := 0, slots := 0, locals := 0 }
theorem ci_X2_append : CI yX2_append wsX2_append cX2_append 2 none 1 := ⟨⟨_, rfl⟩, by decide, by decide, by decide +kernel⟩
def wp_X2_append  (x1 : Int32) (I : Mm) (Post : Mm → Prop) : Prop := vp_in (I 8 1) 24 ∧ (Post (up2 (up2 I 9 (I 8 1).toNatClampNeg x1) 8 1 (((up2 I 9 (I 8 1).toNatClampNeg x1) 8 1) + (1 : Int32))))
set_option maxRecDepth 20000 in
theorem uw_X2_append_2 : ∀ w ∈ u_ws RX2 TX2 2, w ∈ wsX2_append := by decide +kernel
set_option maxRecDepth 20000 in
theorem ffg_X2_append_9 : ∀ k ∈ ([2] : List Nat), FF wsX2_append RX2 9 k 0 ∧ fR k 0 = true := List.forall_mem_cons.mpr ⟨⟨⟨RX2, TX2, 2, "PageDesks$Line", rfl, rfl, by decide, by decide, uw_X2_append_2, (List.mem_of_getElem? (i := 1) rfl), Or.inl rfl⟩, rfl⟩, fun _ h => absurd h List.not_mem_nil⟩
set_option maxRecDepth 20000 in
theorem ffg_X2_append_21 : ∀ k ∈ ([2] : List Nat), FF wsX2_append RX2 21 k 1 ∧ fR k 1 = false := List.forall_mem_cons.mpr ⟨⟨⟨RX2, TX2, 2, "PageDesks$Line", rfl, rfl, by decide, by decide, uw_X2_append_2, (List.mem_of_getElem? (i := 2) rfl), Or.inl rfl⟩, rfl⟩, fun _ h => absurd h List.not_mem_nil⟩
set_option maxRecDepth 20000 in
theorem ffp_X2_append_21 : ∀ k ∈ ([2] : List Nat), FF wsX2_append RX2 21 k 1 ∧ fR k 1 = false ∧ FP k 1 := List.forall_mem_cons.mpr ⟨⟨⟨RX2, TX2, 2, "PageDesks$Line", rfl, rfl, by decide, by decide, uw_X2_append_2, (List.mem_of_getElem? (i := 2) rfl), Or.inl rfl⟩, rfl, ⟨RX2, TX2, 2, tyX2, rfl, tyX2_ok, nmX2, rfl, rfl⟩⟩, fun _ h => absurd h List.not_mem_nil⟩
set_option maxRecDepth 100000 in
set_option maxHeartbeats 4000000 in
theorem t_X2_append_0 {f : Fx} {g : Gm}  {Post : Mm → Prop} {x1 : Int32} {I : Mm} (hC : Cx f cX2_append 2 RX2 wsX2_append rm_X2_append) (hG : shN g) (hR : RtV f cX2_append (fun u => u.1 = g ∧ Post u.2)) (hw : wp_X2_append  x1 I Post) : PW f 0 0 g I 0 [(0, .ref (gA g 8)), (1, .int x1)] [] := by
  unfold wp_X2_append at hw
  refine r_aload_n hC dX2_append_0 rfl rfl (j := 0) rfl ?_
  refine r_getR hC dX2_append_1 rfl (hG).1.1 (hG).1.2 ffg_X2_append_9 (hG).2.2 ?_
  refine r_aload_n hC dX2_append_4 rfl rfl (j := 0) rfl ?_
  refine r_getI hC dX2_append_5 rfl (hG).1.1 (hG).1.2 ffg_X2_append_21 ?_
  refine r_iload_n hC dX2_append_8 rfl rfl (j := 1) rfl ?_
  obtain ⟨hi, hw⟩ := hw
  refine r_iast hC dX2_append_9 rfl ((hG).2.1).1 ((hG).2.1).2.1 (by rw [((hG).2.1).2.2]; exact hi) ?_
  refine r_aload_n hC dX2_append_10 rfl rfl (j := 0) rfl ?_
  refine r_dup hC dX2_append_11 rfl rfl ?_
  refine r_getI hC dX2_append_12 rfl (hG).1.1 (hG).1.2 ffg_X2_append_21 ?_
  refine r_iconst hC (v := (1 : Int32)) dX2_append_15 rfl (by decide) ?_
  refine r_iadd hC dX2_append_16 rfl ?_
  refine r_putI hC dX2_append_17 rfl (hG).1.1 (hG).1.2 ffp_X2_append_21 ?_
  exact r_retV hC hR ⟨rfl, rfl⟩ dX2_append_20 hw
set_option maxRecDepth 100000 in
theorem c_X2_append {l : Launch} {x : Gx} {g : Gm}  {x1 : Int32} {I : Mm} {Post : Mm → Prop} (hG : shN g) (hw : wp_X2_append  x1 I Post) : KV l x yX2_append wsX2_append rm_X2_append g I [.ref (gA g 8), .int x1] (fun u => u.1 = g ∧ Post u.2) := KV_of (by decide) rfl rfl (Nat.le_of_ble_eq_true rfl) (fun f hC _ _ hR => t_X2_append_0 hC hG hR hw)
