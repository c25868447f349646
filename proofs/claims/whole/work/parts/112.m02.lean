/-! X4_agree -/
abbrev rm_X4_agree : Room := { frames := 0, cells := 0, slots := 0, locals := 0 }
theorem ci_X4_agree : CI yX4_agree wsX4_agree cX4_agree 4 (some .boolean) 2 := ⟨⟨_, rfl⟩, by decide, by decide, by decide +kernel⟩
def wp_X4_agree_41  (Kb : Int32 → Int32 → Int32 → Mm → Prop) (Post : Int32 → Mm → Prop) (x1 : Int32) (x2 : Int32) (x3 : Int32) (I : Mm) : Prop := Kb x1 x2 (x3 + 1) I
def wp_X4_agree_2   (Post : Int32 → Mm → Prop) : Nat → Int32 → Int32 → Int32 → Mm → Prop
  | 0, _, _, _, _ => False
  | nn2 + 1, x1, x2, x3, I => if (I 12 3) ≤ x3 then (Post (1 : Int32) I) else (vp_in x3 8 ∧ (if (I 13 x3.toNatClampNeg) = x1 then (vp_in x3 8 ∧ (vp_in x3 8 ∧ (if ((x2 >>> ((I 14 x3.toNatClampNeg) &&& 31)) &&& (1 : Int32)) = (I 15 x3.toNatClampNeg) then (wp_X4_agree_41 (fun x1 x2 x3 I => wp_X4_agree_2  Post nn2 x1 x2 x3 I) Post x1 x2 x3 I) else (Post (0 : Int32) I)))) else (wp_X4_agree_41 (fun x1 x2 x3 I => wp_X4_agree_2  Post nn2 x1 x2 x3 I) Post x1 x2 x3 I)))
def wp_X4_agree  (x1 : Int32) (x2 : Int32) (I : Mm) (Post : Int32 → Mm → Prop) : Prop := ∃ nn2, wp_X4_agree_2  Post nn2 x1 x2 (0 : Int32) I
set_option maxRecDepth 20000 in
theorem uw_X4_agree_4 : ∀ w ∈ u_ws RX4 TX4 4, w ∈ wsX4_agree := by decide +kernel
set_option maxRecDepth 20000 in
theorem ffg_X4_agree_21 : ∀ k ∈ ([4] : List Nat), FF wsX4_agree RX4 21 k 3 ∧ fR k 3 = false := List.forall_mem_cons.mpr ⟨⟨⟨RX4, TX4, 4, "PageDesks$Readings", rfl, rfl, by decide, by decide, uw_X4_agree_4, (List.mem_of_getElem? (i := 1) rfl), Or.inl rfl⟩, rfl⟩, fun _ h => absurd h List.not_mem_nil⟩
set_option maxRecDepth 20000 in
theorem ffg_X4_agree_9 : ∀ k ∈ ([4] : List Nat), FF wsX4_agree RX4 9 k 0 ∧ fR k 0 = true := List.forall_mem_cons.mpr ⟨⟨⟨RX4, TX4, 4, "PageDesks$Readings", rfl, rfl, by decide, by decide, uw_X4_agree_4, (List.mem_of_getElem? (i := 2) rfl), Or.inl rfl⟩, rfl⟩, fun _ h => absurd h List.not_mem_nil⟩
set_option maxRecDepth 20000 in
theorem ffg_X4_agree_15 : ∀ k ∈ ([4] : List Nat), FF wsX4_agree RX4 15 k 1 ∧ fR k 1 = true := List.forall_mem_cons.mpr ⟨⟨⟨RX4, TX4, 4, "PageDesks$Readings", rfl, rfl, by decide, by decide, uw_X4_agree_4, (List.mem_of_getElem? (i := 3) rfl), Or.inl rfl⟩, rfl⟩, fun _ h => absurd h List.not_mem_nil⟩
set_option maxRecDepth 20000 in
theorem ffg_X4_agree_18 : ∀ k ∈ ([4] : List Nat), FF wsX4_agree RX4 18 k 2 ∧ fR k 2 = true := List.forall_mem_cons.mpr ⟨⟨⟨RX4, TX4, 4, "PageDesks$Readings", rfl, rfl, by decide, by decide, uw_X4_agree_4, (List.mem_of_getElem? (i := 4) rfl), Or.inl rfl⟩, rfl⟩, fun _ h => absurd h List.not_mem_nil⟩
set_option maxRecDepth 100000 in
set_option maxHeartbeats 4000000 in
theorem t_X4_agree_41 {f : Fx} {g : Gm}  {Post : Int32 → Mm → Prop} {Kb : Int32 → Int32 → Int32 → Mm → Prop} (hC : Cx f cX4_agree 4 RX4 wsX4_agree rm_X4_agree) (hG : shG g) (hR : RtZ f cX4_agree (fun r u => u.1 = g ∧ Post r u.2)) (hKb : ∀ (x1 : Int32) (x2 : Int32) (x3 : Int32) (I : Mm) , Kb x1 x2 x3 I → PW f 0 0 g I 2 [(0, .ref (gA g 12)), (1, .int x1), (2, .int x2), (3, .int x3)] []) : ∀ (x1 : Int32) (x2 : Int32) (x3 : Int32) (I : Mm) , wp_X4_agree_41  Kb Post x1 x2 x3 I → PW f 0 0 g I 41 [(0, .ref (gA g 12)), (1, .int x1), (2, .int x2), (3, .int x3)] [] := by
  intro x1 x2 x3 I  hw
  unfold wp_X4_agree_41 at hw
  refine r_iinc hC (k := 1) (lv' := [(3, .int (x3 + 1)), (0, .ref (gA g 12)), (1, .int x1), (2, .int x2)]) dX4_agree_41 rfl (j := 3) rfl (by decide) (by decide) rfl ?_
  refine r_goto hC (tgt := 2) dX4_agree_44 (by decide) ?_
  exact r_sub (lv' := [(0, .ref (gA g 12)), (1, .int x1), (2, .int x2), (3, .int (x3 + 1))]) [1, 2, 3, 0] rfl (hKb _ _ _ _ hw)
set_option maxRecDepth 100000 in
set_option maxHeartbeats 4000000 in
theorem t_X4_agree_2 {f : Fx} {g : Gm}  {Post : Int32 → Mm → Prop}  (hC : Cx f cX4_agree 4 RX4 wsX4_agree rm_X4_agree) (hG : shG g) (hR : RtZ f cX4_agree (fun r u => u.1 = g ∧ Post r u.2))  : ∀ (nn2 : Nat) (x1 : Int32) (x2 : Int32) (x3 : Int32) (I : Mm) , wp_X4_agree_2   Post nn2 x1 x2 x3 I → PW f 0 0 g I 2 [(0, .ref (gA g 12)), (1, .int x1), (2, .int x2), (3, .int x3)] [] := by
  intro nn2
  induction nn2 with
  | zero =>
    intro x1 x2 x3 I  hw
    exact absurd hw id
  | succ nn2 ih =>
    intro x1 x2 x3 I  hw
    unfold wp_X4_agree_2 at hw
    refine r_iload_n hC dX4_agree_2 rfl rfl (j := 3) rfl ?_
    refine r_aload_n hC dX4_agree_3 rfl rfl (j := 0) rfl ?_
    refine r_getI hC dX4_agree_4 rfl (hG).1.1 (hG).1.2 ffg_X4_agree_21 ?_
    refine r_icmp_ge hC (tgt := 47) dX4_agree_7 rfl (by decide) hw (fun hw => ?_) (fun hw => ?_)
    · refine r_iconst hC (v := (1 : Int32)) dX4_agree_47 rfl (by decide) ?_
      exact r_retZ hC hR ⟨rfl, rfl⟩ dX4_agree_48 (by decide) hw
    · refine r_aload_n hC dX4_agree_10 rfl rfl (j := 0) rfl ?_
      refine r_getR hC dX4_agree_11 rfl (hG).1.1 (hG).1.2 ffg_X4_agree_9 (hG).2.2.2.2.1 ?_
      refine r_iload_n hC dX4_agree_14 rfl rfl (j := 3) rfl ?_
      obtain ⟨hi, hw⟩ := hw
      refine r_iald hC dX4_agree_15 rfl ((hG).2.1).1 ((hG).2.1).2.1 (by rw [((hG).2.1).2.2]; exact hi) ?_
      refine r_iload_n hC dX4_agree_16 rfl rfl (j := 1) rfl ?_
      refine r_icmp_ne hC (tgt := 41) dX4_agree_17 rfl (by decide) hw (fun hw => ?_) (fun hw => ?_)
      · exact r_sub (lv' := [(0, .ref (gA g 12)), (1, .int x1), (2, .int x2), (3, .int x3)]) [0, 1, 2, 3] rfl (t_X4_agree_41 hC hG hR (fun x1 x2 x3 I  hw => ih x1 x2 x3 I  hw) _ _ _ _ hw)
      · refine r_iload_n hC dX4_agree_20 rfl rfl (j := 2) rfl ?_
        refine r_aload_n hC dX4_agree_21 rfl rfl (j := 0) rfl ?_
        refine r_getR hC dX4_agree_22 rfl (hG).1.1 (hG).1.2 ffg_X4_agree_15 (hG).2.2.2.2.2.1 ?_
        refine r_iload_n hC dX4_agree_25 rfl rfl (j := 3) rfl ?_
        obtain ⟨hi, hw⟩ := hw
        refine r_iald hC dX4_agree_26 rfl ((hG).2.2.1).1 ((hG).2.2.1).2.1 (by rw [((hG).2.2.1).2.2]; exact hi) ?_
        refine r_ishr hC dX4_agree_27 rfl ?_
        refine r_iconst hC (v := (1 : Int32)) dX4_agree_28 rfl (by decide) ?_
        refine r_iand hC dX4_agree_29 rfl ?_
        refine r_aload_n hC dX4_agree_30 rfl rfl (j := 0) rfl ?_
        refine r_getR hC dX4_agree_31 rfl (hG).1.1 (hG).1.2 ffg_X4_agree_18 (hG).2.2.2.2.2.2 ?_
        refine r_iload_n hC dX4_agree_34 rfl rfl (j := 3) rfl ?_
        obtain ⟨hi, hw⟩ := hw
        refine r_iald hC dX4_agree_35 rfl ((hG).2.2.2.1).1 ((hG).2.2.2.1).2.1 (by rw [((hG).2.2.2.1).2.2]; exact hi) ?_
        refine r_icmp_eq hC (tgt := 41) dX4_agree_36 rfl (by decide) hw (fun hw => ?_) (fun hw => ?_)
        · exact r_sub (lv' := [(0, .ref (gA g 12)), (1, .int x1), (2, .int x2), (3, .int x3)]) [0, 1, 2, 3] rfl (t_X4_agree_41 hC hG hR (fun x1 x2 x3 I  hw => ih x1 x2 x3 I  hw) _ _ _ _ hw)
        · refine r_iconst hC (v := (0 : Int32)) dX4_agree_39 rfl (by decide) ?_
          exact r_retZ hC hR ⟨rfl, rfl⟩ dX4_agree_40 (by decide) hw
set_option maxRecDepth 100000 in
set_option maxHeartbeats 4000000 in
theorem t_X4_agree_0 {f : Fx} {g : Gm}  {Post : Int32 → Mm → Prop} {x1 : Int32} {x2 : Int32} {I : Mm} (hC : Cx f cX4_agree 4 RX4 wsX4_agree rm_X4_agree) (hG : shG g) (hR : RtZ f cX4_agree (fun r u => u.1 = g ∧ Post r u.2)) (hw : wp_X4_agree  x1 x2 I Post) : PW f 0 0 g I 0 [(0, .ref (gA g 12)), (1, .int x1), (2, .int x2)] [] := by
  unfold wp_X4_agree at hw
  refine r_iconst hC (v := (0 : Int32)) dX4_agree_0 rfl (by decide) ?_
  refine r_istore_n hC (lv' := [(3, .int (0 : Int32)), (0, .ref (gA g 12)), (1, .int x1), (2, .int x2)]) dX4_agree_1 rfl rfl (by decide) rfl ?_
  obtain ⟨nn2, hw⟩ := hw
  exact r_sub (lv' := [(0, .ref (gA g 12)), (1, .int x1), (2, .int x2), (3, .int (0 : Int32))]) [1, 2, 3, 0] rfl ((t_X4_agree_2 hC hG hR nn2 _ _ _ _ hw))
set_option maxRecDepth 100000 in
theorem c_X4_agree {l : Launch} {x : Gx} {g : Gm}  {x1 : Int32} {x2 : Int32} {I : Mm} {Post : Int32 → Mm → Prop} (hG : shG g) (hw : wp_X4_agree  x1 x2 I Post) : KI l x yX4_agree wsX4_agree rm_X4_agree g I [.ref (gA g 12), .int x1, .int x2] (fun r u => u.1 = g ∧ Post r u.2) := KZ_of (by decide) rfl rfl (Nat.le_of_ble_eq_true rfl) (fun f hC _ _ hR => t_X4_agree_0 hC hG hR hw)

/-! X5_kind -/
abbrev rm_X5_kind : Room := { frames := 0, cells := 0, slots := 0, locals := 0 }
theorem ci_X5_kind : CI yX5_kind wsX5_kind cX5_kind 1 (some .int) 0 := ⟨⟨_, rfl⟩, by decide, by decide, by decide +kernel⟩
def wp_X5_kind (ki : Nat → Nat) (d : Nat)  (I : Mm) (Post : Int32 → Mm → Prop) : Prop := Post (2 : Int32) I

set_option maxRecDepth 100000 in
set_option maxHeartbeats 4000000 in
theorem t_X5_kind_0 {f : Fx} {g : Gm} {d : Nat} {Post : Int32 → Mm → Prop}  {I : Mm} (hC : Cx f cX5_kind 1 RX5 wsX5_kind rm_X5_kind) (hd : shD g [5] d) (hR : RtI f cX5_kind (fun r u => u.1 = g ∧ Post r u.2)) (hw : wp_X5_kind (gK g) d  I Post) : PW f 0 0 g I 0 [(0, .ref (gA g d))] [] := by
  unfold wp_X5_kind at hw
  refine r_iconst hC (v := (2 : Int32)) dX5_kind_0 rfl (by decide) ?_
  exact r_retI hC hR ⟨rfl, rfl⟩ dX5_kind_1 hw
set_option maxRecDepth 100000 in
theorem c_X5_kind {l : Launch} {x : Gx} {g : Gm} {d : Nat}  {I : Mm} {Post : Int32 → Mm → Prop} (hd : shD g [5] d) (hw : wp_X5_kind (gK g) d  I Post) : KI l x yX5_kind wsX5_kind rm_X5_kind g I [.ref (gA g d)] (fun r u => u.1 = g ∧ Post r u.2) := KI_of (by decide) rfl rfl (Nat.le_of_ble_eq_true rfl) (fun f hC _ _ hR => t_X5_kind_0 hC hd hR hw)

/-! X5_telling -/
abbrev rm_X5_telling : Room := { frames := 3, cells := 0, slots := 0, locals := 63 }
theorem ci_X5_telling : CI yX5_telling wsX5_telling cX5_telling 2 (some .int) 1 := ⟨⟨_, rfl⟩, by decide, by decide, by decide +kernel⟩
def wp_X5_telling (ki : Nat → Nat) (d : Nat)  (I : Mm) (Post : Int32 → Mm → Prop) : Prop := wp_X8_leave (3 : Int32) I (fun J2 => wp_X0_telling ki d J2 (fun r3 J4 => wp_X3_queueTelling ki d J4 (fun r5 J6 => Post (r3 + r5) J6)))

set_option maxRecDepth 100000 in
set_option maxHeartbeats 4000000 in
theorem t_X5_telling_0 {f : Fx} {g : Gm} {d : Nat} {Post : Int32 → Mm → Prop}  {I : Mm} (hC : Cx f cX5_telling 2 RX5 wsX5_telling rm_X5_telling) (hd : shD g [5] d) (hc : shC g) (hR : RtI f cX5_telling (fun r u => u.1 = g ∧ Post r u.2)) (hw : wp_X5_telling (gK g) d  I Post) : PW f 0 0 g I 0 [(0, .ref (gA g d)), (1, .ref (gA g 16))] [] := by
  unfold wp_X5_telling at hw
  refine r_aload_n hC dX5_telling_0 rfl rfl (j := 1) rfl ?_
  refine r_iconst hC (v := (3 : Int32)) dX5_telling_1 rfl (by decide) ?_
  refine r_callV hC (a_V hC (k := 8) (c_X8_leave hc hw) ci_X8_leave gX5_telling_X8_leave rfl ⟨Nat.le_of_ble_eq_true rfl, Nat.le_of_ble_eq_true rfl⟩ ⟨Nat.le_of_ble_eq_true rfl, Nat.le_of_ble_eq_true rfl⟩ rfl (by decide) (hc).1 (List.mem_singleton.mp (hc).2) rfl rfl (Nat.le_of_ble_eq_true rfl) dX5_telling_2) ⟨rfl, rfl⟩ rfl (fun J2 hw => ?_)
  refine r_aload_n hC dX5_telling_5 rfl rfl (j := 0) rfl ?_
  refine r_aload_n hC dX5_telling_6 rfl rfl (j := 1) rfl ?_
  refine r_callI hC (a_SU hC (k := 5) (c_X0_telling (shD.of hd (List.mem_singleton.mp (hd).1.2) (by decide)) hc hw) ci_X0_telling gX5_telling_X0_telling_s23 (by decide) ⟨Nat.le_of_ble_eq_true rfl, Nat.le_of_ble_eq_true rfl⟩ ⟨Nat.le_of_ble_eq_true rfl, Nat.le_of_ble_eq_true rfl⟩ rfl (by decide) (hd).1.1 (List.mem_singleton.mp (hd).1.2) rfl rfl (Nat.le_of_ble_eq_true rfl) dX5_telling_7) ⟨rfl, rfl⟩ rfl (fun r3 J4 hw => ?_)
  refine r_aload_n hC dX5_telling_10 rfl rfl (j := 0) rfl ?_
  refine r_aload_n hC dX5_telling_11 rfl rfl (j := 1) rfl ?_
  refine r_callI hC (a_U hC (k := 5) (rmc := rm_X3_queueTelling) (c_X3_queueTelling (shD.of hd (List.mem_singleton.mp (hd).1.2) (by decide)) hc hw) ci_X3_queueTelling gX5_telling_X3_queueTelling_u27X5 rfl ⟨Nat.le_of_ble_eq_true rfl, Nat.le_of_ble_eq_true rfl⟩ ⟨Nat.le_of_ble_eq_true rfl, Nat.le_of_ble_eq_true rfl⟩ rfl (by decide) (hd).1.1 (List.mem_singleton.mp (hd).1.2) rfl rfl (Nat.le_of_ble_eq_true rfl) dX5_telling_12) ⟨rfl, rfl⟩ rfl (fun r5 J6 hw => ?_)
  refine r_iadd hC dX5_telling_15 rfl ?_
  exact r_retI hC hR ⟨rfl, rfl⟩ dX5_telling_16 hw
set_option maxRecDepth 100000 in
theorem c_X5_telling {l : Launch} {x : Gx} {g : Gm} {d : Nat}  {I : Mm} {Post : Int32 → Mm → Prop} (hd : shD g [5] d) (hc : shC g) (hw : wp_X5_telling (gK g) d  I Post) : KI l x yX5_telling wsX5_telling rm_X5_telling g I [.ref (gA g d), .ref (gA g 16)] (fun r u => u.1 = g ∧ Post r u.2) := KI_of (by decide) rfl rfl (Nat.le_of_ble_eq_true rfl) (fun f hC _ _ hR => t_X5_telling_0 hC hd hc hR hw)

/-! X5_counted -/
abbrev rm_X5_counted : Room := { frames := 1, cells := 0, slots := 0, locals := 21 }
theorem ci_X5_counted : CI yX5_counted wsX5_counted cX5_counted 2 (some .int) 1 := ⟨⟨_, rfl⟩, by decide, by decide, by decide +kernel⟩
def wp_X5_counted (ki : Nat → Nat) (d : Nat)  (I : Mm) (Post : Int32 → Mm → Prop) : Prop := wp_X8_leave (5 : Int32) I (fun J2 => Post (60 : Int32) J2)

set_option maxRecDepth 100000 in
set_option maxHeartbeats 4000000 in
theorem t_X5_counted_0 {f : Fx} {g : Gm} {d : Nat} {Post : Int32 → Mm → Prop}  {I : Mm} (hC : Cx f cX5_counted 2 RX5 wsX5_counted rm_X5_counted) (hd : shD g [5] d) (hc : shC g) (hR : RtI f cX5_counted (fun r u => u.1 = g ∧ Post r u.2)) (hw : wp_X5_counted (gK g) d  I Post) : PW f 0 0 g I 0 [(0, .ref (gA g d)), (1, .ref (gA g 16))] [] := by
  unfold wp_X5_counted at hw
  refine r_aload_n hC dX5_counted_0 rfl rfl (j := 1) rfl ?_
  refine r_iconst hC (v := (5 : Int32)) dX5_counted_1 rfl (by decide) ?_
  refine r_callV hC (a_V hC (k := 8) (c_X8_leave hc hw) ci_X8_leave gX5_counted_X8_leave rfl ⟨Nat.le_of_ble_eq_true rfl, Nat.le_of_ble_eq_true rfl⟩ ⟨Nat.le_of_ble_eq_true rfl, Nat.le_of_ble_eq_true rfl⟩ rfl (by decide) (hc).1 (List.mem_singleton.mp (hc).2) rfl rfl (Nat.le_of_ble_eq_true rfl) dX5_counted_2) ⟨rfl, rfl⟩ rfl (fun J2 hw => ?_)
  refine r_bipush hC (v := (60 : Int32)) dX5_counted_5 rfl (by decide) ?_
  exact r_retI hC hR ⟨rfl, rfl⟩ dX5_counted_7 hw
set_option maxRecDepth 100000 in
theorem c_X5_counted {l : Launch} {x : Gx} {g : Gm} {d : Nat}  {I : Mm} {Post : Int32 → Mm → Prop} (hd : shD g [5] d) (hc : shC g) (hw : wp_X5_counted (gK g) d  I Post) : KI l x yX5_counted wsX5_counted rm_X5_counted g I [.ref (gA g d), .ref (gA g 16)] (fun r u => u.1 = g ∧ Post r u.2) := KI_of (by decide) rfl rfl (Nat.le_of_ble_eq_true rfl) (fun f hC _ _ hR => t_X5_counted_0 hC hd hc hR hw)

/-! X6_isNothing -/
abbrev rm_X6_isNothing : Room := { frames := 0, cells := 0, slots := 0, locals := 0 }
theorem ci_X6_isNothing : CI yX6_isNothing wsX6_isNothing cX6_isNothing 1 (some .boolean) 0 := ⟨⟨_, rfl⟩, by decide, by decide, by decide +kernel⟩
def wp_X6_isNothing (d : Nat)  (I : Mm) (Post : Int32 → Mm → Prop) : Prop := if (I d 1) = (-1 : Int32) then (Post (1 : Int32) I) else (Post (0 : Int32) I)
set_option maxRecDepth 20000 in
theorem uw_X6_isNothing_6 : ∀ w ∈ u_ws RX6 TX6 3, w ∈ wsX6_isNothing := by decide +kernel
set_option maxRecDepth 20000 in
theorem ffg_X6_isNothing_15 : ∀ k ∈ ([6] : List Nat), FF wsX6_isNothing RX6 15 k 1 ∧ fR k 1 = false := List.forall_mem_cons.mpr ⟨⟨⟨RX6, TX6, 3, "PageDesks$Sheet", rfl, rfl, by decide, by decide, uw_X6_isNothing_6, (List.mem_of_getElem? (i := 1) rfl), Or.inl rfl⟩, rfl⟩, fun _ h => absurd h List.not_mem_nil⟩
set_option maxRecDepth 100000 in
set_option maxHeartbeats 4000000 in
theorem t_X6_isNothing_0 {f : Fx} {g : Gm} {d : Nat} {Post : Int32 → Mm → Prop}  {I : Mm} (hC : Cx f cX6_isNothing 1 RX6 wsX6_isNothing rm_X6_isNothing) (hd : shS g d) (hR : RtZ f cX6_isNothing (fun r u => u.1 = g ∧ Post r u.2)) (hw : wp_X6_isNothing d  I Post) : PW f 0 0 g I 0 [(0, .ref (gA g d))] [] := by
  unfold wp_X6_isNothing at hw
  refine r_aload_n hC dX6_isNothing_0 rfl rfl (j := 0) rfl ?_
  refine r_getI hC dX6_isNothing_1 rfl (hd).1.1 (hd).1.2 ffg_X6_isNothing_15 ?_
  refine r_iconst hC (v := (-1 : Int32)) dX6_isNothing_4 rfl (by decide) ?_
  refine r_icmp_ne hC (tgt := 12) dX6_isNothing_5 rfl (by decide) hw (fun hw => ?_) (fun hw => ?_)
  · refine r_iconst hC (v := (0 : Int32)) dX6_isNothing_12 rfl (by decide) ?_
    exact r_retZ hC hR ⟨rfl, rfl⟩ dX6_isNothing_13 (by decide) hw
  · refine r_iconst hC (v := (1 : Int32)) dX6_isNothing_8 rfl (by decide) ?_
    refine r_goto hC (tgt := 13) dX6_isNothing_9 (by decide) ?_
    exact r_retZ hC hR ⟨rfl, rfl⟩ dX6_isNothing_13 (by decide) hw
set_option maxRecDepth 100000 in
theorem c_X6_isNothing {l : Launch} {x : Gx} {g : Gm} {d : Nat}  {I : Mm} {Post : Int32 → Mm → Prop} (hd : shS g d) (hw : wp_X6_isNothing d  I Post) : KI l x yX6_isNothing wsX6_isNothing rm_X6_isNothing g I [.ref (gA g d)] (fun r u => u.1 = g ∧ Post r u.2) := KZ_of (by decide) rfl rfl (Nat.le_of_ble_eq_true rfl) (fun f hC _ _ hR => t_X6_isNothing_0 hC hd hR hw)

/-! X6_renew -/
abbrev rm_X6_renew : Room := { frames := 0, cells := 0, slots := 0, locals := 0 }
theorem ci_X6_renew : CI yX6_renew wsX6_renew cX6_renew 4 none 2 := ⟨⟨_, rfl⟩, by decide, by decide, by decide +kernel⟩
def wp_X6_renew_12 (d : Nat)  (Post : Mm → Prop) : Nat → Int32 → Mm → Prop
  | 0, _, _ => False
  | nn12 + 1, x3, I => if (60 : Int32) ≤ x3 then (Post I) else (vp_in x3 60 ∧ (wp_X6_renew_12 d Post nn12 (x3 + 1) (up2 I (d + 4) x3.toNatClampNeg (0 : Int32))))
def wp_X6_renew (d : Nat) (x1 : Int32) (x2 : Int32) (I : Mm) (Post : Mm → Prop) : Prop := ∃ nn12, wp_X6_renew_12 d Post nn12 (0 : Int32) (up2 (up2 I d 1 x1) d 2 x2)
set_option maxRecDepth 20000 in
theorem uw_X6_renew_6 : ∀ w ∈ u_ws RX6 TX6 3, w ∈ wsX6_renew := by decide +kernel
set_option maxRecDepth 20000 in
theorem ffp_X6_renew_15 : ∀ k ∈ ([6] : List Nat), FF wsX6_renew RX6 15 k 1 ∧ fR k 1 = false ∧ FP k 1 := List.forall_mem_cons.mpr ⟨⟨⟨RX6, TX6, 3, "PageDesks$Sheet", rfl, rfl, by decide, by decide, uw_X6_renew_6, (List.mem_of_getElem? (i := 1) rfl), Or.inl rfl⟩, rfl, ⟨RX6, TX6, 3, tyX6, rfl, tyX6_ok, nmX6, rfl, rfl⟩⟩, fun _ h => absurd h List.not_mem_nil⟩
set_option maxRecDepth 20000 in
theorem ffp_X6_renew_19 : ∀ k ∈ ([6] : List Nat), FF wsX6_renew RX6 19 k 2 ∧ fR k 2 = false ∧ FP k 2 := List.forall_mem_cons.mpr ⟨⟨⟨RX6, TX6, 3, "PageDesks$Sheet", rfl, rfl, by decide, by decide, uw_X6_renew_6, (List.mem_of_getElem? (i := 2) rfl), Or.inl rfl⟩, rfl, ⟨RX6, TX6, 3, tyX6, rfl, tyX6_ok, nmX6, rfl, rfl⟩⟩, fun _ h => absurd h List.not_mem_nil⟩
set_option maxRecDepth 20000 in
theorem ffg_X6_renew_9 : ∀ k ∈ ([6] : List Nat), FF wsX6_renew RX6 9 k 0 ∧ fR k 0 = true := List.forall_mem_cons.mpr ⟨⟨⟨RX6, TX6, 3, "PageDesks$Sheet", rfl, rfl, by decide, by decide, uw_X6_renew_6, (List.mem_of_getElem? (i := 3) rfl), Or.inl rfl⟩, rfl⟩, fun _ h => absurd h List.not_mem_nil⟩
set_option maxRecDepth 100000 in
set_option maxHeartbeats 4000000 in
theorem t_X6_renew_12 {f : Fx} {g : Gm} {d : Nat} {Post : Mm → Prop}  (hC : Cx f cX6_renew 4 RX6 wsX6_renew rm_X6_renew) (hd : shS g d) (hR : RtV f cX6_renew (fun u => u.1 = g ∧ Post u.2))  : ∀ (nn12 : Nat) (x3 : Int32) (I : Mm) , wp_X6_renew_12 d  Post nn12 x3 I → PW f 0 0 g I 12 [(0, .ref (gA g d)), (3, .int x3)] [] := by
  intro nn12
  induction nn12 with
  | zero =>
    intro x3 I  hw
    exact absurd hw id
  | succ nn12 ih =>
    intro x3 I  hw
    unfold wp_X6_renew_12 at hw
    refine r_iload_n hC dX6_renew_12 rfl rfl (j := 1) rfl ?_
    refine r_bipush hC (v := (60 : Int32)) dX6_renew_13 rfl (by decide) ?_
    refine r_icmp_ge hC (tgt := 31) dX6_renew_15 rfl (by decide) hw (fun hw => ?_) (fun hw => ?_)
    · exact r_retV hC hR ⟨rfl, rfl⟩ dX6_renew_31 hw
    · refine r_aload_n hC dX6_renew_18 rfl rfl (j := 0) rfl ?_
      refine r_getR hC dX6_renew_19 rfl (hd).1.1 (hd).1.2 ffg_X6_renew_9 (hd).2.2 ?_
      refine r_iload_n hC dX6_renew_22 rfl rfl (j := 1) rfl ?_
      refine r_iconst hC (v := (0 : Int32)) dX6_renew_23 rfl (by decide) ?_
      obtain ⟨hi, hw⟩ := hw
      refine r_iast hC dX6_renew_24 rfl ((hd).2.1).1 ((hd).2.1).2.1 (by rw [((hd).2.1).2.2]; exact hi) ?_
      refine r_iinc hC (k := 1) (lv' := [(3, .int (x3 + 1)), (0, .ref (gA g d))]) dX6_renew_25 rfl (j := 1) rfl (by decide) (by decide) rfl ?_
      refine r_goto hC (tgt := 12) dX6_renew_28 (by decide) ?_
      exact r_sub (lv' := [(0, .ref (gA g d)), (3, .int (x3 + 1))]) [1, 0] rfl (ih _ _ hw)
set_option maxRecDepth 100000 in
set_option maxHeartbeats 4000000 in
theorem t_X6_renew_0 {f : Fx} {g : Gm} {d : Nat} {Post : Mm → Prop} {x1 : Int32} {x2 : Int32} {I : Mm} (hC : Cx f cX6_renew 4 RX6 wsX6_renew rm_X6_renew) (hd : shS g d) (hR : RtV f cX6_renew (fun u => u.1 = g ∧ Post u.2)) (hw : wp_X6_renew d x1 x2 I Post) : PW f 0 0 g I 0 [(0, .ref (gA g d)), (1, .int x1), (2, .int x2)] [] := by
  unfold wp_X6_renew at hw
  refine r_aload_n hC dX6_renew_0 rfl rfl (j := 0) rfl ?_
  refine r_iload_n hC dX6_renew_1 rfl rfl (j := 1) rfl ?_
  refine r_putI hC dX6_renew_2 rfl (hd).1.1 (hd).1.2 ffp_X6_renew_15 ?_
  refine r_aload_n hC dX6_renew_5 rfl rfl (j := 0) rfl ?_
  refine r_iload_n hC dX6_renew_6 rfl rfl (j := 2) rfl ?_
  refine r_putI hC dX6_renew_7 rfl (hd).1.1 (hd).1.2 ffp_X6_renew_19 ?_
  refine r_iconst hC (v := (0 : Int32)) dX6_renew_10 rfl (by decide) ?_
  refine r_istore_n hC (lv' := [(3, .int (0 : Int32)), (0, .ref (gA g d)), (1, .int x1), (2, .int x2)]) dX6_renew_11 rfl rfl (by decide) rfl ?_
  obtain ⟨nn12, hw⟩ := hw
  exact r_sub (lv' := [(0, .ref (gA g d)), (3, .int (0 : Int32))]) [1, 0] rfl ((t_X6_renew_12 hC hd hR nn12 _ _ hw))
set_option maxRecDepth 100000 in
theorem c_X6_renew {l : Launch} {x : Gx} {g : Gm} {d : Nat} {x1 : Int32} {x2 : Int32} {I : Mm} {Post : Mm → Prop} (hd : shS g d) (hw : wp_X6_renew d x1 x2 I Post) : KV l x yX6_renew wsX6_renew rm_X6_renew g I [.ref (gA g d), .int x1, .int x2] (fun u => u.1 = g ∧ Post u.2) := KV_of (by decide) rfl rfl (Nat.le_of_ble_eq_true rfl) (fun f hC _ _ hR => t_X6_renew_0 hC hd hR hw)

/-! X6_cut -/
abbrev rm_X6_cut : Room := { frames := 0, cells := 0, slots := 0, locals := 0 }
theorem ci_X6_cut : CI yX6_cut wsX6_cut cX6_cut 2 (some .int) 1 := ⟨⟨_, rfl⟩, by decide, by decide, by decide +kernel⟩
def wp_X6_cut (d : Nat) (x1 : Int32) (I : Mm) (Post : Int32 → Mm → Prop) : Prop := if (I d 1) = 0 then (Post x1.toInt8.toInt32 I) else (if (I d 1) = 1 then (Post x1.toInt16.toInt32 I) else (Post x1 I))
set_option maxRecDepth 20000 in
theorem uw_X6_cut_6 : ∀ w ∈ u_ws RX6 TX6 3, w ∈ wsX6_cut := by decide +kernel
set_option maxRecDepth 20000 in
theorem ffg_X6_cut_15 : ∀ k ∈ ([6] : List Nat), FF wsX6_cut RX6 15 k 1 ∧ fR k 1 = false := List.forall_mem_cons.mpr ⟨⟨⟨RX6, TX6, 3, "PageDesks$Sheet", rfl, rfl, by decide, by decide, uw_X6_cut_6, (List.mem_of_getElem? (i := 1) rfl), Or.inl rfl⟩, rfl⟩, fun _ h => absurd h List.not_mem_nil⟩
set_option maxRecDepth 100000 in
set_option maxHeartbeats 4000000 in
theorem t_X6_cut_0 {f : Fx} {g : Gm} {d : Nat} {Post : Int32 → Mm → Prop} {x1 : Int32} {I : Mm} (hC : Cx f cX6_cut 2 RX6 wsX6_cut rm_X6_cut) (hd : shS g d) (hR : RtI f cX6_cut (fun r u => u.1 = g ∧ Post r u.2)) (hw : wp_X6_cut d x1 I Post) : PW f 0 0 g I 0 [(0, .ref (gA g d)), (1, .int x1)] [] := by
  unfold wp_X6_cut at hw
  refine r_aload_n hC dX6_cut_0 rfl rfl (j := 0) rfl ?_
  refine r_getI hC dX6_cut_1 rfl (hd).1.1 (hd).1.2 ffg_X6_cut_15 ?_
  by_cases h0 : (I d 1) = 0
  · rw [if_pos h0] at hw
    refine r_look hC (off := 28) (tgt := 32) dX6_cut_4 (by decide) (by first | (rw [h0]; done) | (rw [h0]; decide)) (by decide) ?_
    refine r_iload_n hC dX6_cut_32 rfl rfl (j := 1) rfl ?_
    refine r_i2b hC dX6_cut_33 rfl ?_
    exact r_retI hC hR ⟨rfl, rfl⟩ dX6_cut_34 hw
  · rw [if_neg h0] at hw
    by_cases h1 : (I d 1) = 1
    · rw [if_pos h1] at hw
      refine r_look hC (off := 31) (tgt := 35) dX6_cut_4 (by decide) (by first | (rw [h1]; done) | (rw [h1]; decide)) (by decide) ?_
      refine r_iload_n hC dX6_cut_35 rfl rfl (j := 1) rfl ?_
      refine r_i2s hC dX6_cut_36 rfl ?_
      exact r_retI hC hR ⟨rfl, rfl⟩ dX6_cut_37 hw
    · rw [if_neg h1] at hw
      refine r_look hC (off := 34) (tgt := 38) dX6_cut_4 (by decide) (by show Op.lookupswitch.offset [(0, 28), (1, 31)] _ _ = _; first | (rw [lv_osw h0 (show (0 : Int32).toInt = 0 by decide), lv_osw h1 (show (1 : Int32).toInt = 1 by decide)]; done) | (rw [lv_osw h0 (show (0 : Int32).toInt = 0 by decide), lv_osw h1 (show (1 : Int32).toInt = 1 by decide)]; rfl)) (by decide) ?_
      refine r_iload_n hC dX6_cut_38 rfl rfl (j := 1) rfl ?_
      exact r_retI hC hR ⟨rfl, rfl⟩ dX6_cut_39 hw
set_option maxRecDepth 100000 in
theorem c_X6_cut {l : Launch} {x : Gx} {g : Gm} {d : Nat} {x1 : Int32} {I : Mm} {Post : Int32 → Mm → Prop} (hd : shS g d) (hw : wp_X6_cut d x1 I Post) : KI l x yX6_cut wsX6_cut rm_X6_cut g I [.ref (gA g d), .int x1] (fun r u => u.1 = g ∧ Post r u.2) := KI_of (by decide) rfl rfl (Nat.le_of_ble_eq_true rfl) (fun f hC _ _ hR => t_X6_cut_0 hC hd hR hw)

/-! X6_faultAs -/
abbrev rm_X6_faultAs : Room := { frames := 1, cells := 0, slots := 0, locals := 20 }
theorem ci_X6_faultAs : CI yX6_faultAs wsX6_faultAs cX6_faultAs 2 (some .int) 1 := ⟨⟨_, rfl⟩, by decide, by decide, by decide +kernel⟩
def wp_X6_faultAs (d : Nat) (x1 : Int32) (I : Mm) (Post : Int32 → Mm → Prop) : Prop := wp_X6_isNothing d I (fun r1 J2 => if r1 = 0 then (if (J2 d 1) = x1 then (Post (0 : Int32) J2) else (Post (2 : Int32) J2)) else (Post (1 : Int32) J2))
set_option maxRecDepth 20000 in
theorem uw_X6_faultAs_6 : ∀ w ∈ u_ws RX6 TX6 3, w ∈ wsX6_faultAs := by decide +kernel
set_option maxRecDepth 20000 in
theorem ffg_X6_faultAs_15 : ∀ k ∈ ([6] : List Nat), FF wsX6_faultAs RX6 15 k 1 ∧ fR k 1 = false := List.forall_mem_cons.mpr ⟨⟨⟨RX6, TX6, 3, "PageDesks$Sheet", rfl, rfl, by decide, by decide, uw_X6_faultAs_6, (List.mem_of_getElem? (i := 1) rfl), Or.inl rfl⟩, rfl⟩, fun _ h => absurd h List.not_mem_nil⟩
set_option maxRecDepth 100000 in
set_option maxHeartbeats 4000000 in
theorem t_X6_faultAs_0 {f : Fx} {g : Gm} {d : Nat} {Post : Int32 → Mm → Prop} {x1 : Int32} {I : Mm} (hC : Cx f cX6_faultAs 2 RX6 wsX6_faultAs rm_X6_faultAs) (hd : shS g d) (hR : RtI f cX6_faultAs (fun r u => u.1 = g ∧ Post r u.2)) (hw : wp_X6_faultAs d x1 I Post) : PW f 0 0 g I 0 [(0, .ref (gA g d)), (1, .int x1)] [] := by
  unfold wp_X6_faultAs at hw
  refine r_aload_n hC dX6_faultAs_0 rfl rfl (j := 0) rfl ?_
  refine r_callI hC (a_V hC (k := 6) (c_X6_isNothing hd hw) ci_X6_isNothing gX6_faultAs_X6_isNothing rfl ⟨Nat.le_of_ble_eq_true rfl, Nat.le_of_ble_eq_true rfl⟩ ⟨Nat.le_of_ble_eq_true rfl, Nat.le_of_ble_eq_true rfl⟩ rfl (by decide) (hd).1.1 (List.mem_singleton.mp (hd).1.2) rfl rfl (Nat.le_of_ble_eq_true rfl) dX6_faultAs_1) ⟨rfl, rfl⟩ rfl (fun r1 J2 hw => ?_)
  refine r_if_eq hC (tgt := 9) dX6_faultAs_4 rfl (by decide) hw (fun hw => ?_) (fun hw => ?_)
  · refine r_aload_n hC dX6_faultAs_9 rfl rfl (j := 0) rfl ?_
    refine r_getI hC dX6_faultAs_10 rfl (hd).1.1 (hd).1.2 ffg_X6_faultAs_15 ?_
    refine r_iload_n hC dX6_faultAs_13 rfl rfl (j := 1) rfl ?_
    refine r_icmp_ne hC (tgt := 21) dX6_faultAs_14 rfl (by decide) hw (fun hw => ?_) (fun hw => ?_)
    · refine r_iconst hC (v := (2 : Int32)) dX6_faultAs_21 rfl (by decide) ?_
      exact r_retI hC hR ⟨rfl, rfl⟩ dX6_faultAs_22 hw
    · refine r_iconst hC (v := (0 : Int32)) dX6_faultAs_17 rfl (by decide) ?_
      refine r_goto hC (tgt := 22) dX6_faultAs_18 (by decide) ?_
      exact r_retI hC hR ⟨rfl, rfl⟩ dX6_faultAs_22 hw
  · refine r_iconst hC (v := (1 : Int32)) dX6_faultAs_7 rfl (by decide) ?_
    exact r_retI hC hR ⟨rfl, rfl⟩ dX6_faultAs_8 hw
set_option maxRecDepth 100000 in
theorem c_X6_faultAs {l : Launch} {x : Gx} {g : Gm} {d : Nat} {x1 : Int32} {I : Mm} {Post : Int32 → Mm → Prop} (hd : shS g d) (hw : wp_X6_faultAs d x1 I Post) : KI l x yX6_faultAs wsX6_faultAs rm_X6_faultAs g I [.ref (gA g d), .int x1] (fun r u => u.1 = g ∧ Post r u.2) := KI_of (by decide) rfl rfl (Nat.le_of_ble_eq_true rfl) (fun f hC _ _ hR => t_X6_faultAs_0 hC hd hR hw)

/-! X6_has -/
abbrev rm_X6_has : Room := { frames := 1, cells := 0, slots := 0, locals := 22 }
theorem ci_X6_has : CI yX6_has wsX6_has cX6_has 3 (some .boolean) 2 := ⟨⟨_, rfl⟩, by decide, by decide, by decide +kernel⟩
def wp_X6_has (d : Nat) (x1 : Int32) (x2 : Int32) (I : Mm) (Post : Int32 → Mm → Prop) : Prop := wp_X9_isWithin x1 (0 : Int32) (I d 2) I (fun r1 J2 => if r1 = 0 then (Post (0 : Int32) J2) else (wp_X9_isWithin x2 (0 : Int32) ((J2 d 2) - x1) J2 (fun r3 J4 => if r3 = 0 then (Post (0 : Int32) J4) else (Post (1 : Int32) J4))))
set_option maxRecDepth 20000 in
theorem uw_X6_has_6 : ∀ w ∈ u_ws RX6 TX6 3, w ∈ wsX6_has := by decide +kernel
set_option maxRecDepth 20000 in
theorem ffg_X6_has_19 : ∀ k ∈ ([6] : List Nat), FF wsX6_has RX6 19 k 2 ∧ fR k 2 = false := List.forall_mem_cons.mpr ⟨⟨⟨RX6, TX6, 3, "PageDesks$Sheet", rfl, rfl, by decide, by decide, uw_X6_has_6, (List.mem_of_getElem? (i := 1) rfl), Or.inl rfl⟩, rfl⟩, fun _ h => absurd h List.not_mem_nil⟩
set_option maxRecDepth 100000 in
set_option maxHeartbeats 4000000 in
theorem t_X6_has_0 {f : Fx} {g : Gm} {d : Nat} {Post : Int32 → Mm → Prop} {x1 : Int32} {x2 : Int32} {I : Mm} (hC : Cx f cX6_has 3 RX6 wsX6_has rm_X6_has) (hd : shS g d) (hR : RtZ f cX6_has (fun r u => u.1 = g ∧ Post r u.2)) (hw : wp_X6_has d x1 x2 I Post) : PW f 0 0 g I 0 [(0, .ref (gA g d)), (1, .int x1), (2, .int x2)] [] := by
  unfold wp_X6_has at hw
  refine r_iload_n hC dX6_has_0 rfl rfl (j := 1) rfl ?_
  refine r_iconst hC (v := (0 : Int32)) dX6_has_1 rfl (by decide) ?_
  refine r_aload_n hC dX6_has_2 rfl rfl (j := 0) rfl ?_
  refine r_getI hC dX6_has_3 rfl (hd).1.1 (hd).1.2 ffg_X6_has_19 ?_
  refine r_callI hC (a_SN hC (host := RX9) (c_X9_isWithin  hw) ci_X9_isWithin gX6_has_X9_isWithin_n26 (by decide) (List.mem_of_getElem? (i := 3) rfl) (List.mem_of_getElem? (i := 2) rfl) ⟨Nat.le_of_ble_eq_true rfl, Nat.le_of_ble_eq_true rfl⟩ ⟨Nat.le_of_ble_eq_true rfl, Nat.le_of_ble_eq_true rfl⟩ rfl rfl (Nat.le_of_ble_eq_true rfl) dX6_has_6) ⟨rfl, rfl⟩ rfl (fun r1 J2 hw => ?_)
  refine r_if_eq hC (tgt := 30) dX6_has_9 rfl (by decide) hw (fun hw => ?_) (fun hw => ?_)
  · refine r_iconst hC (v := (0 : Int32)) dX6_has_30 rfl (by decide) ?_
    exact r_retZ hC hR ⟨rfl, rfl⟩ dX6_has_31 (by decide) hw
  · refine r_iload_n hC dX6_has_12 rfl rfl (j := 2) rfl ?_
    refine r_iconst hC (v := (0 : Int32)) dX6_has_13 rfl (by decide) ?_
    refine r_aload_n hC dX6_has_14 rfl rfl (j := 0) rfl ?_
    refine r_getI hC dX6_has_15 rfl (hd).1.1 (hd).1.2 ffg_X6_has_19 ?_
    refine r_iload_n hC dX6_has_18 rfl rfl (j := 1) rfl ?_
    refine r_isub hC dX6_has_19 rfl ?_
    refine r_callI hC (a_SN hC (host := RX9) (c_X9_isWithin  hw) ci_X9_isWithin gX6_has_X9_isWithin_n26 (by decide) (List.mem_of_getElem? (i := 3) rfl) (List.mem_of_getElem? (i := 2) rfl) ⟨Nat.le_of_ble_eq_true rfl, Nat.le_of_ble_eq_true rfl⟩ ⟨Nat.le_of_ble_eq_true rfl, Nat.le_of_ble_eq_true rfl⟩ rfl rfl (Nat.le_of_ble_eq_true rfl) dX6_has_20) ⟨rfl, rfl⟩ rfl (fun r3 J4 hw => ?_)
    refine r_if_eq hC (tgt := 30) dX6_has_23 rfl (by decide) hw (fun hw => ?_) (fun hw => ?_)
    · refine r_iconst hC (v := (0 : Int32)) dX6_has_30 rfl (by decide) ?_
      exact r_retZ hC hR ⟨rfl, rfl⟩ dX6_has_31 (by decide) hw
    · refine r_iconst hC (v := (1 : Int32)) dX6_has_26 rfl (by decide) ?_
      refine r_goto hC (tgt := 31) dX6_has_27 (by decide) ?_
      exact r_retZ hC hR ⟨rfl, rfl⟩ dX6_has_31 (by decide) hw
set_option maxRecDepth 100000 in
theorem c_X6_has {l : Launch} {x : Gx} {g : Gm} {d : Nat} {x1 : Int32} {x2 : Int32} {I : Mm} {Post : Int32 → Mm → Prop} (hd : shS g d) (hw : wp_X6_has d x1 x2 I Post) : KI l x yX6_has wsX6_has rm_X6_has g I [.ref (gA g d), .int x1, .int x2] (fun r u => u.1 = g ∧ Post r u.2) := KZ_of (by decide) rfl rfl (Nat.le_of_ble_eq_true rfl) (fun f hC _ _ hR => t_X6_has_0 hC hd hR hw)

/-! X7_goesTo -/
abbrev rm_X7_goesTo : Room := { frames := 0, cells := 0, slots := 0, locals := 0 }
theorem ci_X7_goesTo : CI yX7_goesTo wsX7_goesTo cX7_goesTo 3 (some .boolean) 2 := ⟨⟨_, rfl⟩, by decide, by decide, by decide +kernel⟩
def wp_X7_goesTo  (x1 : Int32) (x2 : Int32) (I : Mm) (Post : Int32 → Mm → Prop) : Prop := (x2 = 0 ∨ x2 = 1) ∧ Post x2 (up2 I 2 5 x1)
set_option maxRecDepth 20000 in
theorem uw_X7_goesTo_7 : ∀ w ∈ u_ws RX7 TX7 6, w ∈ wsX7_goesTo := by decide +kernel
set_option maxRecDepth 20000 in
theorem ffp_X7_goesTo_28 : ∀ k ∈ ([7] : List Nat), FF wsX7_goesTo RX7 28 k 5 ∧ fR k 5 = false ∧ FP k 5 := List.forall_mem_cons.mpr ⟨⟨⟨RX7, TX7, 6, "PageDesks$Text", rfl, rfl, by decide, by decide, uw_X7_goesTo_7, (List.mem_of_getElem? (i := 1) rfl), Or.inl rfl⟩, rfl, ⟨RX7, TX7, 6, tyX7, rfl, tyX7_ok, nmX7, rfl, rfl⟩⟩, fun _ h => absurd h List.not_mem_nil⟩
set_option maxRecDepth 100000 in
set_option maxHeartbeats 4000000 in
theorem t_X7_goesTo_0 {f : Fx} {g : Gm}  {Post : Int32 → Mm → Prop} {x1 : Int32} {x2 : Int32} {I : Mm} (hC : Cx f cX7_goesTo 3 RX7 wsX7_goesTo rm_X7_goesTo) (hG : shT g) (hR : RtZ f cX7_goesTo (fun r u => u.1 = g ∧ Post r u.2)) (hw : wp_X7_goesTo  x1 x2 I Post) : PW f 0 0 g I 0 [(0, .ref (gA g 2)), (1, .int x1), (2, .int x2)] [] := by
  unfold wp_X7_goesTo at hw
  refine r_aload_n hC dX7_goesTo_0 rfl rfl (j := 0) rfl ?_
  refine r_iload_n hC dX7_goesTo_1 rfl rfl (j := 1) rfl ?_
  refine r_putI hC dX7_goesTo_2 rfl (hG).1.1 (hG).1.2 ffp_X7_goesTo_28 ?_
  refine r_iload_n hC dX7_goesTo_5 rfl rfl (j := 2) rfl ?_
  exact r_retZ hC hR ⟨rfl, rfl⟩ dX7_goesTo_6 (zb_of hw.1) hw.2
set_option maxRecDepth 100000 in
theorem c_X7_goesTo {l : Launch} {x : Gx} {g : Gm}  {x1 : Int32} {x2 : Int32} {I : Mm} {Post : Int32 → Mm → Prop} (hG : shT g) (hw : wp_X7_goesTo  x1 x2 I Post) : KI l x yX7_goesTo wsX7_goesTo rm_X7_goesTo g I [.ref (gA g 2), .int x1, .int x2] (fun r u => u.1 = g ∧ Post r u.2) := KZ_of (by decide) rfl rfl (Nat.le_of_ble_eq_true rfl) (fun f hC _ _ hR => t_X7_goesTo_0 hC hG hR hw)

/-! X7_takesKind -/
abbrev rm_X7_takesKind : Room := { frames := 1, cells := 0, slots := 0, locals := 22 }
theorem ci_X7_takesKind : CI yX7_takesKind wsX7_takesKind cX7_takesKind 3 (some .boolean) 1 := ⟨⟨_, rfl⟩, by decide, by decide, by decide +kernel⟩
def wp_X7_takesKind_56   (Post : Int32 → Mm → Prop) (s0 : Int32) (s1 : Int32) (I : Mm) : Prop := wp_X7_goesTo s1 s0 I (fun r1 J2 => (r1 = 0 ∨ r1 = 1) ∧ Post r1 J2)
def wp_X7_takesKind_32   (Post : Int32 → Mm → Prop) (s0 : Int32) (I : Mm) : Prop := vp_in (I 2 3) 4 ∧ (if s0 = (-9 : Int32) then (wp_X7_takesKind_56  Post (0 : Int32) (3 : Int32) (up2 I 3 (I 2 3).toNatClampNeg s0)) else (wp_X7_takesKind_56  Post (1 : Int32) (3 : Int32) (up2 I 3 (I 2 3).toNatClampNeg s0)))
def wp_X7_takesKind  (x1 : Int32) (I : Mm) (Post : Int32 → Mm → Prop) : Prop := if x1 = (113 : Int32) then (wp_X7_takesKind_32  Post (0 : Int32) I) else (if x1 = (99 : Int32) then (wp_X7_takesKind_32  Post (1 : Int32) I) else (if x1 = (114 : Int32) then (wp_X7_takesKind_32  Post (2 : Int32) I) else (wp_X7_takesKind_32  Post (-9 : Int32) I)))
set_option maxRecDepth 20000 in
theorem uw_X7_takesKind_7 : ∀ w ∈ u_ws RX7 TX7 6, w ∈ wsX7_takesKind := by decide +kernel
set_option maxRecDepth 20000 in
theorem ffg_X7_takesKind_9 : ∀ k ∈ ([7] : List Nat), FF wsX7_takesKind RX7 9 k 0 ∧ fR k 0 = true := List.forall_mem_cons.mpr ⟨⟨⟨RX7, TX7, 6, "PageDesks$Text", rfl, rfl, by decide, by decide, uw_X7_takesKind_7, (List.mem_of_getElem? (i := 1) rfl), Or.inl rfl⟩, rfl⟩, fun _ h => absurd h List.not_mem_nil⟩
set_option maxRecDepth 20000 in
theorem ffg_X7_takesKind_21 : ∀ k ∈ ([7] : List Nat), FF wsX7_takesKind RX7 21 k 3 ∧ fR k 3 = false := List.forall_mem_cons.mpr ⟨⟨⟨RX7, TX7, 6, "PageDesks$Text", rfl, rfl, by decide, by decide, uw_X7_takesKind_7, (List.mem_of_getElem? (i := 2) rfl), Or.inl rfl⟩, rfl⟩, fun _ h => absurd h List.not_mem_nil⟩
set_option maxRecDepth 100000 in
set_option maxHeartbeats 4000000 in
theorem t_X7_takesKind_56 {f : Fx} {g : Gm}  {Post : Int32 → Mm → Prop}  (hC : Cx f cX7_takesKind 3 RX7 wsX7_takesKind rm_X7_takesKind) (hG : shT g) (hR : RtZ f cX7_takesKind (fun r u => u.1 = g ∧ Post r u.2))  : ∀ (s0 : Int32) (s1 : Int32) (I : Mm) , wp_X7_takesKind_56   Post s0 s1 I → PW f 0 0 g I 56 [] [.int s0, .int s1, .ref (gA g 2)] := by
  intro s0 s1 I  hw
  unfold wp_X7_takesKind_56 at hw
  refine r_callI hC (a_V hC (k := 7) (c_X7_goesTo hG hw) ci_X7_goesTo gX7_takesKind_X7_goesTo rfl ⟨Nat.le_of_ble_eq_true rfl, Nat.le_of_ble_eq_true rfl⟩ ⟨Nat.le_of_ble_eq_true rfl, Nat.le_of_ble_eq_true rfl⟩ rfl (by decide) (hG).1.1 (List.mem_singleton.mp (hG).1.2) rfl rfl (Nat.le_of_ble_eq_true rfl) dX7_takesKind_56) ⟨rfl, rfl⟩ rfl (fun r1 J2 hw => ?_)
  exact r_retZ hC hR ⟨rfl, rfl⟩ dX7_takesKind_59 (zb_of hw.1) hw.2
set_option maxRecDepth 100000 in
set_option maxHeartbeats 4000000 in
theorem t_X7_takesKind_32 {f : Fx} {g : Gm}  {Post : Int32 → Mm → Prop}  (hC : Cx f cX7_takesKind 3 RX7 wsX7_takesKind rm_X7_takesKind) (hG : shT g) (hR : RtZ f cX7_takesKind (fun r u => u.1 = g ∧ Post r u.2))  : ∀ (s0 : Int32) (I : Mm) , wp_X7_takesKind_32   Post s0 I → PW f 0 0 g I 32 [(0, .ref (gA g 2))] [.int s0] := by
  intro s0 I  hw
  unfold wp_X7_takesKind_32 at hw
  refine r_istore_n hC (lv' := [(2, .int s0), (0, .ref (gA g 2))]) dX7_takesKind_32 rfl rfl (by decide) rfl ?_
  refine r_aload_n hC dX7_takesKind_33 rfl rfl (j := 1) rfl ?_
  refine r_getR hC dX7_takesKind_34 rfl (hG).1.1 (hG).1.2 ffg_X7_takesKind_9 (hG).2.2.2.2.1 ?_
  refine r_aload_n hC dX7_takesKind_37 rfl rfl (j := 1) rfl ?_
  refine r_getI hC dX7_takesKind_38 rfl (hG).1.1 (hG).1.2 ffg_X7_takesKind_21 ?_
  refine r_iload_n hC dX7_takesKind_41 rfl rfl (j := 0) rfl ?_
  obtain ⟨hi, hw⟩ := hw
  refine r_iast hC dX7_takesKind_42 rfl ((hG).2.1).1 ((hG).2.1).2.1 (by rw [((hG).2.1).2.2]; exact hi) ?_
  refine r_aload_n hC dX7_takesKind_43 rfl rfl (j := 1) rfl ?_
  refine r_iconst hC (v := (3 : Int32)) dX7_takesKind_44 rfl (by decide) ?_
  refine r_iload_n hC dX7_takesKind_45 rfl rfl (j := 0) rfl ?_
  refine r_bipush hC (v := (-9 : Int32)) dX7_takesKind_46 rfl (by decide) ?_
  refine r_icmp_eq hC (tgt := 55) dX7_takesKind_48 rfl (by decide) hw (fun hw => ?_) (fun hw => ?_)
  · refine r_iconst hC (v := (0 : Int32)) dX7_takesKind_55 rfl (by decide) ?_
    exact r_sub (lv' := []) [] rfl (t_X7_takesKind_56 hC hG hR _ _ _ hw)
  · refine r_iconst hC (v := (1 : Int32)) dX7_takesKind_51 rfl (by decide) ?_
    refine r_goto hC (tgt := 56) dX7_takesKind_52 (by decide) ?_
    exact r_sub (lv' := []) [] rfl (t_X7_takesKind_56 hC hG hR _ _ _ hw)
set_option maxRecDepth 100000 in
set_option maxHeartbeats 4000000 in
theorem t_X7_takesKind_0 {f : Fx} {g : Gm}  {Post : Int32 → Mm → Prop} {x1 : Int32} {I : Mm} (hC : Cx f cX7_takesKind 3 RX7 wsX7_takesKind rm_X7_takesKind) (hG : shT g) (hR : RtZ f cX7_takesKind (fun r u => u.1 = g ∧ Post r u.2)) (hw : wp_X7_takesKind  x1 I Post) : PW f 0 0 g I 0 [(0, .ref (gA g 2)), (1, .int x1)] [] := by
  unfold wp_X7_takesKind at hw
  refine r_iload_n hC dX7_takesKind_0 rfl rfl (j := 1) rfl ?_
  refine r_bipush hC (v := (113 : Int32)) dX7_takesKind_1 rfl (by decide) ?_
  refine r_icmp_ne hC (tgt := 10) dX7_takesKind_3 rfl (by decide) hw (fun hw => ?_) (fun hw => ?_)
  · refine r_iload_n hC dX7_takesKind_10 rfl rfl (j := 1) rfl ?_
    refine r_bipush hC (v := (99 : Int32)) dX7_takesKind_11 rfl (by decide) ?_
    refine r_icmp_ne hC (tgt := 20) dX7_takesKind_13 rfl (by decide) hw (fun hw => ?_) (fun hw => ?_)
    · refine r_iload_n hC dX7_takesKind_20 rfl rfl (j := 1) rfl ?_
      refine r_bipush hC (v := (114 : Int32)) dX7_takesKind_21 rfl (by decide) ?_
      refine r_icmp_ne hC (tgt := 30) dX7_takesKind_23 rfl (by decide) hw (fun hw => ?_) (fun hw => ?_)
      · refine r_bipush hC (v := (-9 : Int32)) dX7_takesKind_30 rfl (by decide) ?_
        exact r_sub (lv' := [(0, .ref (gA g 2))]) [0] rfl (t_X7_takesKind_32 hC hG hR _ _ hw)
      · refine r_iconst hC (v := (2 : Int32)) dX7_takesKind_26 rfl (by decide) ?_
        refine r_goto hC (tgt := 32) dX7_takesKind_27 (by decide) ?_
        exact r_sub (lv' := [(0, .ref (gA g 2))]) [0] rfl (t_X7_takesKind_32 hC hG hR _ _ hw)
    · refine r_iconst hC (v := (1 : Int32)) dX7_takesKind_16 rfl (by decide) ?_
      refine r_goto hC (tgt := 32) dX7_takesKind_17 (by decide) ?_
      exact r_sub (lv' := [(0, .ref (gA g 2))]) [0] rfl (t_X7_takesKind_32 hC hG hR _ _ hw)
  · refine r_iconst hC (v := (0 : Int32)) dX7_takesKind_6 rfl (by decide) ?_
    refine r_goto hC (tgt := 32) dX7_takesKind_7 (by decide) ?_
    exact r_sub (lv' := [(0, .ref (gA g 2))]) [0] rfl (t_X7_takesKind_32 hC hG hR _ _ hw)
set_option maxRecDepth 100000 in
theorem c_X7_takesKind {l : Launch} {x : Gx} {g : Gm}  {x1 : Int32} {I : Mm} {Post : Int32 → Mm → Prop} (hG : shT g) (hw : wp_X7_takesKind  x1 I Post) : KI l x yX7_takesKind wsX7_takesKind rm_X7_takesKind g I [.ref (gA g 2), .int x1] (fun r u => u.1 = g ∧ Post r u.2) := KZ_of (by decide) rfl rfl (Nat.le_of_ble_eq_true rfl) (fun f hC _ _ hR => t_X7_takesKind_0 hC hG hR hw)

/-! X7_takesFrames -/
abbrev rm_X7_takesFrames : Room := { frames := 1, cells := 0, slots := 0, locals := 22 }
theorem ci_X7_takesFrames : CI yX7_takesFrames wsX7_takesFrames cX7_takesFrames 2 (some .boolean) 1 := ⟨⟨_, rfl⟩, by decide, by decide, by decide +kernel⟩
def wp_X7_takesFrames  (x1 : Int32) (I : Mm) (Post : Int32 → Mm → Prop) : Prop := vp_in (I 2 3) 4 ∧ (wp_X9_isWithin x1 (49 : Int32) (53 : Int32) (up2 (up2 I 4 (I 2 3).toNatClampNeg (x1 - (48 : Int32))) 2 3 (((up2 I 4 (I 2 3).toNatClampNeg (x1 - (48 : Int32))) 2 3) + (1 : Int32))) (fun r1 J2 => wp_X7_goesTo (4 : Int32) r1 J2 (fun r3 J4 => (r3 = 0 ∨ r3 = 1) ∧ Post r3 J4)))
set_option maxRecDepth 20000 in
theorem uw_X7_takesFrames_7 : ∀ w ∈ u_ws RX7 TX7 6, w ∈ wsX7_takesFrames := by decide +kernel
set_option maxRecDepth 20000 in
theorem ffg_X7_takesFrames_15 : ∀ k ∈ ([7] : List Nat), FF wsX7_takesFrames RX7 15 k 1 ∧ fR k 1 = true := List.forall_mem_cons.mpr ⟨⟨⟨RX7, TX7, 6, "PageDesks$Text", rfl, rfl, by decide, by decide, uw_X7_takesFrames_7, (List.mem_of_getElem? (i := 1) rfl), Or.inl rfl⟩, rfl⟩, fun _ h => absurd h List.not_mem_nil⟩
set_option maxRecDepth 20000 in
theorem ffg_X7_takesFrames_21 : ∀ k ∈ ([7] : List Nat), FF wsX7_takesFrames RX7 21 k 3 ∧ fR k 3 = false := List.forall_mem_cons.mpr ⟨⟨⟨RX7, TX7, 6, "PageDesks$Text", rfl, rfl, by decide, by decide, uw_X7_takesFrames_7, (List.mem_of_getElem? (i := 2) rfl), Or.inl rfl⟩, rfl⟩, fun _ h => absurd h List.not_mem_nil⟩
set_option maxRecDepth 20000 in
theorem ffp_X7_takesFrames_21 : ∀ k ∈ ([7] : List Nat), FF wsX7_takesFrames RX7 21 k 3 ∧ fR k 3 = false ∧ FP k 3 := List.forall_mem_cons.mpr ⟨⟨⟨RX7, TX7, 6, "PageDesks$Text", rfl, rfl, by decide, by decide, uw_X7_takesFrames_7, (List.mem_of_getElem? (i := 2) rfl), Or.inl rfl⟩, rfl, ⟨RX7, TX7, 6, tyX7, rfl, tyX7_ok, nmX7, rfl, rfl⟩⟩, fun _ h => absurd h List.not_mem_nil⟩
set_option maxRecDepth 100000 in
set_option maxHeartbeats 4000000 in
theorem t_X7_takesFrames_0 {f : Fx} {g : Gm}  {Post : Int32 → Mm → Prop} {x1 : Int32} {I : Mm} (hC : Cx f cX7_takesFrames 2 RX7 wsX7_takesFrames rm_X7_takesFrames) (hG : shT g) (hR : RtZ f cX7_takesFrames (fun r u => u.1 = g ∧ Post r u.2)) (hw : wp_X7_takesFrames  x1 I Post) : PW f 0 0 g I 0 [(0, .ref (gA g 2)), (1, .int x1)] [] := by
  unfold wp_X7_takesFrames at hw
  refine r_aload_n hC dX7_takesFrames_0 rfl rfl (j := 0) rfl ?_
  refine r_getR hC dX7_takesFrames_1 rfl (hG).1.1 (hG).1.2 ffg_X7_takesFrames_15 (hG).2.2.2.2.2.1 ?_
  refine r_aload_n hC dX7_takesFrames_4 rfl rfl (j := 0) rfl ?_
  refine r_getI hC dX7_takesFrames_5 rfl (hG).1.1 (hG).1.2 ffg_X7_takesFrames_21 ?_
  refine r_iload_n hC dX7_takesFrames_8 rfl rfl (j := 1) rfl ?_
  refine r_bipush hC (v := (48 : Int32)) dX7_takesFrames_9 rfl (by decide) ?_
  refine r_isub hC dX7_takesFrames_11 rfl ?_
  obtain ⟨hi, hw⟩ := hw
  refine r_iast hC dX7_takesFrames_12 rfl ((hG).2.2.1).1 ((hG).2.2.1).2.1 (by rw [((hG).2.2.1).2.2]; exact hi) ?_
  refine r_aload_n hC dX7_takesFrames_13 rfl rfl (j := 0) rfl ?_
  refine r_dup hC dX7_takesFrames_14 rfl rfl ?_
  refine r_getI hC dX7_takesFrames_15 rfl (hG).1.1 (hG).1.2 ffg_X7_takesFrames_21 ?_
  refine r_iconst hC (v := (1 : Int32)) dX7_takesFrames_18 rfl (by decide) ?_
  refine r_iadd hC dX7_takesFrames_19 rfl ?_
  refine r_putI hC dX7_takesFrames_20 rfl (hG).1.1 (hG).1.2 ffp_X7_takesFrames_21 ?_
  refine r_aload_n hC dX7_takesFrames_23 rfl rfl (j := 0) rfl ?_
  refine r_iconst hC (v := (4 : Int32)) dX7_takesFrames_24 rfl (by decide) ?_
  refine r_iload_n hC dX7_takesFrames_25 rfl rfl (j := 1) rfl ?_
  refine r_bipush hC (v := (49 : Int32)) dX7_takesFrames_26 rfl (by decide) ?_
  refine r_bipush hC (v := (53 : Int32)) dX7_takesFrames_28 rfl (by decide) ?_
  refine r_callI hC (a_SN hC (host := RX9) (c_X9_isWithin  hw) ci_X9_isWithin gX7_takesFrames_X9_isWithin_n56 (by decide) (List.mem_of_getElem? (i := 4) rfl) (List.mem_of_getElem? (i := 3) rfl) ⟨Nat.le_of_ble_eq_true rfl, Nat.le_of_ble_eq_true rfl⟩ ⟨Nat.le_of_ble_eq_true rfl, Nat.le_of_ble_eq_true rfl⟩ rfl rfl (Nat.le_of_ble_eq_true rfl) dX7_takesFrames_30) ⟨rfl, rfl⟩ rfl (fun r1 J2 hw => ?_)
  refine r_callI hC (a_V hC (k := 7) (c_X7_goesTo hG hw) ci_X7_goesTo gX7_takesFrames_X7_goesTo rfl ⟨Nat.le_of_ble_eq_true rfl, Nat.le_of_ble_eq_true rfl⟩ ⟨Nat.le_of_ble_eq_true rfl, Nat.le_of_ble_eq_true rfl⟩ rfl (by decide) (hG).1.1 (List.mem_singleton.mp (hG).1.2) rfl rfl (Nat.le_of_ble_eq_true rfl) dX7_takesFrames_33) ⟨rfl, rfl⟩ rfl (fun r3 J4 hw => ?_)
  exact r_retZ hC hR ⟨rfl, rfl⟩ dX7_takesFrames_36 (zb_of hw.1) hw.2
set_option maxRecDepth 100000 in
theorem c_X7_takesFrames {l : Launch} {x : Gx} {g : Gm}  {x1 : Int32} {I : Mm} {Post : Int32 → Mm → Prop} (hG : shT g) (hw : wp_X7_takesFrames  x1 I Post) : KI l x yX7_takesFrames wsX7_takesFrames rm_X7_takesFrames g I [.ref (gA g 2), .int x1] (fun r u => u.1 = g ∧ Post r u.2) := KZ_of (by decide) rfl rfl (Nat.le_of_ble_eq_true rfl) (fun f hC _ _ hR => t_X7_takesFrames_0 hC hG hR hw)

/-! X7_goesBehindDesk -/
abbrev rm_X7_goesBehindDesk : Room := { frames := 1, cells := 0, slots := 0, locals := 22 }
theorem ci_X7_goesBehindDesk : CI yX7_goesBehindDesk wsX7_goesBehindDesk cX7_goesBehindDesk 2 (some .boolean) 1 := ⟨⟨_, rfl⟩, by decide, by decide, by decide +kernel⟩
def wp_X7_goesBehindDesk_21   (Post : Int32 → Mm → Prop) (s0 : Int32) (s1 : Int32) (I : Mm) : Prop := wp_X7_goesTo s1 s0 I (fun r3 J4 => (r3 = 0 ∨ r3 = 1) ∧ Post r3 J4)
def wp_X7_goesBehindDesk_38   (Post : Int32 → Mm → Prop) (s0 : Int32) (s1 : Int32) (I : Mm) : Prop := wp_X7_goesTo s1 s0 I (fun r1 J2 => (r1 = 0 ∨ r1 = 1) ∧ Post r1 J2)
def wp_X7_goesBehindDesk  (x1 : Int32) (I : Mm) (Post : Int32 → Mm → Prop) : Prop := if x1 = (59 : Int32) then (if (4 : Int32) ≤ (I 2 3) then (wp_X7_goesBehindDesk_21  Post (0 : Int32) (2 : Int32) I) else (wp_X7_goesBehindDesk_21  Post (1 : Int32) (2 : Int32) I)) else (if x1 = (44 : Int32) then (wp_X7_goesBehindDesk_38  Post (1 : Int32) (5 : Int32) I) else (wp_X7_goesBehindDesk_38  Post (0 : Int32) (5 : Int32) I))
set_option maxRecDepth 20000 in
theorem uw_X7_goesBehindDesk_7 : ∀ w ∈ u_ws RX7 TX7 6, w ∈ wsX7_goesBehindDesk := by decide +kernel
set_option maxRecDepth 20000 in
theorem ffg_X7_goesBehindDesk_21 : ∀ k ∈ ([7] : List Nat), FF wsX7_goesBehindDesk RX7 21 k 3 ∧ fR k 3 = false := List.forall_mem_cons.mpr ⟨⟨⟨RX7, TX7, 6, "PageDesks$Text", rfl, rfl, by decide, by decide, uw_X7_goesBehindDesk_7, (List.mem_of_getElem? (i := 1) rfl), Or.inl rfl⟩, rfl⟩, fun _ h => absurd h List.not_mem_nil⟩
set_option maxRecDepth 100000 in
set_option maxHeartbeats 4000000 in
theorem t_X7_goesBehindDesk_21 {f : Fx} {g : Gm}  {Post : Int32 → Mm → Prop}  (hC : Cx f cX7_goesBehindDesk 2 RX7 wsX7_goesBehindDesk rm_X7_goesBehindDesk) (hG : shT g) (hR : RtZ f cX7_goesBehindDesk (fun r u => u.1 = g ∧ Post r u.2))  : ∀ (s0 : Int32) (s1 : Int32) (I : Mm) , wp_X7_goesBehindDesk_21   Post s0 s1 I → PW f 0 0 g I 21 [] [.int s0, .int s1, .ref (gA g 2)] := by
  intro s0 s1 I  hw
  unfold wp_X7_goesBehindDesk_21 at hw
  refine r_callI hC (a_V hC (k := 7) (c_X7_goesTo hG hw) ci_X7_goesTo gX7_goesBehindDesk_X7_goesTo rfl ⟨Nat.le_of_ble_eq_true rfl, Nat.le_of_ble_eq_true rfl⟩ ⟨Nat.le_of_ble_eq_true rfl, Nat.le_of_ble_eq_true rfl⟩ rfl (by decide) (hG).1.1 (List.mem_singleton.mp (hG).1.2) rfl rfl (Nat.le_of_ble_eq_true rfl) dX7_goesBehindDesk_21) ⟨rfl, rfl⟩ rfl (fun r3 J4 hw => ?_)
  exact r_retZ hC hR ⟨rfl, rfl⟩ dX7_goesBehindDesk_24 (zb_of hw.1) hw.2
set_option maxRecDepth 100000 in
set_option maxHeartbeats 4000000 in
theorem t_X7_goesBehindDesk_38 {f : Fx} {g : Gm}  {Post : Int32 → Mm → Prop}  (hC : Cx f cX7_goesBehindDesk 2 RX7 wsX7_goesBehindDesk rm_X7_goesBehindDesk) (hG : shT g) (hR : RtZ f cX7_goesBehindDesk (fun r u => u.1 = g ∧ Post r u.2))  : ∀ (s0 : Int32) (s1 : Int32) (I : Mm) , wp_X7_goesBehindDesk_38   Post s0 s1 I → PW f 0 0 g I 38 [] [.int s0, .int s1, .ref (gA g 2)] := by
  intro s0 s1 I  hw
  unfold wp_X7_goesBehindDesk_38 at hw
  refine r_callI hC (a_V hC (k := 7) (c_X7_goesTo hG hw) ci_X7_goesTo gX7_goesBehindDesk_X7_goesTo rfl ⟨Nat.le_of_ble_eq_true rfl, Nat.le_of_ble_eq_true rfl⟩ ⟨Nat.le_of_ble_eq_true rfl, Nat.le_of_ble_eq_true rfl⟩ rfl (by decide) (hG).1.1 (List.mem_singleton.mp (hG).1.2) rfl rfl (Nat.le_of_ble_eq_true rfl) dX7_goesBehindDesk_38) ⟨rfl, rfl⟩ rfl (fun r1 J2 hw => ?_)
  exact r_retZ hC hR ⟨rfl, rfl⟩ dX7_goesBehindDesk_41 (zb_of hw.1) hw.2
set_option maxRecDepth 100000 in
set_option maxHeartbeats 4000000 in
theorem t_X7_goesBehindDesk_0 {f : Fx} {g : Gm}  {Post : Int32 → Mm → Prop} {x1 : Int32} {I : Mm} (hC : Cx f cX7_goesBehindDesk 2 RX7 wsX7_goesBehindDesk rm_X7_goesBehindDesk) (hG : shT g) (hR : RtZ f cX7_goesBehindDesk (fun r u => u.1 = g ∧ Post r u.2)) (hw : wp_X7_goesBehindDesk  x1 I Post) : PW f 0 0 g I 0 [(0, .ref (gA g 2)), (1, .int x1)] [] := by
  unfold wp_X7_goesBehindDesk at hw
  refine r_iload_n hC dX7_goesBehindDesk_0 rfl rfl (j := 1) rfl ?_
  refine r_bipush hC (v := (59 : Int32)) dX7_goesBehindDesk_1 rfl (by decide) ?_
  refine r_icmp_ne hC (tgt := 25) dX7_goesBehindDesk_3 rfl (by decide) hw (fun hw => ?_) (fun hw => ?_)
  · refine r_aload_n hC dX7_goesBehindDesk_25 rfl rfl (j := 0) rfl ?_
    refine r_iconst hC (v := (5 : Int32)) dX7_goesBehindDesk_26 rfl (by decide) ?_
    refine r_iload_n hC dX7_goesBehindDesk_27 rfl rfl (j := 1) rfl ?_
    refine r_bipush hC (v := (44 : Int32)) dX7_goesBehindDesk_28 rfl (by decide) ?_
    refine r_icmp_ne hC (tgt := 37) dX7_goesBehindDesk_30 rfl (by decide) hw (fun hw => ?_) (fun hw => ?_)
    · refine r_iconst hC (v := (0 : Int32)) dX7_goesBehindDesk_37 rfl (by decide) ?_
      exact r_sub (lv' := []) [] rfl (t_X7_goesBehindDesk_38 hC hG hR _ _ _ hw)
    · refine r_iconst hC (v := (1 : Int32)) dX7_goesBehindDesk_33 rfl (by decide) ?_
      refine r_goto hC (tgt := 38) dX7_goesBehindDesk_34 (by decide) ?_
      exact r_sub (lv' := []) [] rfl (t_X7_goesBehindDesk_38 hC hG hR _ _ _ hw)
  · refine r_aload_n hC dX7_goesBehindDesk_6 rfl rfl (j := 0) rfl ?_
    refine r_iconst hC (v := (2 : Int32)) dX7_goesBehindDesk_7 rfl (by decide) ?_
    refine r_aload_n hC dX7_goesBehindDesk_8 rfl rfl (j := 0) rfl ?_
    refine r_getI hC dX7_goesBehindDesk_9 rfl (hG).1.1 (hG).1.2 ffg_X7_goesBehindDesk_21 ?_
    refine r_iconst hC (v := (4 : Int32)) dX7_goesBehindDesk_12 rfl (by decide) ?_
    refine r_icmp_ge hC (tgt := 20) dX7_goesBehindDesk_13 rfl (by decide) hw (fun hw => ?_) (fun hw => ?_)
    · refine r_iconst hC (v := (0 : Int32)) dX7_goesBehindDesk_20 rfl (by decide) ?_
      exact r_sub (lv' := []) [] rfl (t_X7_goesBehindDesk_21 hC hG hR _ _ _ hw)
    · refine r_iconst hC (v := (1 : Int32)) dX7_goesBehindDesk_16 rfl (by decide) ?_
      refine r_goto hC (tgt := 21) dX7_goesBehindDesk_17 (by decide) ?_
      exact r_sub (lv' := []) [] rfl (t_X7_goesBehindDesk_21 hC hG hR _ _ _ hw)
set_option maxRecDepth 100000 in
theorem c_X7_goesBehindDesk {l : Launch} {x : Gx} {g : Gm}  {x1 : Int32} {I : Mm} {Post : Int32 → Mm → Prop} (hG : shT g) (hw : wp_X7_goesBehindDesk  x1 I Post) : KI l x yX7_goesBehindDesk wsX7_goesBehindDesk rm_X7_goesBehindDesk g I [.ref (gA g 2), .int x1] (fun r u => u.1 = g ∧ Post r u.2) := KZ_of (by decide) rfl rfl (Nat.le_of_ble_eq_true rfl) (fun f hC _ _ hR => t_X7_goesBehindDesk_0 hC hG hR hw)

/-! X9_isPage -/
abbrev rm_X9_isPage : Room := { frames := 1, cells := 0, slots := 0, locals := 22 }
theorem ci_X9_isPage : CI yX9_isPage wsX9_isPage cX9_isPage 1 (some .boolean) 1 := ⟨⟨_, rfl⟩, by decide, by decide, by decide +kernel⟩
def wp_X9_isPage  (x0 : Int32) (I : Mm) (Post : Int32 → Mm → Prop) : Prop := wp_X9_isWithin x0 (0 : Int32) (7 : Int32) I (fun r1 J2 => (r1 = 0 ∨ r1 = 1) ∧ Post r1 J2)

set_option maxRecDepth 100000 in
set_option maxHeartbeats 4000000 in
theorem t_X9_isPage_0 {f : Fx} {g : Gm}  {Post : Int32 → Mm → Prop} {x0 : Int32} {I : Mm} (hC : Cx f cX9_isPage 1 RX9 wsX9_isPage rm_X9_isPage)  (hR : RtZ f cX9_isPage (fun r u => u.1 = g ∧ Post r u.2)) (hw : wp_X9_isPage  x0 I Post) : PW f 0 0 g I 0 [(0, .int x0)] [] := by
  unfold wp_X9_isPage at hw
  refine r_iload_n hC dX9_isPage_0 rfl rfl (j := 0) rfl ?_
  refine r_iconst hC (v := (0 : Int32)) dX9_isPage_1 rfl (by decide) ?_
  refine r_bipush hC (v := (7 : Int32)) dX9_isPage_2 rfl (by decide) ?_
  refine r_callI hC (a_S hC (c_X9_isWithin  hw) ci_X9_isWithin gX9_isPage_X9_isWithin ⟨Nat.le_of_ble_eq_true rfl, Nat.le_of_ble_eq_true rfl⟩ ⟨Nat.le_of_ble_eq_true rfl, Nat.le_of_ble_eq_true rfl⟩ rfl rfl (Nat.le_of_ble_eq_true rfl) dX9_isPage_4) ⟨rfl, rfl⟩ rfl (fun r1 J2 hw => ?_)
  exact r_retZ hC hR ⟨rfl, rfl⟩ dX9_isPage_7 (zb_of hw.1) hw.2
set_option maxRecDepth 100000 in
theorem c_X9_isPage {l : Launch} {x : Gx} {g : Gm}  {x0 : Int32} {I : Mm} {Post : Int32 → Mm → Prop}  (hw : wp_X9_isPage  x0 I Post) : KI l x yX9_isPage wsX9_isPage rm_X9_isPage g I [.int x0] (fun r u => u.1 = g ∧ Post r u.2) := KZ_of (by decide) rfl rfl (Nat.le_of_ble_eq_true rfl) (fun f hC _ _ hR => t_X9_isPage_0 hC  hR hw)

/-! X7_takesAsk -/
abbrev rm_X7_takesAsk : Room := { frames := 2, cells := 0, slots := 0, locals := 42 }
theorem ci_X7_takesAsk : CI yX7_takesAsk wsX7_takesAsk cX7_takesAsk 2 (some .boolean) 1 := ⟨⟨_, rfl⟩, by decide, by decide, by decide +kernel⟩
def wp_X7_takesAsk  (x1 : Int32) (I : Mm) (Post : Int32 → Mm → Prop) : Prop := if (24 : Int32) ≤ (I 2 4) then (Post (0 : Int32) I) else (wp_X9_isPage (x1 - (97 : Int32)) I (fun r1 J2 => if r1 = 0 then (Post (0 : Int32) J2) else (vp_in (J2 2 4) 24 ∧ (Post (1 : Int32) (up2 (up2 J2 5 (J2 2 4).toNatClampNeg (x1 - (97 : Int32))) 2 4 (((up2 J2 5 (J2 2 4).toNatClampNeg (x1 - (97 : Int32))) 2 4) + (1 : Int32)))))))
set_option maxRecDepth 20000 in
theorem uw_X7_takesAsk_7 : ∀ w ∈ u_ws RX7 TX7 6, w ∈ wsX7_takesAsk := by decide +kernel
set_option maxRecDepth 20000 in
theorem ffg_X7_takesAsk_25 : ∀ k ∈ ([7] : List Nat), FF wsX7_takesAsk RX7 25 k 4 ∧ fR k 4 = false := List.forall_mem_cons.mpr ⟨⟨⟨RX7, TX7, 6, "PageDesks$Text", rfl, rfl, by decide, by decide, uw_X7_takesAsk_7, (List.mem_of_getElem? (i := 1) rfl), Or.inl rfl⟩, rfl⟩, fun _ h => absurd h List.not_mem_nil⟩
set_option maxRecDepth 20000 in
theorem ffg_X7_takesAsk_18 : ∀ k ∈ ([7] : List Nat), FF wsX7_takesAsk RX7 18 k 2 ∧ fR k 2 = true := List.forall_mem_cons.mpr ⟨⟨⟨RX7, TX7, 6, "PageDesks$Text", rfl, rfl, by decide, by decide, uw_X7_takesAsk_7, (List.mem_of_getElem? (i := 2) rfl), Or.inl rfl⟩, rfl⟩, fun _ h => absurd h List.not_mem_nil⟩
set_option maxRecDepth 20000 in
theorem ffp_X7_takesAsk_25 : ∀ k ∈ ([7] : List Nat), FF wsX7_takesAsk RX7 25 k 4 ∧ fR k 4 = false ∧ FP k 4 := List.forall_mem_cons.mpr ⟨⟨⟨RX7, TX7, 6, "PageDesks$Text", rfl, rfl, by decide, by decide, uw_X7_takesAsk_7, (List.mem_of_getElem? (i := 1) rfl), Or.inl rfl⟩, rfl, ⟨RX7, TX7, 6, tyX7, rfl, tyX7_ok, nmX7, rfl, rfl⟩⟩, fun _ h => absurd h List.not_mem_nil⟩
set_option maxRecDepth 100000 in
set_option maxHeartbeats 4000000 in
theorem t_X7_takesAsk_0 {f : Fx} {g : Gm}  {Post : Int32 → Mm → Prop} {x1 : Int32} {I : Mm} (hC : Cx f cX7_takesAsk 2 RX7 wsX7_takesAsk rm_X7_takesAsk) (hG : shT g) (hR : RtZ f cX7_takesAsk (fun r u => u.1 = g ∧ Post r u.2)) (hw : wp_X7_takesAsk  x1 I Post) : PW f 0 0 g I 0 [(0, .ref (gA g 2)), (1, .int x1)] [] := by
  unfold wp_X7_takesAsk at hw
  refine r_aload_n hC dX7_takesAsk_0 rfl rfl (j := 0) rfl ?_
  refine r_getI hC dX7_takesAsk_1 rfl (hG).1.1 (hG).1.2 ffg_X7_takesAsk_25 ?_
  refine r_bipush hC (v := (24 : Int32)) dX7_takesAsk_4 rfl (by decide) ?_
  refine r_icmp_ge hC (tgt := 19) dX7_takesAsk_6 rfl (by decide) hw (fun hw => ?_) (fun hw => ?_)
  · refine r_iconst hC (v := (0 : Int32)) dX7_takesAsk_19 rfl (by decide) ?_
    exact r_retZ hC hR ⟨rfl, rfl⟩ dX7_takesAsk_20 (by decide) hw
  · refine r_iload_n hC dX7_takesAsk_9 rfl rfl (j := 1) rfl ?_
    refine r_bipush hC (v := (97 : Int32)) dX7_takesAsk_10 rfl (by decide) ?_
    refine r_isub hC dX7_takesAsk_12 rfl ?_
    refine r_callI hC (a_SN hC (host := RX9) (c_X9_isPage  hw) ci_X9_isPage gX7_takesAsk_X9_isPage_n60 (by decide) (List.mem_of_getElem? (i := 4) rfl) (List.mem_of_getElem? (i := 3) rfl) ⟨Nat.le_of_ble_eq_true rfl, Nat.le_of_ble_eq_true rfl⟩ ⟨Nat.le_of_ble_eq_true rfl, Nat.le_of_ble_eq_true rfl⟩ rfl rfl (Nat.le_of_ble_eq_true rfl) dX7_takesAsk_13) ⟨rfl, rfl⟩ rfl (fun r1 J2 hw => ?_)
    refine r_if_ne hC (tgt := 21) dX7_takesAsk_16 rfl (by decide) hw (fun hw => ?_) (fun hw => ?_)
    · refine r_aload_n hC dX7_takesAsk_21 rfl rfl (j := 0) rfl ?_
      refine r_getR hC dX7_takesAsk_22 rfl (hG).1.1 (hG).1.2 ffg_X7_takesAsk_18 (hG).2.2.2.2.2.2 ?_
      refine r_aload_n hC dX7_takesAsk_25 rfl rfl (j := 0) rfl ?_
      refine r_getI hC dX7_takesAsk_26 rfl (hG).1.1 (hG).1.2 ffg_X7_takesAsk_25 ?_
      refine r_iload_n hC dX7_takesAsk_29 rfl rfl (j := 1) rfl ?_
      refine r_bipush hC (v := (97 : Int32)) dX7_takesAsk_30 rfl (by decide) ?_
      refine r_isub hC dX7_takesAsk_32 rfl ?_
      obtain ⟨hi, hw⟩ := hw
      refine r_iast hC dX7_takesAsk_33 rfl ((hG).2.2.2.1).1 ((hG).2.2.2.1).2.1 (by rw [((hG).2.2.2.1).2.2]; exact hi) ?_
      refine r_aload_n hC dX7_takesAsk_34 rfl rfl (j := 0) rfl ?_
      refine r_dup hC dX7_takesAsk_35 rfl rfl ?_
      refine r_getI hC dX7_takesAsk_36 rfl (hG).1.1 (hG).1.2 ffg_X7_takesAsk_25 ?_
      refine r_iconst hC (v := (1 : Int32)) dX7_takesAsk_39 rfl (by decide) ?_
      refine r_iadd hC dX7_takesAsk_40 rfl ?_
      refine r_putI hC dX7_takesAsk_41 rfl (hG).1.1 (hG).1.2 ffp_X7_takesAsk_25 ?_
      refine r_iconst hC (v := (1 : Int32)) dX7_takesAsk_44 rfl (by decide) ?_
      exact r_retZ hC hR ⟨rfl, rfl⟩ dX7_takesAsk_45 (by decide) hw
    · refine r_iconst hC (v := (0 : Int32)) dX7_takesAsk_19 rfl (by decide) ?_
      exact r_retZ hC hR ⟨rfl, rfl⟩ dX7_takesAsk_20 (by decide) hw
set_option maxRecDepth 100000 in
theorem c_X7_takesAsk {l : Launch} {x : Gx} {g : Gm}  {x1 : Int32} {I : Mm} {Post : Int32 → Mm → Prop} (hG : shT g) (hw : wp_X7_takesAsk  x1 I Post) : KI l x yX7_takesAsk wsX7_takesAsk rm_X7_takesAsk g I [.ref (gA g 2), .int x1] (fun r u => u.1 = g ∧ Post r u.2) := KZ_of (by decide) rfl rfl (Nat.le_of_ble_eq_true rfl) (fun f hC _ _ hR => t_X7_takesAsk_0 hC hG hR hw)

/-! X7_goesOn -/
abbrev rm_X7_goesOn : Room := { frames := 3, cells := 0, slots := 0, locals := 63 }
theorem ci_X7_goesOn : CI yX7_goesOn wsX7_goesOn cX7_goesOn 2 (some .boolean) 1 := ⟨⟨_, rfl⟩, by decide, by decide, by decide +kernel⟩
def wp_X7_goesOn_53   (Post : Int32 → Mm → Prop) (s0 : Int32) (s1 : Int32) (I : Mm) : Prop := wp_X7_goesTo s1 s0 I (fun r9 J10 => (r9 = 0 ∨ r9 = 1) ∧ Post r9 J10)
def wp_X7_goesOn_70   (Post : Int32 → Mm → Prop) (s0 : Int32) (s1 : Int32) (I : Mm) : Prop := wp_X7_goesTo s1 s0 I (fun r11 J12 => (r11 = 0 ∨ r11 = 1) ∧ Post r11 J12)
def wp_X7_goesOn  (x1 : Int32) (I : Mm) (Post : Int32 → Mm → Prop) : Prop := if (I 2 5) = 0 then (if x1 = (100 : Int32) then (wp_X7_goesOn_53  Post (1 : Int32) (1 : Int32) I) else (wp_X7_goesOn_53  Post (0 : Int32) (1 : Int32) I)) else (if (I 2 5) = 1 then (if x1 = (59 : Int32) then (wp_X7_goesOn_70  Post (1 : Int32) (2 : Int32) I) else (wp_X7_goesOn_70  Post (0 : Int32) (2 : Int32) I)) else (if (I 2 5) = 2 then (wp_X7_takesKind x1 I (fun r1 J2 => (r1 = 0 ∨ r1 = 1) ∧ Post r1 J2)) else (if (I 2 5) = 3 then (wp_X7_takesFrames x1 I (fun r3 J4 => (r3 = 0 ∨ r3 = 1) ∧ Post r3 J4)) else (if (I 2 5) = 4 then (wp_X7_goesBehindDesk x1 I (fun r5 J6 => (r5 = 0 ∨ r5 = 1) ∧ Post r5 J6)) else (wp_X7_takesAsk x1 I (fun r7 J8 => (r7 = 0 ∨ r7 = 1) ∧ Post r7 J8))))))
set_option maxRecDepth 20000 in
theorem uw_X7_goesOn_7 : ∀ w ∈ u_ws RX7 TX7 6, w ∈ wsX7_goesOn := by decide +kernel
set_option maxRecDepth 20000 in
theorem ffg_X7_goesOn_28 : ∀ k ∈ ([7] : List Nat), FF wsX7_goesOn RX7 28 k 5 ∧ fR k 5 = false := List.forall_mem_cons.mpr ⟨⟨⟨RX7, TX7, 6, "PageDesks$Text", rfl, rfl, by decide, by decide, uw_X7_goesOn_7, (List.mem_of_getElem? (i := 1) rfl), Or.inl rfl⟩, rfl⟩, fun _ h => absurd h List.not_mem_nil⟩
set_option maxRecDepth 100000 in
set_option maxHeartbeats 4000000 in
theorem t_X7_goesOn_53 {f : Fx} {g : Gm}  {Post : Int32 → Mm → Prop}  (hC : Cx f cX7_goesOn 2 RX7 wsX7_goesOn rm_X7_goesOn) (hG : shT g) (hR : RtZ f cX7_goesOn (fun r u => u.1 = g ∧ Post r u.2))  : ∀ (s0 : Int32) (s1 : Int32) (I : Mm) , wp_X7_goesOn_53   Post s0 s1 I → PW f 0 0 g I 53 [] [.int s0, .int s1, .ref (gA g 2)] := by
  intro s0 s1 I  hw
  unfold wp_X7_goesOn_53 at hw
  refine r_callI hC (a_V hC (k := 7) (c_X7_goesTo hG hw) ci_X7_goesTo gX7_goesOn_X7_goesTo rfl ⟨Nat.le_of_ble_eq_true rfl, Nat.le_of_ble_eq_true rfl⟩ ⟨Nat.le_of_ble_eq_true rfl, Nat.le_of_ble_eq_true rfl⟩ rfl (by decide) (hG).1.1 (List.mem_singleton.mp (hG).1.2) rfl rfl (Nat.le_of_ble_eq_true rfl) dX7_goesOn_53) ⟨rfl, rfl⟩ rfl (fun r9 J10 hw => ?_)
  exact r_retZ hC hR ⟨rfl, rfl⟩ dX7_goesOn_56 (zb_of hw.1) hw.2
set_option maxRecDepth 100000 in
set_option maxHeartbeats 4000000 in
theorem t_X7_goesOn_70 {f : Fx} {g : Gm}  {Post : Int32 → Mm → Prop}  (hC : Cx f cX7_goesOn 2 RX7 wsX7_goesOn rm_X7_goesOn) (hG : shT g) (hR : RtZ f cX7_goesOn (fun r u => u.1 = g ∧ Post r u.2))  : ∀ (s0 : Int32) (s1 : Int32) (I : Mm) , wp_X7_goesOn_70   Post s0 s1 I → PW f 0 0 g I 70 [] [.int s0, .int s1, .ref (gA g 2)] := by
  intro s0 s1 I  hw
  unfold wp_X7_goesOn_70 at hw
  refine r_callI hC (a_V hC (k := 7) (c_X7_goesTo hG hw) ci_X7_goesTo gX7_goesOn_X7_goesTo rfl ⟨Nat.le_of_ble_eq_true rfl, Nat.le_of_ble_eq_true rfl⟩ ⟨Nat.le_of_ble_eq_true rfl, Nat.le_of_ble_eq_true rfl⟩ rfl (by decide) (hG).1.1 (List.mem_singleton.mp (hG).1.2) rfl rfl (Nat.le_of_ble_eq_true rfl) dX7_goesOn_70) ⟨rfl, rfl⟩ rfl (fun r11 J12 hw => ?_)
  exact r_retZ hC hR ⟨rfl, rfl⟩ dX7_goesOn_73 (zb_of hw.1) hw.2
set_option maxRecDepth 100000 in
set_option maxHeartbeats 4000000 in
theorem t_X7_goesOn_0 {f : Fx} {g : Gm}  {Post : Int32 → Mm → Prop} {x1 : Int32} {I : Mm} (hC : Cx f cX7_goesOn 2 RX7 wsX7_goesOn rm_X7_goesOn) (hG : shT g) (hR : RtZ f cX7_goesOn (fun r u => u.1 = g ∧ Post r u.2)) (hw : wp_X7_goesOn  x1 I Post) : PW f 0 0 g I 0 [(0, .ref (gA g 2)), (1, .int x1)] [] := by
  unfold wp_X7_goesOn at hw
  refine r_aload_n hC dX7_goesOn_0 rfl rfl (j := 0) rfl ?_
  refine r_getI hC dX7_goesOn_1 rfl (hG).1.1 (hG).1.2 ffg_X7_goesOn_28 ?_
  by_cases h0 : (I 2 5) = 0
  · rw [if_pos h0] at hw
    refine r_tabIn hC (tgt := 40) dX7_goesOn_4 h0 0 (by decide) (by decide) (by decide) rfl (by decide) ?_
    refine r_aload_n hC dX7_goesOn_40 rfl rfl (j := 0) rfl ?_
    refine r_iconst hC (v := (1 : Int32)) dX7_goesOn_41 rfl (by decide) ?_
    refine r_iload_n hC dX7_goesOn_42 rfl rfl (j := 1) rfl ?_
    refine r_bipush hC (v := (100 : Int32)) dX7_goesOn_43 rfl (by decide) ?_
    refine r_icmp_ne hC (tgt := 52) dX7_goesOn_45 rfl (by decide) hw (fun hw => ?_) (fun hw => ?_)
    · refine r_iconst hC (v := (0 : Int32)) dX7_goesOn_52 rfl (by decide) ?_
      exact r_sub (lv' := []) [] rfl (t_X7_goesOn_53 hC hG hR _ _ _ hw)
    · refine r_iconst hC (v := (1 : Int32)) dX7_goesOn_48 rfl (by decide) ?_
      refine r_goto hC (tgt := 53) dX7_goesOn_49 (by decide) ?_
      exact r_sub (lv' := []) [] rfl (t_X7_goesOn_53 hC hG hR _ _ _ hw)
  · rw [if_neg h0] at hw
    by_cases h1 : (I 2 5) = 1
    · rw [if_pos h1] at hw
      refine r_tabIn hC (tgt := 57) dX7_goesOn_4 h1 1 (by decide) (by decide) (by decide) rfl (by decide) ?_
      refine r_aload_n hC dX7_goesOn_57 rfl rfl (j := 0) rfl ?_
      refine r_iconst hC (v := (2 : Int32)) dX7_goesOn_58 rfl (by decide) ?_
      refine r_iload_n hC dX7_goesOn_59 rfl rfl (j := 1) rfl ?_
      refine r_bipush hC (v := (59 : Int32)) dX7_goesOn_60 rfl (by decide) ?_
      refine r_icmp_ne hC (tgt := 69) dX7_goesOn_62 rfl (by decide) hw (fun hw => ?_) (fun hw => ?_)
      · refine r_iconst hC (v := (0 : Int32)) dX7_goesOn_69 rfl (by decide) ?_
        exact r_sub (lv' := []) [] rfl (t_X7_goesOn_70 hC hG hR _ _ _ hw)
      · refine r_iconst hC (v := (1 : Int32)) dX7_goesOn_65 rfl (by decide) ?_
        refine r_goto hC (tgt := 70) dX7_goesOn_66 (by decide) ?_
        exact r_sub (lv' := []) [] rfl (t_X7_goesOn_70 hC hG hR _ _ _ hw)
    · rw [if_neg h1] at hw
      by_cases h2 : (I 2 5) = 2
      · rw [if_pos h2] at hw
        refine r_tabIn hC (tgt := 74) dX7_goesOn_4 h2 2 (by decide) (by decide) (by decide) rfl (by decide) ?_
        refine r_aload_n hC dX7_goesOn_74 rfl rfl (j := 0) rfl ?_
        refine r_iload_n hC dX7_goesOn_75 rfl rfl (j := 1) rfl ?_
        refine r_callI hC (a_V hC (k := 7) (c_X7_takesKind hG hw) ci_X7_takesKind gX7_goesOn_X7_takesKind rfl ⟨Nat.le_of_ble_eq_true rfl, Nat.le_of_ble_eq_true rfl⟩ ⟨Nat.le_of_ble_eq_true rfl, Nat.le_of_ble_eq_true rfl⟩ rfl (by decide) (hG).1.1 (List.mem_singleton.mp (hG).1.2) rfl rfl (Nat.le_of_ble_eq_true rfl) dX7_goesOn_76) ⟨rfl, rfl⟩ rfl (fun r1 J2 hw => ?_)
        exact r_retZ hC hR ⟨rfl, rfl⟩ dX7_goesOn_79 (zb_of hw.1) hw.2
      · rw [if_neg h2] at hw
        by_cases h3 : (I 2 5) = 3
        · rw [if_pos h3] at hw
          refine r_tabIn hC (tgt := 80) dX7_goesOn_4 h3 3 (by decide) (by decide) (by decide) rfl (by decide) ?_
          refine r_aload_n hC dX7_goesOn_80 rfl rfl (j := 0) rfl ?_
          refine r_iload_n hC dX7_goesOn_81 rfl rfl (j := 1) rfl ?_
          refine r_callI hC (a_V hC (k := 7) (c_X7_takesFrames hG hw) ci_X7_takesFrames gX7_goesOn_X7_takesFrames rfl ⟨Nat.le_of_ble_eq_true rfl, Nat.le_of_ble_eq_true rfl⟩ ⟨Nat.le_of_ble_eq_true rfl, Nat.le_of_ble_eq_true rfl⟩ rfl (by decide) (hG).1.1 (List.mem_singleton.mp (hG).1.2) rfl rfl (Nat.le_of_ble_eq_true rfl) dX7_goesOn_82) ⟨rfl, rfl⟩ rfl (fun r3 J4 hw => ?_)
          exact r_retZ hC hR ⟨rfl, rfl⟩ dX7_goesOn_85 (zb_of hw.1) hw.2
        · rw [if_neg h3] at hw
          by_cases h4 : (I 2 5) = 4
          · rw [if_pos h4] at hw
            refine r_tabIn hC (tgt := 86) dX7_goesOn_4 h4 4 (by decide) (by decide) (by decide) rfl (by decide) ?_
            refine r_aload_n hC dX7_goesOn_86 rfl rfl (j := 0) rfl ?_
            refine r_iload_n hC dX7_goesOn_87 rfl rfl (j := 1) rfl ?_
            refine r_callI hC (a_V hC (k := 7) (c_X7_goesBehindDesk hG hw) ci_X7_goesBehindDesk gX7_goesOn_X7_goesBehindDesk rfl ⟨Nat.le_of_ble_eq_true rfl, Nat.le_of_ble_eq_true rfl⟩ ⟨Nat.le_of_ble_eq_true rfl, Nat.le_of_ble_eq_true rfl⟩ rfl (by decide) (hG).1.1 (List.mem_singleton.mp (hG).1.2) rfl rfl (Nat.le_of_ble_eq_true rfl) dX7_goesOn_88) ⟨rfl, rfl⟩ rfl (fun r5 J6 hw => ?_)
            exact r_retZ hC hR ⟨rfl, rfl⟩ dX7_goesOn_91 (zb_of hw.1) hw.2
          · rw [if_neg h4] at hw
            have e0 := lv_neT h0 (show (0 : Int32).toInt = 0 by decide)
            have e1 := lv_neT h1 (show (1 : Int32).toInt = 1 by decide)
            have e2 := lv_neT h2 (show (2 : Int32).toInt = 2 by decide)
            have e3 := lv_neT h3 (show (3 : Int32).toInt = 3 by decide)
            have e4 := lv_neT h4 (show (4 : Int32).toInt = 4 by decide)
            refine r_tabOut hC (tgt := 92) dX7_goesOn_4 (by omega) (by decide) ?_
            refine r_aload_n hC dX7_goesOn_92 rfl rfl (j := 0) rfl ?_
            refine r_iload_n hC dX7_goesOn_93 rfl rfl (j := 1) rfl ?_
            refine r_callI hC (a_V hC (k := 7) (c_X7_takesAsk hG hw) ci_X7_takesAsk gX7_goesOn_X7_takesAsk rfl ⟨Nat.le_of_ble_eq_true rfl, Nat.le_of_ble_eq_true rfl⟩ ⟨Nat.le_of_ble_eq_true rfl, Nat.le_of_ble_eq_true rfl⟩ rfl (by decide) (hG).1.1 (List.mem_singleton.mp (hG).1.2) rfl rfl (Nat.le_of_ble_eq_true rfl) dX7_goesOn_94) ⟨rfl, rfl⟩ rfl (fun r7 J8 hw => ?_)
            exact r_retZ hC hR ⟨rfl, rfl⟩ dX7_goesOn_97 (zb_of hw.1) hw.2
set_option maxRecDepth 100000 in
theorem c_X7_goesOn {l : Launch} {x : Gx} {g : Gm}  {x1 : Int32} {I : Mm} {Post : Int32 → Mm → Prop} (hG : shT g) (hw : wp_X7_goesOn  x1 I Post) : KI l x yX7_goesOn wsX7_goesOn rm_X7_goesOn g I [.ref (gA g 2), .int x1] (fun r u => u.1 = g ∧ Post r u.2) := KZ_of (by decide) rfl rfl (Nat.le_of_ble_eq_true rfl) (fun f hC _ _ hR => t_X7_goesOn_0 hC hG hR hw)

/-! X7_firstFault -/
abbrev rm_X7_firstFault : Room := { frames := 4, cells := 0, slots := 0, locals := 84 }
theorem ci_X7_firstFault : CI yX7_firstFault wsX7_firstFault cX7_firstFault 5 (some .int) 3 := ⟨⟨_, rfl⟩, by decide, by decide, by decide +kernel⟩
def wp_X7_firstFault_18 (r : Nat) (K49 : Int32 → Mm → Prop) (Post : Int32 → Mm → Prop) : Nat → Int32 → Int32 → Int32 → Mm → Prop
  | 0, _, _, _, _ => False
  | nn18 + 1, x2, x3, x4, I => if x3 ≤ x4 then (K49 x3 I) else (vp_in (x2 + x4) 60 ∧ (wp_X7_goesOn (I (r + 4) (x2 + x4).toNatClampNeg) I (fun r1 J2 => if r1 = 0 then (Post x4 J2) else (wp_X7_firstFault_18 r K49 Post nn18 x2 x3 (x4 + 1) J2))))
def wp_X7_firstFault_49 (r : Nat)  (Post : Int32 → Mm → Prop) (x3 : Int32) (I : Mm) : Prop := if (I 2 5) = (5 : Int32) then (if (I 2 4) ≤ 0 then (Post x3 I) else (Post (-1 : Int32) I)) else (Post x3 I)
def wp_X7_firstFault (r : Nat) (x2 : Int32) (x3 : Int32) (I : Mm) (Post : Int32 → Mm → Prop) : Prop := ∃ nn18, wp_X7_firstFault_18 r (fun x3 I => wp_X7_firstFault_49 r Post x3 I) Post nn18 x2 x3 (0 : Int32) (up2 (up2 (up2 I 2 3 (0 : Int32)) 2 4 (0 : Int32)) 2 5 (0 : Int32))
set_option maxRecDepth 20000 in
theorem uw_X7_firstFault_7 : ∀ w ∈ u_ws RX7 TX7 6, w ∈ wsX7_firstFault := by decide +kernel
set_option maxRecDepth 20000 in
theorem ffp_X7_firstFault_21 : ∀ k ∈ ([7] : List Nat), FF wsX7_firstFault RX7 21 k 3 ∧ fR k 3 = false ∧ FP k 3 := List.forall_mem_cons.mpr ⟨⟨⟨RX7, TX7, 6, "PageDesks$Text", rfl, rfl, by decide, by decide, uw_X7_firstFault_7, (List.mem_of_getElem? (i := 1) rfl), Or.inl rfl⟩, rfl, ⟨RX7, TX7, 6, tyX7, rfl, tyX7_ok, nmX7, rfl, rfl⟩⟩, fun _ h => absurd h List.not_mem_nil⟩
set_option maxRecDepth 20000 in
theorem ffp_X7_firstFault_25 : ∀ k ∈ ([7] : List Nat), FF wsX7_firstFault RX7 25 k 4 ∧ fR k 4 = false ∧ FP k 4 := List.forall_mem_cons.mpr ⟨⟨⟨RX7, TX7, 6, "PageDesks$Text", rfl, rfl, by decide, by decide, uw_X7_firstFault_7, (List.mem_of_getElem? (i := 2) rfl), Or.inl rfl⟩, rfl, ⟨RX7, TX7, 6, tyX7, rfl, tyX7_ok, nmX7, rfl, rfl⟩⟩, fun _ h => absurd h List.not_mem_nil⟩
set_option maxRecDepth 20000 in
theorem ffp_X7_firstFault_28 : ∀ k ∈ ([7] : List Nat), FF wsX7_firstFault RX7 28 k 5 ∧ fR k 5 = false ∧ FP k 5 := List.forall_mem_cons.mpr ⟨⟨⟨RX7, TX7, 6, "PageDesks$Text", rfl, rfl, by decide, by decide, uw_X7_firstFault_7, (List.mem_of_getElem? (i := 3) rfl), Or.inl rfl⟩, rfl, ⟨RX7, TX7, 6, tyX7, rfl, tyX7_ok, nmX7, rfl, rfl⟩⟩, fun _ h => absurd h List.not_mem_nil⟩
set_option maxRecDepth 20000 in
theorem ffg_X7_firstFault_28 : ∀ k ∈ ([7] : List Nat), FF wsX7_firstFault RX7 28 k 5 ∧ fR k 5 = false := List.forall_mem_cons.mpr ⟨⟨⟨RX7, TX7, 6, "PageDesks$Text", rfl, rfl, by decide, by decide, uw_X7_firstFault_7, (List.mem_of_getElem? (i := 3) rfl), Or.inl rfl⟩, rfl⟩, fun _ h => absurd h List.not_mem_nil⟩
set_option maxRecDepth 20000 in
theorem ffg_X7_firstFault_25 : ∀ k ∈ ([7] : List Nat), FF wsX7_firstFault RX7 25 k 4 ∧ fR k 4 = false := List.forall_mem_cons.mpr ⟨⟨⟨RX7, TX7, 6, "PageDesks$Text", rfl, rfl, by decide, by decide, uw_X7_firstFault_7, (List.mem_of_getElem? (i := 2) rfl), Or.inl rfl⟩, rfl⟩, fun _ h => absurd h List.not_mem_nil⟩
set_option maxRecDepth 20000 in
theorem uw_X7_firstFault_6 : ∀ w ∈ u_ws RX6 TX6 3, w ∈ wsX7_firstFault := by decide +kernel
set_option maxRecDepth 20000 in
theorem ffg_X7_firstFault_31 : ∀ k ∈ ([6] : List Nat), FF wsX7_firstFault RX7 31 k 0 ∧ fR k 0 = true := List.forall_mem_cons.mpr ⟨⟨⟨RX6, TX6, 3, "PageDesks$Sheet", rfl, rfl, by decide, by decide, uw_X7_firstFault_6, (List.mem_of_getElem? (i := 4) rfl), Or.inl rfl⟩, rfl⟩, fun _ h => absurd h List.not_mem_nil⟩
set_option maxRecDepth 100000 in
set_option maxHeartbeats 4000000 in
theorem t_X7_firstFault_18 {f : Fx} {g : Gm} {r : Nat} {Post : Int32 → Mm → Prop} {K49 : Int32 → Mm → Prop} (hC : Cx f cX7_firstFault 5 RX7 wsX7_firstFault rm_X7_firstFault) (hG : shT g) (hr : shS g r) (hR : RtI f cX7_firstFault (fun r u => u.1 = g ∧ Post r u.2)) (hK49 : ∀ (x3 : Int32) (I : Mm) , K49 x3 I → PW f 0 0 g I 49 [(0, .ref (gA g 2)), (3, .int x3)] []) : ∀ (nn18 : Nat) (x2 : Int32) (x3 : Int32) (x4 : Int32) (I : Mm) , wp_X7_firstFault_18 r K49 Post nn18 x2 x3 x4 I → PW f 0 0 g I 18 [(0, .ref (gA g 2)), (1, .ref (gA g r)), (2, .int x2), (3, .int x3), (4, .int x4)] [] := by
  intro nn18
  induction nn18 with
  | zero =>
    intro x2 x3 x4 I  hw
    exact absurd hw id
  | succ nn18 ih =>
    intro x2 x3 x4 I  hw
    unfold wp_X7_firstFault_18 at hw
    refine r_iload hC dX7_firstFault_18 rfl (j := 4) rfl ?_
    refine r_iload_n hC dX7_firstFault_20 rfl rfl (j := 3) rfl ?_
    refine r_icmp_ge hC (tgt := 49) dX7_firstFault_21 rfl (by decide) hw (fun hw => ?_) (fun hw => ?_)
    · exact r_sub (lv' := [(0, .ref (gA g 2)), (3, .int x3)]) [0, 3] rfl (hK49 _ _ hw)
    · refine r_aload_n hC dX7_firstFault_24 rfl rfl (j := 0) rfl ?_
      refine r_aload_n hC dX7_firstFault_25 rfl rfl (j := 1) rfl ?_
      refine r_getR hC dX7_firstFault_26 rfl (hr).1.1 (hr).1.2 ffg_X7_firstFault_31 (hr).2.2 ?_
      refine r_iload_n hC dX7_firstFault_29 rfl rfl (j := 2) rfl ?_
      refine r_iload hC dX7_firstFault_30 rfl (j := 4) rfl ?_
      refine r_iadd hC dX7_firstFault_32 rfl ?_
      obtain ⟨hi, hw⟩ := hw
      refine r_iald hC dX7_firstFault_33 rfl ((hr).2.1).1 ((hr).2.1).2.1 (by rw [((hr).2.1).2.2]; exact hi) ?_
      refine r_callI hC (a_V hC (k := 7) (c_X7_goesOn hG hw) ci_X7_goesOn gX7_firstFault_X7_goesOn rfl ⟨Nat.le_of_ble_eq_true rfl, Nat.le_of_ble_eq_true rfl⟩ ⟨Nat.le_of_ble_eq_true rfl, Nat.le_of_ble_eq_true rfl⟩ rfl (by decide) (hG).1.1 (List.mem_singleton.mp (hG).1.2) rfl rfl (Nat.le_of_ble_eq_true rfl) dX7_firstFault_34) ⟨rfl, rfl⟩ rfl (fun r1 J2 hw => ?_)
      refine r_if_ne hC (tgt := 43) dX7_firstFault_37 rfl (by decide) hw (fun hw => ?_) (fun hw => ?_)
      · refine r_iinc hC (k := 1) (lv' := [(4, .int (x4 + 1)), (0, .ref (gA g 2)), (1, .ref (gA g r)), (2, .int x2), (3, .int x3)]) dX7_firstFault_43 rfl (j := 4) rfl (by decide) (by decide) rfl ?_
        refine r_goto hC (tgt := 18) dX7_firstFault_46 (by decide) ?_
        exact r_sub (lv' := [(0, .ref (gA g 2)), (1, .ref (gA g r)), (2, .int x2), (3, .int x3), (4, .int (x4 + 1))]) [1, 2, 3, 4, 0] rfl (ih _ _ _ _ hw)
      · refine r_iload hC dX7_firstFault_40 rfl (j := 4) rfl ?_
        exact r_retI hC hR ⟨rfl, rfl⟩ dX7_firstFault_42 hw
set_option maxRecDepth 100000 in
set_option maxHeartbeats 4000000 in
theorem t_X7_firstFault_49 {f : Fx} {g : Gm} {r : Nat} {Post : Int32 → Mm → Prop}  (hC : Cx f cX7_firstFault 5 RX7 wsX7_firstFault rm_X7_firstFault) (hG : shT g) (hr : shS g r) (hR : RtI f cX7_firstFault (fun r u => u.1 = g ∧ Post r u.2))  : ∀ (x3 : Int32) (I : Mm) , wp_X7_firstFault_49 r  Post x3 I → PW f 0 0 g I 49 [(0, .ref (gA g 2)), (3, .int x3)] [] := by
  intro x3 I  hw
  unfold wp_X7_firstFault_49 at hw
  refine r_aload_n hC dX7_firstFault_49 rfl rfl (j := 0) rfl ?_
  refine r_getI hC dX7_firstFault_50 rfl (hG).1.1 (hG).1.2 ffg_X7_firstFault_28 ?_
  refine r_iconst hC (v := (5 : Int32)) dX7_firstFault_53 rfl (by decide) ?_
  refine r_icmp_ne hC (tgt := 68) dX7_firstFault_54 rfl (by decide) hw (fun hw => ?_) (fun hw => ?_)
  · refine r_iload_n hC dX7_firstFault_68 rfl rfl (j := 1) rfl ?_
    exact r_retI hC hR ⟨rfl, rfl⟩ dX7_firstFault_69 hw
  · refine r_aload_n hC dX7_firstFault_57 rfl rfl (j := 0) rfl ?_
    refine r_getI hC dX7_firstFault_58 rfl (hG).1.1 (hG).1.2 ffg_X7_firstFault_25 ?_
    refine r_if_le hC (tgt := 68) dX7_firstFault_61 rfl (by decide) hw (fun hw => ?_) (fun hw => ?_)
    · refine r_iload_n hC dX7_firstFault_68 rfl rfl (j := 1) rfl ?_
      exact r_retI hC hR ⟨rfl, rfl⟩ dX7_firstFault_69 hw
    · refine r_iconst hC (v := (-1 : Int32)) dX7_firstFault_64 rfl (by decide) ?_
      refine r_goto hC (tgt := 69) dX7_firstFault_65 (by decide) ?_
      exact r_retI hC hR ⟨rfl, rfl⟩ dX7_firstFault_69 hw
set_option maxRecDepth 100000 in
set_option maxHeartbeats 4000000 in
theorem t_X7_firstFault_0 {f : Fx} {g : Gm} {r : Nat} {Post : Int32 → Mm → Prop} {x2 : Int32} {x3 : Int32} {I : Mm} (hC : Cx f cX7_firstFault 5 RX7 wsX7_firstFault rm_X7_firstFault) (hG : shT g) (hr : shS g r) (hR : RtI f cX7_firstFault (fun r u => u.1 = g ∧ Post r u.2)) (hw : wp_X7_firstFault r x2 x3 I Post) : PW f 0 0 g I 0 [(0, .ref (gA g 2)), (1, .ref (gA g r)), (2, .int x2), (3, .int x3)] [] := by
  unfold wp_X7_firstFault at hw
  refine r_aload_n hC dX7_firstFault_0 rfl rfl (j := 0) rfl ?_
  refine r_iconst hC (v := (0 : Int32)) dX7_firstFault_1 rfl (by decide) ?_
  refine r_putI hC dX7_firstFault_2 rfl (hG).1.1 (hG).1.2 ffp_X7_firstFault_21 ?_
  refine r_aload_n hC dX7_firstFault_5 rfl rfl (j := 0) rfl ?_
  refine r_iconst hC (v := (0 : Int32)) dX7_firstFault_6 rfl (by decide) ?_
  refine r_putI hC dX7_firstFault_7 rfl (hG).1.1 (hG).1.2 ffp_X7_firstFault_25 ?_
  refine r_aload_n hC dX7_firstFault_10 rfl rfl (j := 0) rfl ?_
  refine r_iconst hC (v := (0 : Int32)) dX7_firstFault_11 rfl (by decide) ?_
  refine r_putI hC dX7_firstFault_12 rfl (hG).1.1 (hG).1.2 ffp_X7_firstFault_28 ?_
  refine r_iconst hC (v := (0 : Int32)) dX7_firstFault_15 rfl (by decide) ?_
  refine r_istore hC (lv' := [(4, .int (0 : Int32)), (0, .ref (gA g 2)), (1, .ref (gA g r)), (2, .int x2), (3, .int x3)]) dX7_firstFault_16 rfl (by decide) rfl ?_
  obtain ⟨nn18, hw⟩ := hw
  exact r_sub (lv' := [(0, .ref (gA g 2)), (1, .ref (gA g r)), (2, .int x2), (3, .int x3), (4, .int (0 : Int32))]) [1, 2, 3, 4, 0] rfl ((t_X7_firstFault_18 hC hG hr hR (fun x3 I  hw => t_X7_firstFault_49 hC hG hr hR _ _ hw) nn18 _ _ _ _ hw))
set_option maxRecDepth 100000 in
theorem c_X7_firstFault {l : Launch} {x : Gx} {g : Gm} {r : Nat} {x2 : Int32} {x3 : Int32} {I : Mm} {Post : Int32 → Mm → Prop} (hG : shT g) (hr : shS g r) (hw : wp_X7_firstFault r x2 x3 I Post) : KI l x yX7_firstFault wsX7_firstFault rm_X7_firstFault g I [.ref (gA g 2), .ref (gA g r), .int x2, .int x3] (fun r u => u.1 = g ∧ Post r u.2) := KI_of (by decide) rfl rfl (Nat.le_of_ble_eq_true rfl) (fun f hC _ _ hR => t_X7_firstFault_0 hC hG hr hR hw)
