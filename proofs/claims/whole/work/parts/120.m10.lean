/-! X10_need -/
abbrev rm_X10_need : Room := { frames := 5, cells := 0, slots := 0, locals := 112 }
theorem ci_X10_need : CI yX10_need wsX10_need cX10_need 5 (some .int) 2 := ⟨⟨_, rfl⟩, by decide, by decide, by decide +kernel⟩
def wp_X10_need_54  (Kb : Int32 → Int32 → Int32 → Int32 → Mm → Prop) (Post : Int32 → Mm → Prop) (x1 : Int32) (x2 : Int32) (x4 : Int32) (s0 : Int32) (I : Mm) : Prop := Kb x1 x2 s0 (x4 + (-1)) I
def wp_X10_need_32   (Post : Int32 → Mm → Prop) : Nat → Int32 → Int32 → Int32 → Int32 → Mm → Prop
  | 0, _, _, _, _, _ => False
  | nn32 + 1, x1, x2, x3, x4, I => if x4 ≤ 0 then (Post x3 I) else (wp_X10_missesBy x1 x4 I (fun r5 J6 => if x2 < r5 then (wp_X10_need_54 (fun x1 x2 x3 x4 I => wp_X10_need_32  Post nn32 x1 x2 x3 x4 I) Post x1 x2 x4 x3 J6) else (wp_X10_need_54 (fun x1 x2 x3 x4 I => wp_X10_need_32  Post nn32 x1 x2 x3 x4 I) Post x1 x2 x4 x4 J6)))
def wp_X10_need  (x1 : Int32) (x2 : Int32) (I : Mm) (Post : Int32 → Mm → Prop) : Prop := wp_X10_noDesk x1 I (fun r1 J2 => if r1 = 0 then (wp_X10_in x2.toInt64 (0 : Int64) (24 : Int64) J2 (fun r3 J4 => if r3 = 0 then (Post (-2 : Int32) J4) else (∃ nn32, wp_X10_need_32  Post nn32 x1 x2 (-9 : Int32) (8 : Int32) J4))) else (Post (-1 : Int32) J2))

set_option maxRecDepth 100000 in
set_option maxHeartbeats 4000000 in
theorem t_X10_need_54 {f : Fx} {g : Gm}  {Post : Int32 → Mm → Prop} {Kb : Int32 → Int32 → Int32 → Int32 → Mm → Prop} (hC : Cx f cX10_need 5 RX10 wsX10_need rm_X10_need) (hG : shM g) (hR : RtI f cX10_need (fun r u => u.1 = g ∧ Post r u.2)) (hKb : ∀ (x1 : Int32) (x2 : Int32) (x3 : Int32) (x4 : Int32) (I : Mm) , Kb x1 x2 x3 x4 I → PW f 0 0 g I 32 [(0, .ref (gA g 100)), (1, .int x1), (2, .int x2), (3, .int x3), (4, .int x4)] []) : ∀ (x1 : Int32) (x2 : Int32) (x4 : Int32) (s0 : Int32) (I : Mm) , wp_X10_need_54  Kb Post x1 x2 x4 s0 I → PW f 0 0 g I 54 [(0, .ref (gA g 100)), (1, .int x1), (2, .int x2), (4, .int x4)] [.int s0] := by
  intro x1 x2 x4 s0 I  hw
  unfold wp_X10_need_54 at hw
  refine r_istore_n hC (lv' := [(3, .int s0), (0, .ref (gA g 100)), (1, .int x1), (2, .int x2), (4, .int x4)]) dX10_need_54 rfl rfl (by decide) rfl ?_
  refine r_iinc hC (k := -1) (lv' := [(4, .int (x4 + (-1))), (3, .int s0), (0, .ref (gA g 100)), (1, .int x1), (2, .int x2)]) dX10_need_55 rfl (j := 4) rfl (by decide) (by decide) rfl ?_
  refine r_goto hC (tgt := 32) dX10_need_58 (by decide) ?_
  exact r_sub (lv' := [(0, .ref (gA g 100)), (1, .int x1), (2, .int x2), (3, .int s0), (4, .int (x4 + (-1)))]) [2, 3, 4, 1, 0] rfl (hKb _ _ _ _ _ hw)
set_option maxRecDepth 100000 in
set_option maxHeartbeats 4000000 in
theorem t_X10_need_32 {f : Fx} {g : Gm}  {Post : Int32 → Mm → Prop}  (hC : Cx f cX10_need 5 RX10 wsX10_need rm_X10_need) (hG : shM g) (hR : RtI f cX10_need (fun r u => u.1 = g ∧ Post r u.2))  : ∀ (nn32 : Nat) (x1 : Int32) (x2 : Int32) (x3 : Int32) (x4 : Int32) (I : Mm) , wp_X10_need_32   Post nn32 x1 x2 x3 x4 I → PW f 0 0 g I 32 [(0, .ref (gA g 100)), (1, .int x1), (2, .int x2), (3, .int x3), (4, .int x4)] [] := by
  intro nn32
  induction nn32 with
  | zero =>
    intro x1 x2 x3 x4 I  hw
    exact absurd hw id
  | succ nn32 ih =>
    intro x1 x2 x3 x4 I  hw
    unfold wp_X10_need_32 at hw
    refine r_iload hC dX10_need_32 rfl (j := 4) rfl ?_
    refine r_if_le hC (tgt := 61) dX10_need_34 rfl (by decide) hw (fun hw => ?_) (fun hw => ?_)
    · refine r_iload_n hC dX10_need_61 rfl rfl (j := 3) rfl ?_
      exact r_retI hC hR ⟨rfl, rfl⟩ dX10_need_62 hw
    · refine r_aload_n hC dX10_need_37 rfl rfl (j := 0) rfl ?_
      refine r_iload_n hC dX10_need_38 rfl rfl (j := 1) rfl ?_
      refine r_iload hC dX10_need_39 rfl (j := 4) rfl ?_
      refine r_callI hC (a_V hC (k := 10) (c_X10_missesBy hG hw) ci_X10_missesBy gX10_need_X10_missesBy rfl ⟨Nat.le_of_ble_eq_true rfl, Nat.le_of_ble_eq_true rfl⟩ ⟨Nat.le_of_ble_eq_true rfl, Nat.le_of_ble_eq_true rfl⟩ rfl (by decide) hG.o.1 (List.mem_singleton.mp hG.o.2) rfl rfl (Nat.le_of_ble_eq_true rfl) dX10_need_41) ⟨rfl, rfl⟩ rfl (fun r5 J6 hw => ?_)
      refine r_iload_n hC dX10_need_44 rfl rfl (j := 2) rfl ?_
      refine r_icmp_gt hC (tgt := 53) dX10_need_45 rfl (by decide) hw (fun hw => ?_) (fun hw => ?_)
      · refine r_iload_n hC dX10_need_53 rfl rfl (j := 3) rfl ?_
        exact r_sub (lv' := [(0, .ref (gA g 100)), (1, .int x1), (2, .int x2), (4, .int x4)]) [0, 1, 2, 4] rfl (t_X10_need_54 hC hG hR (fun x1 x2 x3 x4 I  hw => ih x1 x2 x3 x4 I  hw) _ _ _ _ _ hw)
      · refine r_iload hC dX10_need_48 rfl (j := 4) rfl ?_
        refine r_goto hC (tgt := 54) dX10_need_50 (by decide) ?_
        exact r_sub (lv' := [(0, .ref (gA g 100)), (1, .int x1), (2, .int x2), (4, .int x4)]) [0, 1, 2, 4] rfl (t_X10_need_54 hC hG hR (fun x1 x2 x3 x4 I  hw => ih x1 x2 x3 x4 I  hw) _ _ _ _ _ hw)
set_option maxRecDepth 100000 in
set_option maxHeartbeats 4000000 in
theorem t_X10_need_0 {f : Fx} {g : Gm}  {Post : Int32 → Mm → Prop} {x1 : Int32} {x2 : Int32} {I : Mm} (hC : Cx f cX10_need 5 RX10 wsX10_need rm_X10_need) (hG : shM g) (hR : RtI f cX10_need (fun r u => u.1 = g ∧ Post r u.2)) (hw : wp_X10_need  x1 x2 I Post) : PW f 0 0 g I 0 [(0, .ref (gA g 100)), (1, .int x1), (2, .int x2)] [] := by
  unfold wp_X10_need at hw
  refine r_aload_n hC dX10_need_0 rfl rfl (j := 0) rfl ?_
  refine r_iload_n hC dX10_need_1 rfl rfl (j := 1) rfl ?_
  refine r_callI hC (a_V hC (k := 10) (c_X10_noDesk hG hw) ci_X10_noDesk gX10_need_X10_noDesk rfl ⟨Nat.le_of_ble_eq_true rfl, Nat.le_of_ble_eq_true rfl⟩ ⟨Nat.le_of_ble_eq_true rfl, Nat.le_of_ble_eq_true rfl⟩ rfl (by decide) hG.o.1 (List.mem_singleton.mp hG.o.2) rfl rfl (Nat.le_of_ble_eq_true rfl) dX10_need_2) ⟨rfl, rfl⟩ rfl (fun r1 J2 hw => ?_)
  refine r_if_eq hC (tgt := 10) dX10_need_5 rfl (by decide) hw (fun hw => ?_) (fun hw => ?_)
  · refine r_iload_n hC dX10_need_10 rfl rfl (j := 2) rfl ?_
    refine r_i2l hC dX10_need_11 rfl ?_
    refine r_lconst hC (v := (0 : Int64)) dX10_need_12 rfl (by decide) ?_
    refine r_ldc2 hC (v := (24 : Int64)) dX10_need_13 rfl (List.mem_of_getElem? (i := 1) rfl) ?_
    refine r_callI hC (a_S hC (c_X10_in  hw) ci_X10_in gX10_need_X10_in ⟨Nat.le_of_ble_eq_true rfl, Nat.le_of_ble_eq_true rfl⟩ ⟨Nat.le_of_ble_eq_true rfl, Nat.le_of_ble_eq_true rfl⟩ rfl rfl (Nat.le_of_ble_eq_true rfl) dX10_need_16) ⟨rfl, rfl⟩ rfl (fun r3 J4 hw => ?_)
    refine r_if_ne hC (tgt := 25) dX10_need_19 rfl (by decide) hw (fun hw => ?_) (fun hw => ?_)
    · refine r_bipush hC (v := (-9 : Int32)) dX10_need_25 rfl (by decide) ?_
      refine r_istore_n hC (lv' := [(3, .int (-9 : Int32)), (0, .ref (gA g 100)), (1, .int x1), (2, .int x2)]) dX10_need_27 rfl rfl (by decide) rfl ?_
      refine r_bipush hC (v := (8 : Int32)) dX10_need_28 rfl (by decide) ?_
      refine r_istore hC (lv' := [(4, .int (8 : Int32)), (3, .int (-9 : Int32)), (0, .ref (gA g 100)), (1, .int x1), (2, .int x2)]) dX10_need_30 rfl (by decide) rfl ?_
      obtain ⟨nn32, hw⟩ := hw
      exact r_sub (lv' := [(0, .ref (gA g 100)), (1, .int x1), (2, .int x2), (3, .int (-9 : Int32)), (4, .int (8 : Int32))]) [2, 3, 4, 1, 0] rfl ((t_X10_need_32 hC hG hR nn32 _ _ _ _ _ hw))
    · refine r_bipush hC (v := (-2 : Int32)) dX10_need_22 rfl (by decide) ?_
      exact r_retI hC hR ⟨rfl, rfl⟩ dX10_need_24 hw
  · refine r_iconst hC (v := (-1 : Int32)) dX10_need_8 rfl (by decide) ?_
    exact r_retI hC hR ⟨rfl, rfl⟩ dX10_need_9 hw
set_option maxRecDepth 100000 in
theorem c_X10_need {l : Launch} {x : Gx} {g : Gm}  {x1 : Int32} {x2 : Int32} {I : Mm} {Post : Int32 → Mm → Prop} (hG : shM g) (hw : wp_X10_need  x1 x2 I Post) : KI l x yX10_need wsX10_need rm_X10_need g I [.ref (gA g 100), .int x1, .int x2] (fun r u => u.1 = g ∧ Post r u.2) := KI_of (by decide) rfl rfl (Nat.le_of_ble_eq_true rfl) (fun f hC _ _ hR => t_X10_need_0 hC hG hR hw)

/-! X10_lets -/
abbrev rm_X10_lets : Room := { frames := 0, cells := 0, slots := 0, locals := 0 }
theorem ci_X10_lets : CI yX10_lets wsX10_lets cX10_lets 3 none 2 := ⟨⟨_, rfl⟩, by decide, by decide, by decide +kernel⟩
def wp_X10_lets  (x1 : Int32) (x2 : Int32) (I : Mm) (Post : Mm → Prop) : Prop := vp_in x1 256 ∧ (if (I 120 x1.toNatClampNeg) ≤ x2 then (vp_in x1 256 ∧ (vp_in x1 256 ∧ (Post (up2 I 120 x1.toNatClampNeg (I 120 x1.toNatClampNeg))))) else (vp_in x1 256 ∧ (Post (up2 I 120 x1.toNatClampNeg x2))))
set_option maxRecDepth 20000 in
theorem uw_X10_lets_10 : ∀ w ∈ u_ws RX10 TX10 30, w ∈ wsX10_lets := by decide +kernel
set_option maxRecDepth 20000 in
theorem ffg_X10_lets_34 : ∀ k ∈ ([10] : List Nat), FF wsX10_lets RX10 34 k 20 ∧ fR k 20 = true := List.forall_mem_cons.mpr ⟨⟨⟨RX10, TX10, 30, "PageDesksModel", rfl, rfl, by decide, by decide, uw_X10_lets_10, (List.mem_of_getElem? (i := 1) rfl), Or.inl rfl⟩, rfl⟩, fun _ h => absurd h List.not_mem_nil⟩
set_option maxRecDepth 100000 in
set_option maxHeartbeats 4000000 in
theorem t_X10_lets_0 {f : Fx} {g : Gm}  {Post : Mm → Prop} {x1 : Int32} {x2 : Int32} {I : Mm} (hC : Cx f cX10_lets 3 RX10 wsX10_lets rm_X10_lets) (hG : shM g) (hR : RtV f cX10_lets (fun u => u.1 = g ∧ Post u.2)) (hw : wp_X10_lets  x1 x2 I Post) : PW f 0 0 g I 0 [(0, .ref (gA g 100)), (1, .int x1), (2, .int x2)] [] := by
  unfold wp_X10_lets at hw
  refine r_aload_n hC dX10_lets_0 rfl rfl (j := 0) rfl ?_
  refine r_getR hC dX10_lets_1 rfl hG.o.1 hG.o.2 ffg_X10_lets_34 hG.a20.2 ?_
  refine r_iload_n hC dX10_lets_4 rfl rfl (j := 1) rfl ?_
  refine r_iload_n hC dX10_lets_5 rfl rfl (j := 2) rfl ?_
  refine r_aload_n hC dX10_lets_6 rfl rfl (j := 0) rfl ?_
  refine r_getR hC dX10_lets_7 rfl hG.o.1 hG.o.2 ffg_X10_lets_34 hG.a20.2 ?_
  refine r_iload_n hC dX10_lets_10 rfl rfl (j := 1) rfl ?_
  obtain ⟨hi, hw⟩ := hw
  refine r_iald hC dX10_lets_11 rfl (hG.a20.1).1 (hG.a20.1).2.1 (by rw [(hG.a20.1).2.2]; exact hi) ?_
  refine r_icmp_ge hC (tgt := 19) dX10_lets_12 rfl (by decide) hw (fun hw => ?_) (fun hw => ?_)
  · refine r_aload_n hC dX10_lets_19 rfl rfl (j := 0) rfl ?_
    refine r_getR hC dX10_lets_20 rfl hG.o.1 hG.o.2 ffg_X10_lets_34 hG.a20.2 ?_
    refine r_iload_n hC dX10_lets_23 rfl rfl (j := 1) rfl ?_
    obtain ⟨hi, hw⟩ := hw
    refine r_iald hC dX10_lets_24 rfl (hG.a20.1).1 (hG.a20.1).2.1 (by rw [(hG.a20.1).2.2]; exact hi) ?_
    obtain ⟨hi, hw⟩ := hw
    refine r_iast hC dX10_lets_25 rfl (hG.a20.1).1 (hG.a20.1).2.1 (by rw [(hG.a20.1).2.2]; exact hi) ?_
    exact r_retV hC hR ⟨rfl, rfl⟩ dX10_lets_26 hw
  · refine r_iload_n hC dX10_lets_15 rfl rfl (j := 2) rfl ?_
    refine r_goto hC (tgt := 25) dX10_lets_16 (by decide) ?_
    obtain ⟨hi, hw⟩ := hw
    refine r_iast hC dX10_lets_25 rfl (hG.a20.1).1 (hG.a20.1).2.1 (by rw [(hG.a20.1).2.2]; exact hi) ?_
    exact r_retV hC hR ⟨rfl, rfl⟩ dX10_lets_26 hw
set_option maxRecDepth 100000 in
theorem c_X10_lets {l : Launch} {x : Gx} {g : Gm}  {x1 : Int32} {x2 : Int32} {I : Mm} {Post : Mm → Prop} (hG : shM g) (hw : wp_X10_lets  x1 x2 I Post) : KV l x yX10_lets wsX10_lets rm_X10_lets g I [.ref (gA g 100), .int x1, .int x2] (fun u => u.1 = g ∧ Post u.2) := KV_of (by decide) rfl rfl (Nat.le_of_ble_eq_true rfl) (fun f hC _ _ hR => t_X10_lets_0 hC hG hR hw)

/-! X10_asksOne -/
abbrev rm_X10_asksOne : Room := { frames := 1, cells := 0, slots := 0, locals := 22 }
theorem ci_X10_asksOne : CI yX10_asksOne wsX10_asksOne cX10_asksOne 6 none 3 := ⟨⟨_, rfl⟩, by decide, by decide, by decide +kernel⟩
def wp_X10_asksOne_104  (Kb : Int32 → Int32 → Int32 → Int32 → Mm → Prop) (Post : Mm → Prop) (x1 : Int32) (x2 : Int32) (x4 : Int32) (x5 : Int32) (s0 : Int32) (s1 : Int32) (I : Mm) : Prop := wp_X10_lets s1 s0 I (fun J14 => Kb x1 x2 x4 (x5 + 1) J14)
def wp_X10_asksOne_86  (Kb : Int32 → Int32 → Int32 → Int32 → Mm → Prop) (Post : Mm → Prop) (x1 : Int32) (x2 : Int32) (x4 : Int32) (x5 : Int32) (s0 : Int32) (I : Mm) : Prop := wp_X10_isIn x1 x5 I (fun r11 J12 => if r11 = 0 then (wp_X10_asksOne_104 Kb Post x1 x2 x4 x5 (99 : Int32) s0 J12) else (wp_X10_asksOne_104 Kb Post x1 x2 x4 x5 (x4 + (1 : Int32)) s0 J12))
def wp_X10_asksOne_53   (Post : Mm → Prop) : Nat → Int32 → Int32 → Int32 → Int32 → Mm → Prop
  | 0, _, _, _, _, _ => False
  | nn53 + 1, x1, x2, x4, x5, I => if (8 : Int32) ≤ x5 then (Post I) else (wp_X10_isIn x1 x5 I (fun r9 J10 => if r9 = 0 then (wp_X10_asksOne_86 (fun x1 x2 x4 x5 I => wp_X10_asksOne_53  Post nn53 x1 x2 x4 x5 I) Post x1 x2 x4 x5 (0 : Int32) J10) else (wp_X10_asksOne_86 (fun x1 x2 x4 x5 I => wp_X10_asksOne_53  Post nn53 x1 x2 x4 x5 I) Post x1 x2 x4 x5 ((x1 &&& (((1 : Int32) <<< (x5 &&& 31)) ^^^ (-1 : Int32))) ||| ((1 : Int32) <<< (x2 &&& 31))) J10)))
def wp_X10_asksOne  (x1 : Int32) (x2 : Int32) (x3 : Int32) (I : Mm) (Post : Mm → Prop) : Prop := vp_in x1 256 ∧ (wp_X10_isIn x1 x2 I (fun r1 J2 => if r1 = 0 then (wp_X10_bits x1 J2 (fun r3 J4 => if x3 ≤ r3 then (∃ nn53, wp_X10_asksOne_53  Post nn53 x1 x2 (I 119 x1.toNatClampNeg) (0 : Int32) J4) else (wp_X10_lets (x1 ||| ((1 : Int32) <<< (x2 &&& 31))) ((I 119 x1.toNatClampNeg) + (1 : Int32)) J4 (fun J6 => Post J6)))) else (wp_X10_lets x1 (I 119 x1.toNatClampNeg) J2 (fun J8 => Post J8))))
set_option maxRecDepth 20000 in
theorem uw_X10_asksOne_10 : ∀ w ∈ u_ws RX10 TX10 30, w ∈ wsX10_asksOne := by decide +kernel
set_option maxRecDepth 20000 in
theorem ffg_X10_asksOne_31 : ∀ k ∈ ([10] : List Nat), FF wsX10_asksOne RX10 31 k 19 ∧ fR k 19 = true := List.forall_mem_cons.mpr ⟨⟨⟨RX10, TX10, 30, "PageDesksModel", rfl, rfl, by decide, by decide, uw_X10_asksOne_10, (List.mem_of_getElem? (i := 1) rfl), Or.inl rfl⟩, rfl⟩, fun _ h => absurd h List.not_mem_nil⟩
set_option maxRecDepth 100000 in
set_option maxHeartbeats 4000000 in
theorem t_X10_asksOne_104 {f : Fx} {g : Gm}  {Post : Mm → Prop} {Kb : Int32 → Int32 → Int32 → Int32 → Mm → Prop} (hC : Cx f cX10_asksOne 6 RX10 wsX10_asksOne rm_X10_asksOne) (hG : shM g) (hR : RtV f cX10_asksOne (fun u => u.1 = g ∧ Post u.2)) (hKb : ∀ (x1 : Int32) (x2 : Int32) (x4 : Int32) (x5 : Int32) (I : Mm) , Kb x1 x2 x4 x5 I → PW f 0 0 g I 53 [(0, .ref (gA g 100)), (1, .int x1), (2, .int x2), (4, .int x4), (5, .int x5)] []) : ∀ (x1 : Int32) (x2 : Int32) (x4 : Int32) (x5 : Int32) (s0 : Int32) (s1 : Int32) (I : Mm) , wp_X10_asksOne_104  Kb Post x1 x2 x4 x5 s0 s1 I → PW f 0 0 g I 104 [(0, .ref (gA g 100)), (1, .int x1), (2, .int x2), (4, .int x4), (5, .int x5)] [.int s0, .int s1, .ref (gA g 100)] := by
  intro x1 x2 x4 x5 s0 s1 I  hw
  unfold wp_X10_asksOne_104 at hw
  refine r_callV hC (a_V hC (k := 10) (c_X10_lets hG hw) ci_X10_lets gX10_asksOne_X10_lets rfl ⟨Nat.le_of_ble_eq_true rfl, Nat.le_of_ble_eq_true rfl⟩ ⟨Nat.le_of_ble_eq_true rfl, Nat.le_of_ble_eq_true rfl⟩ rfl (by decide) hG.o.1 (List.mem_singleton.mp hG.o.2) rfl rfl (Nat.le_of_ble_eq_true rfl) dX10_asksOne_104) ⟨rfl, rfl⟩ rfl (fun J14 hw => ?_)
  refine r_iinc hC (k := 1) (lv' := [(5, .int (x5 + 1)), (0, .ref (gA g 100)), (1, .int x1), (2, .int x2), (4, .int x4)]) dX10_asksOne_107 rfl (j := 4) rfl (by decide) (by decide) rfl ?_
  refine r_goto hC (tgt := 53) dX10_asksOne_110 (by decide) ?_
  exact r_sub (lv' := [(0, .ref (gA g 100)), (1, .int x1), (2, .int x2), (4, .int x4), (5, .int (x5 + 1))]) [1, 2, 3, 4, 0] rfl (hKb _ _ _ _ _ hw)
set_option maxRecDepth 100000 in
set_option maxHeartbeats 4000000 in
theorem t_X10_asksOne_86 {f : Fx} {g : Gm}  {Post : Mm → Prop} {Kb : Int32 → Int32 → Int32 → Int32 → Mm → Prop} (hC : Cx f cX10_asksOne 6 RX10 wsX10_asksOne rm_X10_asksOne) (hG : shM g) (hR : RtV f cX10_asksOne (fun u => u.1 = g ∧ Post u.2)) (hKb : ∀ (x1 : Int32) (x2 : Int32) (x4 : Int32) (x5 : Int32) (I : Mm) , Kb x1 x2 x4 x5 I → PW f 0 0 g I 53 [(0, .ref (gA g 100)), (1, .int x1), (2, .int x2), (4, .int x4), (5, .int x5)] []) : ∀ (x1 : Int32) (x2 : Int32) (x4 : Int32) (x5 : Int32) (s0 : Int32) (I : Mm) , wp_X10_asksOne_86  Kb Post x1 x2 x4 x5 s0 I → PW f 0 0 g I 86 [(0, .ref (gA g 100)), (1, .int x1), (2, .int x2), (4, .int x4), (5, .int x5)] [.int s0, .ref (gA g 100)] := by
  intro x1 x2 x4 x5 s0 I  hw
  unfold wp_X10_asksOne_86 at hw
  refine r_iload_n hC dX10_asksOne_86 rfl rfl (j := 1) rfl ?_
  refine r_iload hC dX10_asksOne_87 rfl (j := 4) rfl ?_
  refine r_callI hC (a_S hC (c_X10_isIn  hw) ci_X10_isIn gX10_asksOne_X10_isIn ⟨Nat.le_of_ble_eq_true rfl, Nat.le_of_ble_eq_true rfl⟩ ⟨Nat.le_of_ble_eq_true rfl, Nat.le_of_ble_eq_true rfl⟩ rfl rfl (Nat.le_of_ble_eq_true rfl) dX10_asksOne_89) ⟨rfl, rfl⟩ rfl (fun r11 J12 hw => ?_)
  refine r_if_eq hC (tgt := 102) dX10_asksOne_92 rfl (by decide) hw (fun hw => ?_) (fun hw => ?_)
  · refine r_bipush hC (v := (99 : Int32)) dX10_asksOne_102 rfl (by decide) ?_
    exact r_sub (lv' := [(0, .ref (gA g 100)), (1, .int x1), (2, .int x2), (4, .int x4), (5, .int x5)]) [0, 1, 2, 3, 4] rfl (t_X10_asksOne_104 hC hG hR hKb _ _ _ _ _ _ _ hw)
  · refine r_iload hC dX10_asksOne_95 rfl (j := 3) rfl ?_
    refine r_iconst hC (v := (1 : Int32)) dX10_asksOne_97 rfl (by decide) ?_
    refine r_iadd hC dX10_asksOne_98 rfl ?_
    refine r_goto hC (tgt := 104) dX10_asksOne_99 (by decide) ?_
    exact r_sub (lv' := [(0, .ref (gA g 100)), (1, .int x1), (2, .int x2), (4, .int x4), (5, .int x5)]) [0, 1, 2, 3, 4] rfl (t_X10_asksOne_104 hC hG hR hKb _ _ _ _ _ _ _ hw)
set_option maxRecDepth 100000 in
set_option maxHeartbeats 4000000 in
theorem t_X10_asksOne_53 {f : Fx} {g : Gm}  {Post : Mm → Prop}  (hC : Cx f cX10_asksOne 6 RX10 wsX10_asksOne rm_X10_asksOne) (hG : shM g) (hR : RtV f cX10_asksOne (fun u => u.1 = g ∧ Post u.2))  : ∀ (nn53 : Nat) (x1 : Int32) (x2 : Int32) (x4 : Int32) (x5 : Int32) (I : Mm) , wp_X10_asksOne_53   Post nn53 x1 x2 x4 x5 I → PW f 0 0 g I 53 [(0, .ref (gA g 100)), (1, .int x1), (2, .int x2), (4, .int x4), (5, .int x5)] [] := by
  intro nn53
  induction nn53 with
  | zero =>
    intro x1 x2 x4 x5 I  hw
    exact absurd hw id
  | succ nn53 ih =>
    intro x1 x2 x4 x5 I  hw
    unfold wp_X10_asksOne_53 at hw
    refine r_iload hC dX10_asksOne_53 rfl (j := 4) rfl ?_
    refine r_bipush hC (v := (8 : Int32)) dX10_asksOne_55 rfl (by decide) ?_
    refine r_icmp_ge hC (tgt := 113) dX10_asksOne_57 rfl (by decide) hw (fun hw => ?_) (fun hw => ?_)
    · exact r_retV hC hR ⟨rfl, rfl⟩ dX10_asksOne_113 hw
    · refine r_aload_n hC dX10_asksOne_60 rfl rfl (j := 0) rfl ?_
      refine r_iload_n hC dX10_asksOne_61 rfl rfl (j := 1) rfl ?_
      refine r_iload hC dX10_asksOne_62 rfl (j := 4) rfl ?_
      refine r_callI hC (a_S hC (c_X10_isIn  hw) ci_X10_isIn gX10_asksOne_X10_isIn ⟨Nat.le_of_ble_eq_true rfl, Nat.le_of_ble_eq_true rfl⟩ ⟨Nat.le_of_ble_eq_true rfl, Nat.le_of_ble_eq_true rfl⟩ rfl rfl (Nat.le_of_ble_eq_true rfl) dX10_asksOne_64) ⟨rfl, rfl⟩ rfl (fun r9 J10 hw => ?_)
      refine r_if_eq hC (tgt := 85) dX10_asksOne_67 rfl (by decide) hw (fun hw => ?_) (fun hw => ?_)
      · refine r_iconst hC (v := (0 : Int32)) dX10_asksOne_85 rfl (by decide) ?_
        exact r_sub (lv' := [(0, .ref (gA g 100)), (1, .int x1), (2, .int x2), (4, .int x4), (5, .int x5)]) [0, 1, 2, 3, 4] rfl (t_X10_asksOne_86 hC hG hR (fun x1 x2 x4 x5 I  hw => ih x1 x2 x4 x5 I  hw) _ _ _ _ _ _ hw)
      · refine r_iload_n hC dX10_asksOne_70 rfl rfl (j := 1) rfl ?_
        refine r_iconst hC (v := (1 : Int32)) dX10_asksOne_71 rfl (by decide) ?_
        refine r_iload hC dX10_asksOne_72 rfl (j := 4) rfl ?_
        refine r_ishl hC dX10_asksOne_74 rfl ?_
        refine r_iconst hC (v := (-1 : Int32)) dX10_asksOne_75 rfl (by decide) ?_
        refine r_ixor hC dX10_asksOne_76 rfl ?_
        refine r_iand hC dX10_asksOne_77 rfl ?_
        refine r_iconst hC (v := (1 : Int32)) dX10_asksOne_78 rfl (by decide) ?_
        refine r_iload_n hC dX10_asksOne_79 rfl rfl (j := 2) rfl ?_
        refine r_ishl hC dX10_asksOne_80 rfl ?_
        refine r_ior hC dX10_asksOne_81 rfl ?_
        refine r_goto hC (tgt := 86) dX10_asksOne_82 (by decide) ?_
        exact r_sub (lv' := [(0, .ref (gA g 100)), (1, .int x1), (2, .int x2), (4, .int x4), (5, .int x5)]) [0, 1, 2, 3, 4] rfl (t_X10_asksOne_86 hC hG hR (fun x1 x2 x4 x5 I  hw => ih x1 x2 x4 x5 I  hw) _ _ _ _ _ _ hw)
set_option maxRecDepth 100000 in
set_option maxHeartbeats 4000000 in
theorem t_X10_asksOne_0 {f : Fx} {g : Gm}  {Post : Mm → Prop} {x1 : Int32} {x2 : Int32} {x3 : Int32} {I : Mm} (hC : Cx f cX10_asksOne 6 RX10 wsX10_asksOne rm_X10_asksOne) (hG : shM g) (hR : RtV f cX10_asksOne (fun u => u.1 = g ∧ Post u.2)) (hw : wp_X10_asksOne  x1 x2 x3 I Post) : PW f 0 0 g I 0 [(0, .ref (gA g 100)), (1, .int x1), (2, .int x2), (3, .int x3)] [] := by
  unfold wp_X10_asksOne at hw
  refine r_aload_n hC dX10_asksOne_0 rfl rfl (j := 0) rfl ?_
  refine r_getR hC dX10_asksOne_1 rfl hG.o.1 hG.o.2 ffg_X10_asksOne_31 hG.a19.2 ?_
  refine r_iload_n hC dX10_asksOne_4 rfl rfl (j := 1) rfl ?_
  obtain ⟨hi, hw⟩ := hw
  refine r_iald hC dX10_asksOne_5 rfl (hG.a19.1).1 (hG.a19.1).2.1 (by rw [(hG.a19.1).2.2]; exact hi) ?_
  refine r_istore hC (lv' := [(4, .int (I 119 x1.toNatClampNeg)), (0, .ref (gA g 100)), (1, .int x1), (2, .int x2), (3, .int x3)]) dX10_asksOne_6 rfl (by decide) rfl ?_
  refine r_iload_n hC dX10_asksOne_8 rfl rfl (j := 2) rfl ?_
  refine r_iload_n hC dX10_asksOne_9 rfl rfl (j := 3) rfl ?_
  refine r_callI hC (a_S hC (c_X10_isIn  hw) ci_X10_isIn gX10_asksOne_X10_isIn ⟨Nat.le_of_ble_eq_true rfl, Nat.le_of_ble_eq_true rfl⟩ ⟨Nat.le_of_ble_eq_true rfl, Nat.le_of_ble_eq_true rfl⟩ rfl rfl (Nat.le_of_ble_eq_true rfl) dX10_asksOne_10) ⟨rfl, rfl⟩ rfl (fun r1 J2 hw => ?_)
  refine r_if_eq hC (tgt := 26) dX10_asksOne_13 rfl (by decide) hw (fun hw => ?_) (fun hw => ?_)
  · refine r_iload_n hC dX10_asksOne_26 rfl rfl (j := 2) rfl ?_
    refine r_callI hC (a_S hC (c_X10_bits  hw) ci_X10_bits gX10_asksOne_X10_bits ⟨Nat.le_of_ble_eq_true rfl, Nat.le_of_ble_eq_true rfl⟩ ⟨Nat.le_of_ble_eq_true rfl, Nat.le_of_ble_eq_true rfl⟩ rfl rfl (Nat.le_of_ble_eq_true rfl) dX10_asksOne_27) ⟨rfl, rfl⟩ rfl (fun r3 J4 hw => ?_)
    refine r_iload_n hC dX10_asksOne_30 rfl rfl (j := 4) rfl ?_
    refine r_icmp_ge hC (tgt := 50) dX10_asksOne_31 rfl (by decide) hw (fun hw => ?_) (fun hw => ?_)
    · refine r_iconst hC (v := (0 : Int32)) dX10_asksOne_50 rfl (by decide) ?_
      refine r_istore hC (lv' := [(5, .int (0 : Int32)), (4, .int (I 119 x1.toNatClampNeg)), (0, .ref (gA g 100)), (1, .int x1), (2, .int x2), (3, .int x3)]) dX10_asksOne_51 rfl (by decide) rfl ?_
      obtain ⟨nn53, hw⟩ := hw
      exact r_sub (lv' := [(0, .ref (gA g 100)), (1, .int x1), (2, .int x2), (4, .int (I 119 x1.toNatClampNeg)), (5, .int (0 : Int32))]) [2, 3, 4, 1, 0] rfl ((t_X10_asksOne_53 hC hG hR nn53 _ _ _ _ _ hw))
    · refine r_aload_n hC dX10_asksOne_34 rfl rfl (j := 1) rfl ?_
      refine r_iload_n hC dX10_asksOne_35 rfl rfl (j := 2) rfl ?_
      refine r_iconst hC (v := (1 : Int32)) dX10_asksOne_36 rfl (by decide) ?_
      refine r_iload_n hC dX10_asksOne_37 rfl rfl (j := 3) rfl ?_
      refine r_ishl hC dX10_asksOne_38 rfl ?_
      refine r_ior hC dX10_asksOne_39 rfl ?_
      refine r_iload hC dX10_asksOne_40 rfl (j := 0) rfl ?_
      refine r_iconst hC (v := (1 : Int32)) dX10_asksOne_42 rfl (by decide) ?_
      refine r_iadd hC dX10_asksOne_43 rfl ?_
      refine r_callV hC (a_V hC (k := 10) (c_X10_lets hG hw) ci_X10_lets gX10_asksOne_X10_lets rfl ⟨Nat.le_of_ble_eq_true rfl, Nat.le_of_ble_eq_true rfl⟩ ⟨Nat.le_of_ble_eq_true rfl, Nat.le_of_ble_eq_true rfl⟩ rfl (by decide) hG.o.1 (List.mem_singleton.mp hG.o.2) rfl rfl (Nat.le_of_ble_eq_true rfl) dX10_asksOne_44) ⟨rfl, rfl⟩ rfl (fun J6 hw => ?_)
      refine r_goto hC (tgt := 113) dX10_asksOne_47 (by decide) ?_
      exact r_retV hC hR ⟨rfl, rfl⟩ dX10_asksOne_113 hw
  · refine r_aload_n hC dX10_asksOne_16 rfl rfl (j := 1) rfl ?_
    refine r_iload_n hC dX10_asksOne_17 rfl rfl (j := 2) rfl ?_
    refine r_iload hC dX10_asksOne_18 rfl (j := 0) rfl ?_
    refine r_callV hC (a_V hC (k := 10) (c_X10_lets hG hw) ci_X10_lets gX10_asksOne_X10_lets rfl ⟨Nat.le_of_ble_eq_true rfl, Nat.le_of_ble_eq_true rfl⟩ ⟨Nat.le_of_ble_eq_true rfl, Nat.le_of_ble_eq_true rfl⟩ rfl (by decide) hG.o.1 (List.mem_singleton.mp hG.o.2) rfl rfl (Nat.le_of_ble_eq_true rfl) dX10_asksOne_20) ⟨rfl, rfl⟩ rfl (fun J8 hw => ?_)
    refine r_goto hC (tgt := 113) dX10_asksOne_23 (by decide) ?_
    exact r_retV hC hR ⟨rfl, rfl⟩ dX10_asksOne_113 hw
set_option maxRecDepth 100000 in
theorem c_X10_asksOne {l : Launch} {x : Gx} {g : Gm}  {x1 : Int32} {x2 : Int32} {x3 : Int32} {I : Mm} {Post : Mm → Prop} (hG : shM g) (hw : wp_X10_asksOne  x1 x2 x3 I Post) : KV l x yX10_asksOne wsX10_asksOne rm_X10_asksOne g I [.ref (gA g 100), .int x1, .int x2, .int x3] (fun u => u.1 = g ∧ Post u.2) := KV_of (by decide) rfl rfl (Nat.le_of_ble_eq_true rfl) (fun f hC _ _ hR => t_X10_asksOne_0 hC hG hR hw)

/-! X10_fewest -/
abbrev rm_X10_fewest : Room := { frames := 2, cells := 0, slots := 0, locals := 47 }
theorem ci_X10_fewest : CI yX10_fewest wsX10_fewest cX10_fewest 4 (some .int) 1 := ⟨⟨_, rfl⟩, by decide, by decide, by decide +kernel⟩
def wp_X10_fewest_49  (Kb : Int32 → Int32 → Mm → Prop) (K56 : Int32 → Mm → Prop) (Post : Int32 → Mm → Prop) (x1 : Int32) (x2 : Int32) (s0 : Int32) (s1 : Int32) (I : Mm) : Prop := vp_in s1 256 ∧ (Kb x1 (x2 + 1) (up2 I 119 s1.toNatClampNeg s0))
def wp_X10_fewest_27  (K56 : Int32 → Mm → Prop) (Post : Int32 → Mm → Prop) : Nat → Int32 → Int32 → Mm → Prop
  | 0, _, _, _ => False
  | nn27 + 1, x1, x2, I => if (256 : Int32) ≤ x2 then (K56 x1 I) else (if x2 = 0 then (wp_X10_fewest_49 (fun x1 x2 I => wp_X10_fewest_27 K56 Post nn27 x1 x2 I) K56 Post x1 x2 (0 : Int32) x2 I) else (wp_X10_fewest_49 (fun x1 x2 I => wp_X10_fewest_27 K56 Post nn27 x1 x2 I) K56 Post x1 x2 (99 : Int32) x2 I))
def wp_X10_fewest_68  (K89 : Int32 → Int32 → Mm → Prop) (Post : Int32 → Mm → Prop) : Nat → Int32 → Int32 → Int32 → Mm → Prop
  | 0, _, _, _, _ => False
  | nn68 + 1, x1, x2, x3, I => if (256 : Int32) ≤ x3 then (K89 x1 x2 I) else (vp_in x3 256 ∧ (wp_X10_fewest_68 K89 Post nn68 x1 x2 (x3 + 1) (up2 I 120 x3.toNatClampNeg (99 : Int32))))
def wp_X10_fewest_121  (Kb : Int32 → Int32 → Int32 → Mm → Prop) (K127 : Int32 → Int32 → Mm → Prop) (Post : Int32 → Mm → Prop) (x1 : Int32) (x2 : Int32) (x3 : Int32) (I : Mm) : Prop := Kb x1 x2 (x3 + 1) I
def wp_X10_fewest_91  (K127 : Int32 → Int32 → Mm → Prop) (Post : Int32 → Mm → Prop) : Nat → Int32 → Int32 → Int32 → Mm → Prop
  | 0, _, _, _, _ => False
  | nn91 + 1, x1, x2, x3, I => if (256 : Int32) ≤ x3 then (K127 x1 x2 I) else (vp_in x3 256 ∧ (if (99 : Int32) ≤ (I 119 x3.toNatClampNeg) then (wp_X10_fewest_121 (fun x1 x2 x3 I => wp_X10_fewest_91 K127 Post nn91 x1 x2 x3 I) K127 Post x1 x2 x3 I) else (vp_in x2 24 ∧ (wp_X10_asksOne x3 (I 106 x2.toNatClampNeg) x1 I (fun J4 => wp_X10_fewest_121 (fun x1 x2 x3 I => wp_X10_fewest_91 K127 Post nn91 x1 x2 x3 I) K127 Post x1 x2 x3 J4)))))
def wp_X10_fewest_129  (K154 : Int32 → Int32 → Mm → Prop) (Post : Int32 → Mm → Prop) : Nat → Int32 → Int32 → Int32 → Mm → Prop
  | 0, _, _, _, _ => False
  | nn129 + 1, x1, x2, x3, I => if (256 : Int32) ≤ x3 then (K154 x1 x2 I) else (vp_in x3 256 ∧ (vp_in x3 256 ∧ (wp_X10_fewest_129 K154 Post nn129 x1 x2 (x3 + 1) (up2 I 119 x3.toNatClampNeg (I 120 x3.toNatClampNeg)))))
def wp_X10_fewest_154  (Kb : Int32 → Int32 → Mm → Prop) (K160 : Mm → Prop) (Post : Int32 → Mm → Prop) (x1 : Int32) (x2 : Int32) (I : Mm) : Prop := Kb x1 (x2 + 1) I
def wp_X10_fewest_127  (Kb : Int32 → Int32 → Mm → Prop) (K160 : Mm → Prop) (Post : Int32 → Mm → Prop) (x1 : Int32) (x2 : Int32) (I : Mm) : Prop := ∃ nn129, wp_X10_fewest_129 (fun x1 x2 I => wp_X10_fewest_154 Kb K160 Post x1 x2 I) Post nn129 x1 x2 (0 : Int32) I
def wp_X10_fewest_89  (Kb : Int32 → Int32 → Mm → Prop) (K160 : Mm → Prop) (Post : Int32 → Mm → Prop) (x1 : Int32) (x2 : Int32) (I : Mm) : Prop := ∃ nn91, wp_X10_fewest_91 (fun x1 x2 I => wp_X10_fewest_127 Kb K160 Post x1 x2 I) Post nn91 x1 x2 (0 : Int32) I
def wp_X10_fewest_58  (K160 : Mm → Prop) (Post : Int32 → Mm → Prop) : Nat → Int32 → Int32 → Mm → Prop
  | 0, _, _, _ => False
  | nn58 + 1, x1, x2, I => if (I 100 2) ≤ x2 then (K160  I) else (∃ nn68, wp_X10_fewest_68 (fun x1 x2 I => wp_X10_fewest_89 (fun x1 x2 I => wp_X10_fewest_58 K160 Post nn58 x1 x2 I) K160 Post x1 x2 I) Post nn68 x1 x2 (0 : Int32) I)
def wp_X10_fewest_192  (Kb : Int32 → Int32 → Mm → Prop) (Post : Int32 → Mm → Prop) (x3 : Int32) (s0 : Int32) (I : Mm) : Prop := Kb s0 (x3 + 1) I
def wp_X10_fewest_165   (Post : Int32 → Mm → Prop) : Nat → Int32 → Int32 → Mm → Prop
  | 0, _, _, _ => False
  | nn165 + 1, x2, x3, I => if (256 : Int32) ≤ x3 then (Post x2 I) else (vp_in x3 256 ∧ (if x2 ≤ (I 119 x3.toNatClampNeg) then (wp_X10_fewest_192 (fun x2 x3 I => wp_X10_fewest_165  Post nn165 x2 x3 I) Post x3 x2 I) else (vp_in x3 256 ∧ (wp_X10_fewest_192 (fun x2 x3 I => wp_X10_fewest_165  Post nn165 x2 x3 I) Post x3 (I 119 x3.toNatClampNeg) I))))
def wp_X10_fewest_160   (Post : Int32 → Mm → Prop)  (I : Mm) : Prop := ∃ nn165, wp_X10_fewest_165  Post nn165 (99 : Int32) (0 : Int32) I
def wp_X10_fewest_56   (Post : Int32 → Mm → Prop) (x1 : Int32) (I : Mm) : Prop := ∃ nn58, wp_X10_fewest_58 (fun I => wp_X10_fewest_160  Post  I) Post nn58 x1 (0 : Int32) I
def wp_X10_fewest  (x1 : Int32) (I : Mm) (Post : Int32 → Mm → Prop) : Prop := if (I 100 1) = 0 then (Post (-3 : Int32) I) else (wp_X10_in x1.toInt64 (1 : Int64) (8 : Int64) I (fun r1 J2 => if r1 = 0 then (Post (-2 : Int32) J2) else (∃ nn27, wp_X10_fewest_27 (fun x1 I => wp_X10_fewest_56  Post x1 I) Post nn27 x1 (0 : Int32) J2)))
set_option maxRecDepth 20000 in
theorem uw_X10_fewest_10 : ∀ w ∈ u_ws RX10 TX10 30, w ∈ wsX10_fewest := by decide +kernel
set_option maxRecDepth 20000 in
theorem ffg_X10_fewest_68 : ∀ k ∈ ([10] : List Nat), FF wsX10_fewest RX10 68 k 1 ∧ fR k 1 = false := List.forall_mem_cons.mpr ⟨⟨⟨RX10, TX10, 30, "PageDesksModel", rfl, rfl, by decide, by decide, uw_X10_fewest_10, (List.mem_of_getElem? (i := 1) rfl), Or.inl rfl⟩, rfl⟩, fun _ h => absurd h List.not_mem_nil⟩
set_option maxRecDepth 20000 in
theorem ffg_X10_fewest_31 : ∀ k ∈ ([10] : List Nat), FF wsX10_fewest RX10 31 k 19 ∧ fR k 19 = true := List.forall_mem_cons.mpr ⟨⟨⟨RX10, TX10, 30, "PageDesksModel", rfl, rfl, by decide, by decide, uw_X10_fewest_10, (List.mem_of_getElem? (i := 3) rfl), Or.inl rfl⟩, rfl⟩, fun _ h => absurd h List.not_mem_nil⟩
set_option maxRecDepth 20000 in
theorem ffg_X10_fewest_75 : ∀ k ∈ ([10] : List Nat), FF wsX10_fewest RX10 75 k 2 ∧ fR k 2 = false := List.forall_mem_cons.mpr ⟨⟨⟨RX10, TX10, 30, "PageDesksModel", rfl, rfl, by decide, by decide, uw_X10_fewest_10, (List.mem_of_getElem? (i := 4) rfl), Or.inl rfl⟩, rfl⟩, fun _ h => absurd h List.not_mem_nil⟩
set_option maxRecDepth 20000 in
theorem ffg_X10_fewest_34 : ∀ k ∈ ([10] : List Nat), FF wsX10_fewest RX10 34 k 20 ∧ fR k 20 = true := List.forall_mem_cons.mpr ⟨⟨⟨RX10, TX10, 30, "PageDesksModel", rfl, rfl, by decide, by decide, uw_X10_fewest_10, (List.mem_of_getElem? (i := 5) rfl), Or.inl rfl⟩, rfl⟩, fun _ h => absurd h List.not_mem_nil⟩
set_option maxRecDepth 20000 in
theorem ffg_X10_fewest_16 : ∀ k ∈ ([10] : List Nat), FF wsX10_fewest RX10 16 k 6 ∧ fR k 6 = true := List.forall_mem_cons.mpr ⟨⟨⟨RX10, TX10, 30, "PageDesksModel", rfl, rfl, by decide, by decide, uw_X10_fewest_10, (List.mem_of_getElem? (i := 6) rfl), Or.inl rfl⟩, rfl⟩, fun _ h => absurd h List.not_mem_nil⟩
set_option maxRecDepth 100000 in
set_option maxHeartbeats 4000000 in
theorem t_X10_fewest_49 {f : Fx} {g : Gm}  {Post : Int32 → Mm → Prop} {Kb : Int32 → Int32 → Mm → Prop} {K56 : Int32 → Mm → Prop} (hC : Cx f cX10_fewest 4 RX10 wsX10_fewest rm_X10_fewest) (hG : shM g) (hR : RtI f cX10_fewest (fun r u => u.1 = g ∧ Post r u.2)) (hKb : ∀ (x1 : Int32) (x2 : Int32) (I : Mm) , Kb x1 x2 I → PW f 0 0 g I 27 [(0, .ref (gA g 100)), (1, .int x1), (2, .int x2)] []) (hK56 : ∀ (x1 : Int32) (I : Mm) , K56 x1 I → PW f 0 0 g I 56 [(0, .ref (gA g 100)), (1, .int x1)] []) : ∀ (x1 : Int32) (x2 : Int32) (s0 : Int32) (s1 : Int32) (I : Mm) , wp_X10_fewest_49  Kb K56 Post x1 x2 s0 s1 I → PW f 0 0 g I 49 [(0, .ref (gA g 100)), (1, .int x1), (2, .int x2)] [.int s0, .int s1, .ref (gA g 119)] := by
  intro x1 x2 s0 s1 I  hw
  unfold wp_X10_fewest_49 at hw
  obtain ⟨hi, hw⟩ := hw
  refine r_iast hC dX10_fewest_49 rfl (hG.a19.1).1 (hG.a19.1).2.1 (by rw [(hG.a19.1).2.2]; exact hi) ?_
  refine r_iinc hC (k := 1) (lv' := [(2, .int (x2 + 1)), (0, .ref (gA g 100)), (1, .int x1)]) dX10_fewest_50 rfl (j := 2) rfl (by decide) (by decide) rfl ?_
  refine r_goto hC (tgt := 27) dX10_fewest_53 (by decide) ?_
  exact r_sub (lv' := [(0, .ref (gA g 100)), (1, .int x1), (2, .int (x2 + 1))]) [1, 2, 0] rfl (hKb _ _ _ hw)
set_option maxRecDepth 100000 in
set_option maxHeartbeats 4000000 in
theorem t_X10_fewest_27 {f : Fx} {g : Gm}  {Post : Int32 → Mm → Prop} {K56 : Int32 → Mm → Prop} (hC : Cx f cX10_fewest 4 RX10 wsX10_fewest rm_X10_fewest) (hG : shM g) (hR : RtI f cX10_fewest (fun r u => u.1 = g ∧ Post r u.2)) (hK56 : ∀ (x1 : Int32) (I : Mm) , K56 x1 I → PW f 0 0 g I 56 [(0, .ref (gA g 100)), (1, .int x1)] []) : ∀ (nn27 : Nat) (x1 : Int32) (x2 : Int32) (I : Mm) , wp_X10_fewest_27  K56 Post nn27 x1 x2 I → PW f 0 0 g I 27 [(0, .ref (gA g 100)), (1, .int x1), (2, .int x2)] [] := by
  intro nn27
  induction nn27 with
  | zero =>
    intro x1 x2 I  hw
    exact absurd hw id
  | succ nn27 ih =>
    intro x1 x2 I  hw
    unfold wp_X10_fewest_27 at hw
    refine r_iload_n hC dX10_fewest_27 rfl rfl (j := 2) rfl ?_
    refine r_sipush hC (v := (256 : Int32)) dX10_fewest_28 rfl (by decide) ?_
    refine r_icmp_ge hC (tgt := 56) dX10_fewest_31 rfl (by decide) hw (fun hw => ?_) (fun hw => ?_)
    · exact r_sub (lv' := [(0, .ref (gA g 100)), (1, .int x1)]) [0, 1] rfl (hK56 _ _ hw)
    · refine r_aload_n hC dX10_fewest_34 rfl rfl (j := 0) rfl ?_
      refine r_getR hC dX10_fewest_35 rfl hG.o.1 hG.o.2 ffg_X10_fewest_31 hG.a19.2 ?_
      refine r_iload_n hC dX10_fewest_38 rfl rfl (j := 2) rfl ?_
      refine r_iload_n hC dX10_fewest_39 rfl rfl (j := 2) rfl ?_
      refine r_if_ne hC (tgt := 47) dX10_fewest_40 rfl (by decide) hw (fun hw => ?_) (fun hw => ?_)
      · refine r_bipush hC (v := (99 : Int32)) dX10_fewest_47 rfl (by decide) ?_
        exact r_sub (lv' := [(0, .ref (gA g 100)), (1, .int x1), (2, .int x2)]) [0, 1, 2] rfl (t_X10_fewest_49 hC hG hR (fun x1 x2 I  hw => ih x1 x2 I  hw) hK56 _ _ _ _ _ hw)
      · refine r_iconst hC (v := (0 : Int32)) dX10_fewest_43 rfl (by decide) ?_
        refine r_goto hC (tgt := 49) dX10_fewest_44 (by decide) ?_
        exact r_sub (lv' := [(0, .ref (gA g 100)), (1, .int x1), (2, .int x2)]) [0, 1, 2] rfl (t_X10_fewest_49 hC hG hR (fun x1 x2 I  hw => ih x1 x2 I  hw) hK56 _ _ _ _ _ hw)
set_option maxRecDepth 100000 in
set_option maxHeartbeats 4000000 in
theorem t_X10_fewest_68 {f : Fx} {g : Gm}  {Post : Int32 → Mm → Prop} {K89 : Int32 → Int32 → Mm → Prop} (hC : Cx f cX10_fewest 4 RX10 wsX10_fewest rm_X10_fewest) (hG : shM g) (hR : RtI f cX10_fewest (fun r u => u.1 = g ∧ Post r u.2)) (hK89 : ∀ (x1 : Int32) (x2 : Int32) (I : Mm) , K89 x1 x2 I → PW f 0 0 g I 89 [(0, .ref (gA g 100)), (1, .int x1), (2, .int x2)] []) : ∀ (nn68 : Nat) (x1 : Int32) (x2 : Int32) (x3 : Int32) (I : Mm) , wp_X10_fewest_68  K89 Post nn68 x1 x2 x3 I → PW f 0 0 g I 68 [(0, .ref (gA g 100)), (1, .int x1), (2, .int x2), (3, .int x3)] [] := by
  intro nn68
  induction nn68 with
  | zero =>
    intro x1 x2 x3 I  hw
    exact absurd hw id
  | succ nn68 ih =>
    intro x1 x2 x3 I  hw
    unfold wp_X10_fewest_68 at hw
    refine r_iload_n hC dX10_fewest_68 rfl rfl (j := 3) rfl ?_
    refine r_sipush hC (v := (256 : Int32)) dX10_fewest_69 rfl (by decide) ?_
    refine r_icmp_ge hC (tgt := 89) dX10_fewest_72 rfl (by decide) hw (fun hw => ?_) (fun hw => ?_)
    · exact r_sub (lv' := [(0, .ref (gA g 100)), (1, .int x1), (2, .int x2)]) [0, 1, 2] rfl (hK89 _ _ _ hw)
    · refine r_aload_n hC dX10_fewest_75 rfl rfl (j := 0) rfl ?_
      refine r_getR hC dX10_fewest_76 rfl hG.o.1 hG.o.2 ffg_X10_fewest_34 hG.a20.2 ?_
      refine r_iload_n hC dX10_fewest_79 rfl rfl (j := 3) rfl ?_
      refine r_bipush hC (v := (99 : Int32)) dX10_fewest_80 rfl (by decide) ?_
      obtain ⟨hi, hw⟩ := hw
      refine r_iast hC dX10_fewest_82 rfl (hG.a20.1).1 (hG.a20.1).2.1 (by rw [(hG.a20.1).2.2]; exact hi) ?_
      refine r_iinc hC (k := 1) (lv' := [(3, .int (x3 + 1)), (0, .ref (gA g 100)), (1, .int x1), (2, .int x2)]) dX10_fewest_83 rfl (j := 3) rfl (by decide) (by decide) rfl ?_
      refine r_goto hC (tgt := 68) dX10_fewest_86 (by decide) ?_
      exact r_sub (lv' := [(0, .ref (gA g 100)), (1, .int x1), (2, .int x2), (3, .int (x3 + 1))]) [1, 2, 3, 0] rfl (ih _ _ _ _ hw)
set_option maxRecDepth 100000 in
set_option maxHeartbeats 4000000 in
theorem t_X10_fewest_121 {f : Fx} {g : Gm}  {Post : Int32 → Mm → Prop} {Kb : Int32 → Int32 → Int32 → Mm → Prop} {K127 : Int32 → Int32 → Mm → Prop} (hC : Cx f cX10_fewest 4 RX10 wsX10_fewest rm_X10_fewest) (hG : shM g) (hR : RtI f cX10_fewest (fun r u => u.1 = g ∧ Post r u.2)) (hKb : ∀ (x1 : Int32) (x2 : Int32) (x3 : Int32) (I : Mm) , Kb x1 x2 x3 I → PW f 0 0 g I 91 [(0, .ref (gA g 100)), (1, .int x1), (2, .int x2), (3, .int x3)] []) (hK127 : ∀ (x1 : Int32) (x2 : Int32) (I : Mm) , K127 x1 x2 I → PW f 0 0 g I 127 [(0, .ref (gA g 100)), (1, .int x1), (2, .int x2)] []) : ∀ (x1 : Int32) (x2 : Int32) (x3 : Int32) (I : Mm) , wp_X10_fewest_121  Kb K127 Post x1 x2 x3 I → PW f 0 0 g I 121 [(0, .ref (gA g 100)), (1, .int x1), (2, .int x2), (3, .int x3)] [] := by
  intro x1 x2 x3 I  hw
  unfold wp_X10_fewest_121 at hw
  refine r_iinc hC (k := 1) (lv' := [(3, .int (x3 + 1)), (0, .ref (gA g 100)), (1, .int x1), (2, .int x2)]) dX10_fewest_121 rfl (j := 3) rfl (by decide) (by decide) rfl ?_
  refine r_goto hC (tgt := 91) dX10_fewest_124 (by decide) ?_
  exact r_sub (lv' := [(0, .ref (gA g 100)), (1, .int x1), (2, .int x2), (3, .int (x3 + 1))]) [1, 2, 3, 0] rfl (hKb _ _ _ _ hw)
set_option maxRecDepth 100000 in
set_option maxHeartbeats 4000000 in
theorem t_X10_fewest_91 {f : Fx} {g : Gm}  {Post : Int32 → Mm → Prop} {K127 : Int32 → Int32 → Mm → Prop} (hC : Cx f cX10_fewest 4 RX10 wsX10_fewest rm_X10_fewest) (hG : shM g) (hR : RtI f cX10_fewest (fun r u => u.1 = g ∧ Post r u.2)) (hK127 : ∀ (x1 : Int32) (x2 : Int32) (I : Mm) , K127 x1 x2 I → PW f 0 0 g I 127 [(0, .ref (gA g 100)), (1, .int x1), (2, .int x2)] []) : ∀ (nn91 : Nat) (x1 : Int32) (x2 : Int32) (x3 : Int32) (I : Mm) , wp_X10_fewest_91  K127 Post nn91 x1 x2 x3 I → PW f 0 0 g I 91 [(0, .ref (gA g 100)), (1, .int x1), (2, .int x2), (3, .int x3)] [] := by
  intro nn91
  induction nn91 with
  | zero =>
    intro x1 x2 x3 I  hw
    exact absurd hw id
  | succ nn91 ih =>
    intro x1 x2 x3 I  hw
    unfold wp_X10_fewest_91 at hw
    refine r_iload_n hC dX10_fewest_91 rfl rfl (j := 3) rfl ?_
    refine r_sipush hC (v := (256 : Int32)) dX10_fewest_92 rfl (by decide) ?_
    refine r_icmp_ge hC (tgt := 127) dX10_fewest_95 rfl (by decide) hw (fun hw => ?_) (fun hw => ?_)
    · exact r_sub (lv' := [(0, .ref (gA g 100)), (1, .int x1), (2, .int x2)]) [0, 1, 2] rfl (hK127 _ _ _ hw)
    · refine r_aload_n hC dX10_fewest_98 rfl rfl (j := 0) rfl ?_
      refine r_getR hC dX10_fewest_99 rfl hG.o.1 hG.o.2 ffg_X10_fewest_31 hG.a19.2 ?_
      refine r_iload_n hC dX10_fewest_102 rfl rfl (j := 3) rfl ?_
      obtain ⟨hi, hw⟩ := hw
      refine r_iald hC dX10_fewest_103 rfl (hG.a19.1).1 (hG.a19.1).2.1 (by rw [(hG.a19.1).2.2]; exact hi) ?_
      refine r_bipush hC (v := (99 : Int32)) dX10_fewest_104 rfl (by decide) ?_
      refine r_icmp_ge hC (tgt := 121) dX10_fewest_106 rfl (by decide) hw (fun hw => ?_) (fun hw => ?_)
      · exact r_sub (lv' := [(0, .ref (gA g 100)), (1, .int x1), (2, .int x2), (3, .int x3)]) [0, 1, 2, 3] rfl (t_X10_fewest_121 hC hG hR (fun x1 x2 x3 I  hw => ih x1 x2 x3 I  hw) hK127 _ _ _ _ hw)
      · refine r_aload_n hC dX10_fewest_109 rfl rfl (j := 0) rfl ?_
        refine r_iload_n hC dX10_fewest_110 rfl rfl (j := 3) rfl ?_
        refine r_aload_n hC dX10_fewest_111 rfl rfl (j := 0) rfl ?_
        refine r_getR hC dX10_fewest_112 rfl hG.o.1 hG.o.2 ffg_X10_fewest_16 hG.a6.2 ?_
        refine r_iload_n hC dX10_fewest_115 rfl rfl (j := 2) rfl ?_
        obtain ⟨hi, hw⟩ := hw
        refine r_iald hC dX10_fewest_116 rfl (hG.a6.1).1 (hG.a6.1).2.1 (by rw [(hG.a6.1).2.2]; exact hi) ?_
        refine r_iload_n hC dX10_fewest_117 rfl rfl (j := 1) rfl ?_
        refine r_callV hC (a_V hC (k := 10) (c_X10_asksOne hG hw) ci_X10_asksOne gX10_fewest_X10_asksOne rfl ⟨Nat.le_of_ble_eq_true rfl, Nat.le_of_ble_eq_true rfl⟩ ⟨Nat.le_of_ble_eq_true rfl, Nat.le_of_ble_eq_true rfl⟩ rfl (by decide) hG.o.1 (List.mem_singleton.mp hG.o.2) rfl rfl (Nat.le_of_ble_eq_true rfl) dX10_fewest_118) ⟨rfl, rfl⟩ rfl (fun J4 hw => ?_)
        exact r_sub (lv' := [(0, .ref (gA g 100)), (1, .int x1), (2, .int x2), (3, .int x3)]) [0, 1, 2, 3] rfl (t_X10_fewest_121 hC hG hR (fun x1 x2 x3 I  hw => ih x1 x2 x3 I  hw) hK127 _ _ _ _ hw)
set_option maxRecDepth 100000 in
set_option maxHeartbeats 4000000 in
theorem t_X10_fewest_129 {f : Fx} {g : Gm}  {Post : Int32 → Mm → Prop} {K154 : Int32 → Int32 → Mm → Prop} (hC : Cx f cX10_fewest 4 RX10 wsX10_fewest rm_X10_fewest) (hG : shM g) (hR : RtI f cX10_fewest (fun r u => u.1 = g ∧ Post r u.2)) (hK154 : ∀ (x1 : Int32) (x2 : Int32) (I : Mm) , K154 x1 x2 I → PW f 0 0 g I 154 [(0, .ref (gA g 100)), (1, .int x1), (2, .int x2)] []) : ∀ (nn129 : Nat) (x1 : Int32) (x2 : Int32) (x3 : Int32) (I : Mm) , wp_X10_fewest_129  K154 Post nn129 x1 x2 x3 I → PW f 0 0 g I 129 [(0, .ref (gA g 100)), (1, .int x1), (2, .int x2), (3, .int x3)] [] := by
  intro nn129
  induction nn129 with
  | zero =>
    intro x1 x2 x3 I  hw
    exact absurd hw id
  | succ nn129 ih =>
    intro x1 x2 x3 I  hw
    unfold wp_X10_fewest_129 at hw
    refine r_iload_n hC dX10_fewest_129 rfl rfl (j := 3) rfl ?_
    refine r_sipush hC (v := (256 : Int32)) dX10_fewest_130 rfl (by decide) ?_
    refine r_icmp_ge hC (tgt := 154) dX10_fewest_133 rfl (by decide) hw (fun hw => ?_) (fun hw => ?_)
    · exact r_sub (lv' := [(0, .ref (gA g 100)), (1, .int x1), (2, .int x2)]) [0, 1, 2] rfl (hK154 _ _ _ hw)
    · refine r_aload_n hC dX10_fewest_136 rfl rfl (j := 0) rfl ?_
      refine r_getR hC dX10_fewest_137 rfl hG.o.1 hG.o.2 ffg_X10_fewest_31 hG.a19.2 ?_
      refine r_iload_n hC dX10_fewest_140 rfl rfl (j := 3) rfl ?_
      refine r_aload_n hC dX10_fewest_141 rfl rfl (j := 0) rfl ?_
      refine r_getR hC dX10_fewest_142 rfl hG.o.1 hG.o.2 ffg_X10_fewest_34 hG.a20.2 ?_
      refine r_iload_n hC dX10_fewest_145 rfl rfl (j := 3) rfl ?_
      obtain ⟨hi, hw⟩ := hw
      refine r_iald hC dX10_fewest_146 rfl (hG.a20.1).1 (hG.a20.1).2.1 (by rw [(hG.a20.1).2.2]; exact hi) ?_
      obtain ⟨hi, hw⟩ := hw
      refine r_iast hC dX10_fewest_147 rfl (hG.a19.1).1 (hG.a19.1).2.1 (by rw [(hG.a19.1).2.2]; exact hi) ?_
      refine r_iinc hC (k := 1) (lv' := [(3, .int (x3 + 1)), (0, .ref (gA g 100)), (1, .int x1), (2, .int x2)]) dX10_fewest_148 rfl (j := 3) rfl (by decide) (by decide) rfl ?_
      refine r_goto hC (tgt := 129) dX10_fewest_151 (by decide) ?_
      exact r_sub (lv' := [(0, .ref (gA g 100)), (1, .int x1), (2, .int x2), (3, .int (x3 + 1))]) [1, 2, 3, 0] rfl (ih _ _ _ _ hw)
set_option maxRecDepth 100000 in
set_option maxHeartbeats 4000000 in
theorem t_X10_fewest_154 {f : Fx} {g : Gm}  {Post : Int32 → Mm → Prop} {Kb : Int32 → Int32 → Mm → Prop} {K160 : Mm → Prop} (hC : Cx f cX10_fewest 4 RX10 wsX10_fewest rm_X10_fewest) (hG : shM g) (hR : RtI f cX10_fewest (fun r u => u.1 = g ∧ Post r u.2)) (hKb : ∀ (x1 : Int32) (x2 : Int32) (I : Mm) , Kb x1 x2 I → PW f 0 0 g I 58 [(0, .ref (gA g 100)), (1, .int x1), (2, .int x2)] []) (hK160 : ∀  (I : Mm) , K160  I → PW f 0 0 g I 160 [(0, .ref (gA g 100))] []) : ∀ (x1 : Int32) (x2 : Int32) (I : Mm) , wp_X10_fewest_154  Kb K160 Post x1 x2 I → PW f 0 0 g I 154 [(0, .ref (gA g 100)), (1, .int x1), (2, .int x2)] [] := by
  intro x1 x2 I  hw
  unfold wp_X10_fewest_154 at hw
  refine r_iinc hC (k := 1) (lv' := [(2, .int (x2 + 1)), (0, .ref (gA g 100)), (1, .int x1)]) dX10_fewest_154 rfl (j := 2) rfl (by decide) (by decide) rfl ?_
  refine r_goto hC (tgt := 58) dX10_fewest_157 (by decide) ?_
  exact r_sub (lv' := [(0, .ref (gA g 100)), (1, .int x1), (2, .int (x2 + 1))]) [1, 2, 0] rfl (hKb _ _ _ hw)
set_option maxRecDepth 100000 in
set_option maxHeartbeats 4000000 in
theorem t_X10_fewest_127 {f : Fx} {g : Gm}  {Post : Int32 → Mm → Prop} {Kb : Int32 → Int32 → Mm → Prop} {K160 : Mm → Prop} (hC : Cx f cX10_fewest 4 RX10 wsX10_fewest rm_X10_fewest) (hG : shM g) (hR : RtI f cX10_fewest (fun r u => u.1 = g ∧ Post r u.2)) (hKb : ∀ (x1 : Int32) (x2 : Int32) (I : Mm) , Kb x1 x2 I → PW f 0 0 g I 58 [(0, .ref (gA g 100)), (1, .int x1), (2, .int x2)] []) (hK160 : ∀  (I : Mm) , K160  I → PW f 0 0 g I 160 [(0, .ref (gA g 100))] []) : ∀ (x1 : Int32) (x2 : Int32) (I : Mm) , wp_X10_fewest_127  Kb K160 Post x1 x2 I → PW f 0 0 g I 127 [(0, .ref (gA g 100)), (1, .int x1), (2, .int x2)] [] := by
  intro x1 x2 I  hw
  unfold wp_X10_fewest_127 at hw
  refine r_iconst hC (v := (0 : Int32)) dX10_fewest_127 rfl (by decide) ?_
  refine r_istore_n hC (lv' := [(3, .int (0 : Int32)), (0, .ref (gA g 100)), (1, .int x1), (2, .int x2)]) dX10_fewest_128 rfl rfl (by decide) rfl ?_
  obtain ⟨nn129, hw⟩ := hw
  exact r_sub (lv' := [(0, .ref (gA g 100)), (1, .int x1), (2, .int x2), (3, .int (0 : Int32))]) [1, 2, 3, 0] rfl ((t_X10_fewest_129 hC hG hR (fun x1 x2 I  hw => t_X10_fewest_154 hC hG hR hKb hK160 _ _ _ hw) nn129 _ _ _ _ hw))
set_option maxRecDepth 100000 in
set_option maxHeartbeats 4000000 in
theorem t_X10_fewest_89 {f : Fx} {g : Gm}  {Post : Int32 → Mm → Prop} {Kb : Int32 → Int32 → Mm → Prop} {K160 : Mm → Prop} (hC : Cx f cX10_fewest 4 RX10 wsX10_fewest rm_X10_fewest) (hG : shM g) (hR : RtI f cX10_fewest (fun r u => u.1 = g ∧ Post r u.2)) (hKb : ∀ (x1 : Int32) (x2 : Int32) (I : Mm) , Kb x1 x2 I → PW f 0 0 g I 58 [(0, .ref (gA g 100)), (1, .int x1), (2, .int x2)] []) (hK160 : ∀  (I : Mm) , K160  I → PW f 0 0 g I 160 [(0, .ref (gA g 100))] []) : ∀ (x1 : Int32) (x2 : Int32) (I : Mm) , wp_X10_fewest_89  Kb K160 Post x1 x2 I → PW f 0 0 g I 89 [(0, .ref (gA g 100)), (1, .int x1), (2, .int x2)] [] := by
  intro x1 x2 I  hw
  unfold wp_X10_fewest_89 at hw
  refine r_iconst hC (v := (0 : Int32)) dX10_fewest_89 rfl (by decide) ?_
  refine r_istore_n hC (lv' := [(3, .int (0 : Int32)), (0, .ref (gA g 100)), (1, .int x1), (2, .int x2)]) dX10_fewest_90 rfl rfl (by decide) rfl ?_
  obtain ⟨nn91, hw⟩ := hw
  exact r_sub (lv' := [(0, .ref (gA g 100)), (1, .int x1), (2, .int x2), (3, .int (0 : Int32))]) [1, 2, 3, 0] rfl ((t_X10_fewest_91 hC hG hR (fun x1 x2 I  hw => t_X10_fewest_127 hC hG hR hKb hK160 _ _ _ hw) nn91 _ _ _ _ hw))
set_option maxRecDepth 100000 in
set_option maxHeartbeats 4000000 in
theorem t_X10_fewest_58 {f : Fx} {g : Gm}  {Post : Int32 → Mm → Prop} {K160 : Mm → Prop} (hC : Cx f cX10_fewest 4 RX10 wsX10_fewest rm_X10_fewest) (hG : shM g) (hR : RtI f cX10_fewest (fun r u => u.1 = g ∧ Post r u.2)) (hK160 : ∀  (I : Mm) , K160  I → PW f 0 0 g I 160 [(0, .ref (gA g 100))] []) : ∀ (nn58 : Nat) (x1 : Int32) (x2 : Int32) (I : Mm) , wp_X10_fewest_58  K160 Post nn58 x1 x2 I → PW f 0 0 g I 58 [(0, .ref (gA g 100)), (1, .int x1), (2, .int x2)] [] := by
  intro nn58
  induction nn58 with
  | zero =>
    intro x1 x2 I  hw
    exact absurd hw id
  | succ nn58 ih =>
    intro x1 x2 I  hw
    unfold wp_X10_fewest_58 at hw
    refine r_iload_n hC dX10_fewest_58 rfl rfl (j := 2) rfl ?_
    refine r_aload_n hC dX10_fewest_59 rfl rfl (j := 0) rfl ?_
    refine r_getI hC dX10_fewest_60 rfl hG.o.1 hG.o.2 ffg_X10_fewest_75 ?_
    refine r_icmp_ge hC (tgt := 160) dX10_fewest_63 rfl (by decide) hw (fun hw => ?_) (fun hw => ?_)
    · exact r_sub (lv' := [(0, .ref (gA g 100))]) [0] rfl (hK160 _ hw)
    · refine r_iconst hC (v := (0 : Int32)) dX10_fewest_66 rfl (by decide) ?_
      refine r_istore_n hC (lv' := [(3, .int (0 : Int32)), (0, .ref (gA g 100)), (1, .int x1), (2, .int x2)]) dX10_fewest_67 rfl rfl (by decide) rfl ?_
      obtain ⟨nn68, hw⟩ := hw
      exact r_sub (lv' := [(0, .ref (gA g 100)), (1, .int x1), (2, .int x2), (3, .int (0 : Int32))]) [1, 2, 3, 0] rfl ((t_X10_fewest_68 hC hG hR (fun x1 x2 I  hw => t_X10_fewest_89 hC hG hR (fun x1 x2 I  hw => ih x1 x2 I  hw) hK160 _ _ _ hw) nn68 _ _ _ _ hw))
set_option maxRecDepth 100000 in
set_option maxHeartbeats 4000000 in
theorem t_X10_fewest_192 {f : Fx} {g : Gm}  {Post : Int32 → Mm → Prop} {Kb : Int32 → Int32 → Mm → Prop} (hC : Cx f cX10_fewest 4 RX10 wsX10_fewest rm_X10_fewest) (hG : shM g) (hR : RtI f cX10_fewest (fun r u => u.1 = g ∧ Post r u.2)) (hKb : ∀ (x2 : Int32) (x3 : Int32) (I : Mm) , Kb x2 x3 I → PW f 0 0 g I 165 [(0, .ref (gA g 100)), (2, .int x2), (3, .int x3)] []) : ∀ (x3 : Int32) (s0 : Int32) (I : Mm) , wp_X10_fewest_192  Kb Post x3 s0 I → PW f 0 0 g I 192 [(0, .ref (gA g 100)), (3, .int x3)] [.int s0] := by
  intro x3 s0 I  hw
  unfold wp_X10_fewest_192 at hw
  refine r_istore_n hC (lv' := [(2, .int s0), (0, .ref (gA g 100)), (3, .int x3)]) dX10_fewest_192 rfl rfl (by decide) rfl ?_
  refine r_iinc hC (k := 1) (lv' := [(3, .int (x3 + 1)), (2, .int s0), (0, .ref (gA g 100))]) dX10_fewest_193 rfl (j := 2) rfl (by decide) (by decide) rfl ?_
  refine r_goto hC (tgt := 165) dX10_fewest_196 (by decide) ?_
  exact r_sub (lv' := [(0, .ref (gA g 100)), (2, .int s0), (3, .int (x3 + 1))]) [2, 1, 0] rfl (hKb _ _ _ hw)
set_option maxRecDepth 100000 in
set_option maxHeartbeats 4000000 in
theorem t_X10_fewest_165 {f : Fx} {g : Gm}  {Post : Int32 → Mm → Prop}  (hC : Cx f cX10_fewest 4 RX10 wsX10_fewest rm_X10_fewest) (hG : shM g) (hR : RtI f cX10_fewest (fun r u => u.1 = g ∧ Post r u.2))  : ∀ (nn165 : Nat) (x2 : Int32) (x3 : Int32) (I : Mm) , wp_X10_fewest_165   Post nn165 x2 x3 I → PW f 0 0 g I 165 [(0, .ref (gA g 100)), (2, .int x2), (3, .int x3)] [] := by
  intro nn165
  induction nn165 with
  | zero =>
    intro x2 x3 I  hw
    exact absurd hw id
  | succ nn165 ih =>
    intro x2 x3 I  hw
    unfold wp_X10_fewest_165 at hw
    refine r_iload_n hC dX10_fewest_165 rfl rfl (j := 2) rfl ?_
    refine r_sipush hC (v := (256 : Int32)) dX10_fewest_166 rfl (by decide) ?_
    refine r_icmp_ge hC (tgt := 199) dX10_fewest_169 rfl (by decide) hw (fun hw => ?_) (fun hw => ?_)
    · refine r_iload_n hC dX10_fewest_199 rfl rfl (j := 1) rfl ?_
      exact r_retI hC hR ⟨rfl, rfl⟩ dX10_fewest_200 hw
    · refine r_aload_n hC dX10_fewest_172 rfl rfl (j := 0) rfl ?_
      refine r_getR hC dX10_fewest_173 rfl hG.o.1 hG.o.2 ffg_X10_fewest_31 hG.a19.2 ?_
      refine r_iload_n hC dX10_fewest_176 rfl rfl (j := 2) rfl ?_
      obtain ⟨hi, hw⟩ := hw
      refine r_iald hC dX10_fewest_177 rfl (hG.a19.1).1 (hG.a19.1).2.1 (by rw [(hG.a19.1).2.2]; exact hi) ?_
      refine r_iload_n hC dX10_fewest_178 rfl rfl (j := 1) rfl ?_
      refine r_icmp_ge hC (tgt := 191) dX10_fewest_179 rfl (by decide) hw (fun hw => ?_) (fun hw => ?_)
      · refine r_iload_n hC dX10_fewest_191 rfl rfl (j := 1) rfl ?_
        exact r_sub (lv' := [(0, .ref (gA g 100)), (3, .int x3)]) [0, 2] rfl (t_X10_fewest_192 hC hG hR (fun x2 x3 I  hw => ih x2 x3 I  hw) _ _ _ hw)
      · refine r_aload_n hC dX10_fewest_182 rfl rfl (j := 0) rfl ?_
        refine r_getR hC dX10_fewest_183 rfl hG.o.1 hG.o.2 ffg_X10_fewest_31 hG.a19.2 ?_
        refine r_iload_n hC dX10_fewest_186 rfl rfl (j := 2) rfl ?_
        obtain ⟨hi, hw⟩ := hw
        refine r_iald hC dX10_fewest_187 rfl (hG.a19.1).1 (hG.a19.1).2.1 (by rw [(hG.a19.1).2.2]; exact hi) ?_
        refine r_goto hC (tgt := 192) dX10_fewest_188 (by decide) ?_
        exact r_sub (lv' := [(0, .ref (gA g 100)), (3, .int x3)]) [0, 2] rfl (t_X10_fewest_192 hC hG hR (fun x2 x3 I  hw => ih x2 x3 I  hw) _ _ _ hw)
set_option maxRecDepth 100000 in
set_option maxHeartbeats 4000000 in
theorem t_X10_fewest_160 {f : Fx} {g : Gm}  {Post : Int32 → Mm → Prop}  (hC : Cx f cX10_fewest 4 RX10 wsX10_fewest rm_X10_fewest) (hG : shM g) (hR : RtI f cX10_fewest (fun r u => u.1 = g ∧ Post r u.2))  : ∀  (I : Mm) , wp_X10_fewest_160   Post  I → PW f 0 0 g I 160 [(0, .ref (gA g 100))] [] := by
  intro  I  hw
  unfold wp_X10_fewest_160 at hw
  refine r_bipush hC (v := (99 : Int32)) dX10_fewest_160 rfl (by decide) ?_
  refine r_istore_n hC (lv' := [(2, .int (99 : Int32)), (0, .ref (gA g 100))]) dX10_fewest_162 rfl rfl (by decide) rfl ?_
  refine r_iconst hC (v := (0 : Int32)) dX10_fewest_163 rfl (by decide) ?_
  refine r_istore_n hC (lv' := [(3, .int (0 : Int32)), (2, .int (99 : Int32)), (0, .ref (gA g 100))]) dX10_fewest_164 rfl rfl (by decide) rfl ?_
  obtain ⟨nn165, hw⟩ := hw
  exact r_sub (lv' := [(0, .ref (gA g 100)), (2, .int (99 : Int32)), (3, .int (0 : Int32))]) [2, 1, 0] rfl ((t_X10_fewest_165 hC hG hR nn165 _ _ _ hw))
set_option maxRecDepth 100000 in
set_option maxHeartbeats 4000000 in
theorem t_X10_fewest_56 {f : Fx} {g : Gm}  {Post : Int32 → Mm → Prop}  (hC : Cx f cX10_fewest 4 RX10 wsX10_fewest rm_X10_fewest) (hG : shM g) (hR : RtI f cX10_fewest (fun r u => u.1 = g ∧ Post r u.2))  : ∀ (x1 : Int32) (I : Mm) , wp_X10_fewest_56   Post x1 I → PW f 0 0 g I 56 [(0, .ref (gA g 100)), (1, .int x1)] [] := by
  intro x1 I  hw
  unfold wp_X10_fewest_56 at hw
  refine r_iconst hC (v := (0 : Int32)) dX10_fewest_56 rfl (by decide) ?_
  refine r_istore_n hC (lv' := [(2, .int (0 : Int32)), (0, .ref (gA g 100)), (1, .int x1)]) dX10_fewest_57 rfl rfl (by decide) rfl ?_
  obtain ⟨nn58, hw⟩ := hw
  exact r_sub (lv' := [(0, .ref (gA g 100)), (1, .int x1), (2, .int (0 : Int32))]) [1, 2, 0] rfl ((t_X10_fewest_58 hC hG hR (fun  I  hw => t_X10_fewest_160 hC hG hR _ hw) nn58 _ _ _ hw))
set_option maxRecDepth 100000 in
set_option maxHeartbeats 4000000 in
theorem t_X10_fewest_0 {f : Fx} {g : Gm}  {Post : Int32 → Mm → Prop} {x1 : Int32} {I : Mm} (hC : Cx f cX10_fewest 4 RX10 wsX10_fewest rm_X10_fewest) (hG : shM g) (hR : RtI f cX10_fewest (fun r u => u.1 = g ∧ Post r u.2)) (hw : wp_X10_fewest  x1 I Post) : PW f 0 0 g I 0 [(0, .ref (gA g 100)), (1, .int x1)] [] := by
  unfold wp_X10_fewest at hw
  refine r_aload_n hC dX10_fewest_0 rfl rfl (j := 0) rfl ?_
  refine r_getI hC dX10_fewest_1 rfl hG.o.1 hG.o.2 ffg_X10_fewest_68 ?_
  refine r_if_ne hC (tgt := 10) dX10_fewest_4 rfl (by decide) hw (fun hw => ?_) (fun hw => ?_)
  · refine r_iload_n hC dX10_fewest_10 rfl rfl (j := 1) rfl ?_
    refine r_i2l hC dX10_fewest_11 rfl ?_
    refine r_lconst hC (v := (1 : Int64)) dX10_fewest_12 rfl (by decide) ?_
    refine r_ldc2 hC (v := (8 : Int64)) dX10_fewest_13 rfl (List.mem_of_getElem? (i := 2) rfl) ?_
    refine r_callI hC (a_S hC (c_X10_in  hw) ci_X10_in gX10_fewest_X10_in ⟨Nat.le_of_ble_eq_true rfl, Nat.le_of_ble_eq_true rfl⟩ ⟨Nat.le_of_ble_eq_true rfl, Nat.le_of_ble_eq_true rfl⟩ rfl rfl (Nat.le_of_ble_eq_true rfl) dX10_fewest_16) ⟨rfl, rfl⟩ rfl (fun r1 J2 hw => ?_)
    refine r_if_ne hC (tgt := 25) dX10_fewest_19 rfl (by decide) hw (fun hw => ?_) (fun hw => ?_)
    · refine r_iconst hC (v := (0 : Int32)) dX10_fewest_25 rfl (by decide) ?_
      refine r_istore_n hC (lv' := [(2, .int (0 : Int32)), (0, .ref (gA g 100)), (1, .int x1)]) dX10_fewest_26 rfl rfl (by decide) rfl ?_
      obtain ⟨nn27, hw⟩ := hw
      exact r_sub (lv' := [(0, .ref (gA g 100)), (1, .int x1), (2, .int (0 : Int32))]) [1, 2, 0] rfl ((t_X10_fewest_27 hC hG hR (fun x1 I  hw => t_X10_fewest_56 hC hG hR _ _ hw) nn27 _ _ _ hw))
    · refine r_bipush hC (v := (-2 : Int32)) dX10_fewest_22 rfl (by decide) ?_
      exact r_retI hC hR ⟨rfl, rfl⟩ dX10_fewest_24 hw
  · refine r_bipush hC (v := (-3 : Int32)) dX10_fewest_7 rfl (by decide) ?_
    exact r_retI hC hR ⟨rfl, rfl⟩ dX10_fewest_9 hw
set_option maxRecDepth 100000 in
theorem c_X10_fewest {l : Launch} {x : Gx} {g : Gm}  {x1 : Int32} {I : Mm} {Post : Int32 → Mm → Prop} (hG : shM g) (hw : wp_X10_fewest  x1 I Post) : KI l x yX10_fewest wsX10_fewest rm_X10_fewest g I [.ref (gA g 100), .int x1] (fun r u => u.1 = g ∧ Post r u.2) := KI_of (by decide) rfl rfl (Nat.le_of_ble_eq_true rfl) (fun f hC _ _ hR => t_X10_fewest_0 hC hG hR hw)

/-! X10_nextOf -/
abbrev rm_X10_nextOf : Room := { frames := 0, cells := 0, slots := 0, locals := 0 }
theorem ci_X10_nextOf : CI yX10_nextOf wsX10_nextOf cX10_nextOf 5 (some .int) 2 := ⟨⟨_, rfl⟩, by decide, by decide, by decide +kernel⟩
def wp_X10_nextOf_34  (Kb : Int32 → Int32 → Int32 → Int32 → Mm → Prop) (Post : Int32 → Mm → Prop) (x1 : Int32) (x2 : Int32) (x4 : Int32) (s0 : Int32) (I : Mm) : Prop := Kb x1 x2 s0 (x4 + (-1)) I
def wp_X10_nextOf_11   (Post : Int32 → Mm → Prop) : Nat → Int32 → Int32 → Int32 → Int32 → Mm → Prop
  | 0, _, _, _, _, _ => False
  | nn11 + 1, x1, x2, x3, x4, I => if x4 ≤ x2 then (Post x3 I) else (vp_in x4 24 ∧ (if (I 106 x4.toNatClampNeg) = x1 then (wp_X10_nextOf_34 (fun x1 x2 x3 x4 I => wp_X10_nextOf_11  Post nn11 x1 x2 x3 x4 I) Post x1 x2 x4 x4 I) else (wp_X10_nextOf_34 (fun x1 x2 x3 x4 I => wp_X10_nextOf_11  Post nn11 x1 x2 x3 x4 I) Post x1 x2 x4 x3 I)))
def wp_X10_nextOf  (x1 : Int32) (x2 : Int32) (I : Mm) (Post : Int32 → Mm → Prop) : Prop := ∃ nn11, wp_X10_nextOf_11  Post nn11 x1 x2 (99 : Int32) ((I 100 2) - (1 : Int32)) I
set_option maxRecDepth 20000 in
theorem uw_X10_nextOf_10 : ∀ w ∈ u_ws RX10 TX10 30, w ∈ wsX10_nextOf := by decide +kernel
set_option maxRecDepth 20000 in
theorem ffg_X10_nextOf_75 : ∀ k ∈ ([10] : List Nat), FF wsX10_nextOf RX10 75 k 2 ∧ fR k 2 = false := List.forall_mem_cons.mpr ⟨⟨⟨RX10, TX10, 30, "PageDesksModel", rfl, rfl, by decide, by decide, uw_X10_nextOf_10, (List.mem_of_getElem? (i := 1) rfl), Or.inl rfl⟩, rfl⟩, fun _ h => absurd h List.not_mem_nil⟩
set_option maxRecDepth 20000 in
theorem ffg_X10_nextOf_16 : ∀ k ∈ ([10] : List Nat), FF wsX10_nextOf RX10 16 k 6 ∧ fR k 6 = true := List.forall_mem_cons.mpr ⟨⟨⟨RX10, TX10, 30, "PageDesksModel", rfl, rfl, by decide, by decide, uw_X10_nextOf_10, (List.mem_of_getElem? (i := 2) rfl), Or.inl rfl⟩, rfl⟩, fun _ h => absurd h List.not_mem_nil⟩
set_option maxRecDepth 100000 in
set_option maxHeartbeats 4000000 in
theorem t_X10_nextOf_34 {f : Fx} {g : Gm}  {Post : Int32 → Mm → Prop} {Kb : Int32 → Int32 → Int32 → Int32 → Mm → Prop} (hC : Cx f cX10_nextOf 5 RX10 wsX10_nextOf rm_X10_nextOf) (hG : shM g) (hR : RtI f cX10_nextOf (fun r u => u.1 = g ∧ Post r u.2)) (hKb : ∀ (x1 : Int32) (x2 : Int32) (x3 : Int32) (x4 : Int32) (I : Mm) , Kb x1 x2 x3 x4 I → PW f 0 0 g I 11 [(0, .ref (gA g 100)), (1, .int x1), (2, .int x2), (3, .int x3), (4, .int x4)] []) : ∀ (x1 : Int32) (x2 : Int32) (x4 : Int32) (s0 : Int32) (I : Mm) , wp_X10_nextOf_34  Kb Post x1 x2 x4 s0 I → PW f 0 0 g I 34 [(0, .ref (gA g 100)), (1, .int x1), (2, .int x2), (4, .int x4)] [.int s0] := by
  intro x1 x2 x4 s0 I  hw
  unfold wp_X10_nextOf_34 at hw
  refine r_istore_n hC (lv' := [(3, .int s0), (0, .ref (gA g 100)), (1, .int x1), (2, .int x2), (4, .int x4)]) dX10_nextOf_34 rfl rfl (by decide) rfl ?_
  refine r_iinc hC (k := -1) (lv' := [(4, .int (x4 + (-1))), (3, .int s0), (0, .ref (gA g 100)), (1, .int x1), (2, .int x2)]) dX10_nextOf_35 rfl (j := 4) rfl (by decide) (by decide) rfl ?_
  refine r_goto hC (tgt := 11) dX10_nextOf_38 (by decide) ?_
  exact r_sub (lv' := [(0, .ref (gA g 100)), (1, .int x1), (2, .int x2), (3, .int s0), (4, .int (x4 + (-1)))]) [2, 3, 4, 1, 0] rfl (hKb _ _ _ _ _ hw)
set_option maxRecDepth 100000 in
set_option maxHeartbeats 4000000 in
theorem t_X10_nextOf_11 {f : Fx} {g : Gm}  {Post : Int32 → Mm → Prop}  (hC : Cx f cX10_nextOf 5 RX10 wsX10_nextOf rm_X10_nextOf) (hG : shM g) (hR : RtI f cX10_nextOf (fun r u => u.1 = g ∧ Post r u.2))  : ∀ (nn11 : Nat) (x1 : Int32) (x2 : Int32) (x3 : Int32) (x4 : Int32) (I : Mm) , wp_X10_nextOf_11   Post nn11 x1 x2 x3 x4 I → PW f 0 0 g I 11 [(0, .ref (gA g 100)), (1, .int x1), (2, .int x2), (3, .int x3), (4, .int x4)] [] := by
  intro nn11
  induction nn11 with
  | zero =>
    intro x1 x2 x3 x4 I  hw
    exact absurd hw id
  | succ nn11 ih =>
    intro x1 x2 x3 x4 I  hw
    unfold wp_X10_nextOf_11 at hw
    refine r_iload hC dX10_nextOf_11 rfl (j := 4) rfl ?_
    refine r_iload_n hC dX10_nextOf_13 rfl rfl (j := 2) rfl ?_
    refine r_icmp_le hC (tgt := 41) dX10_nextOf_14 rfl (by decide) hw (fun hw => ?_) (fun hw => ?_)
    · refine r_iload_n hC dX10_nextOf_41 rfl rfl (j := 3) rfl ?_
      exact r_retI hC hR ⟨rfl, rfl⟩ dX10_nextOf_42 hw
    · refine r_aload_n hC dX10_nextOf_17 rfl rfl (j := 0) rfl ?_
      refine r_getR hC dX10_nextOf_18 rfl hG.o.1 hG.o.2 ffg_X10_nextOf_16 hG.a6.2 ?_
      refine r_iload hC dX10_nextOf_21 rfl (j := 4) rfl ?_
      obtain ⟨hi, hw⟩ := hw
      refine r_iald hC dX10_nextOf_23 rfl (hG.a6.1).1 (hG.a6.1).2.1 (by rw [(hG.a6.1).2.2]; exact hi) ?_
      refine r_iload_n hC dX10_nextOf_24 rfl rfl (j := 1) rfl ?_
      refine r_icmp_ne hC (tgt := 33) dX10_nextOf_25 rfl (by decide) hw (fun hw => ?_) (fun hw => ?_)
      · refine r_iload_n hC dX10_nextOf_33 rfl rfl (j := 3) rfl ?_
        exact r_sub (lv' := [(0, .ref (gA g 100)), (1, .int x1), (2, .int x2), (4, .int x4)]) [0, 1, 2, 4] rfl (t_X10_nextOf_34 hC hG hR (fun x1 x2 x3 x4 I  hw => ih x1 x2 x3 x4 I  hw) _ _ _ _ _ hw)
      · refine r_iload hC dX10_nextOf_28 rfl (j := 4) rfl ?_
        refine r_goto hC (tgt := 34) dX10_nextOf_30 (by decide) ?_
        exact r_sub (lv' := [(0, .ref (gA g 100)), (1, .int x1), (2, .int x2), (4, .int x4)]) [0, 1, 2, 4] rfl (t_X10_nextOf_34 hC hG hR (fun x1 x2 x3 x4 I  hw => ih x1 x2 x3 x4 I  hw) _ _ _ _ _ hw)
set_option maxRecDepth 100000 in
set_option maxHeartbeats 4000000 in
theorem t_X10_nextOf_0 {f : Fx} {g : Gm}  {Post : Int32 → Mm → Prop} {x1 : Int32} {x2 : Int32} {I : Mm} (hC : Cx f cX10_nextOf 5 RX10 wsX10_nextOf rm_X10_nextOf) (hG : shM g) (hR : RtI f cX10_nextOf (fun r u => u.1 = g ∧ Post r u.2)) (hw : wp_X10_nextOf  x1 x2 I Post) : PW f 0 0 g I 0 [(0, .ref (gA g 100)), (1, .int x1), (2, .int x2)] [] := by
  unfold wp_X10_nextOf at hw
  refine r_bipush hC (v := (99 : Int32)) dX10_nextOf_0 rfl (by decide) ?_
  refine r_istore_n hC (lv' := [(3, .int (99 : Int32)), (0, .ref (gA g 100)), (1, .int x1), (2, .int x2)]) dX10_nextOf_2 rfl rfl (by decide) rfl ?_
  refine r_aload_n hC dX10_nextOf_3 rfl rfl (j := 1) rfl ?_
  refine r_getI hC dX10_nextOf_4 rfl hG.o.1 hG.o.2 ffg_X10_nextOf_75 ?_
  refine r_iconst hC (v := (1 : Int32)) dX10_nextOf_7 rfl (by decide) ?_
  refine r_isub hC dX10_nextOf_8 rfl ?_
  refine r_istore hC (lv' := [(4, .int ((I 100 2) - (1 : Int32))), (3, .int (99 : Int32)), (0, .ref (gA g 100)), (1, .int x1), (2, .int x2)]) dX10_nextOf_9 rfl (by decide) rfl ?_
  obtain ⟨nn11, hw⟩ := hw
  exact r_sub (lv' := [(0, .ref (gA g 100)), (1, .int x1), (2, .int x2), (3, .int (99 : Int32)), (4, .int ((I 100 2) - (1 : Int32)))]) [2, 3, 4, 1, 0] rfl ((t_X10_nextOf_11 hC hG hR nn11 _ _ _ _ _ hw))
set_option maxRecDepth 100000 in
theorem c_X10_nextOf {l : Launch} {x : Gx} {g : Gm}  {x1 : Int32} {x2 : Int32} {I : Mm} {Post : Int32 → Mm → Prop} (hG : shM g) (hw : wp_X10_nextOf  x1 x2 I Post) : KI l x yX10_nextOf wsX10_nextOf rm_X10_nextOf g I [.ref (gA g 100), .int x1, .int x2] (fun r u => u.1 = g ∧ Post r u.2) := KI_of (by decide) rfl rfl (Nat.le_of_ble_eq_true rfl) (fun f hC _ _ hR => t_X10_nextOf_0 hC hG hR hw)

/-! X10_goesLatest -/
abbrev rm_X10_goesLatest : Room := { frames := 1, cells := 0, slots := 0, locals := 24 }
theorem ci_X10_goesLatest : CI yX10_goesLatest wsX10_goesLatest cX10_goesLatest 7 (some .int) 2 := ⟨⟨_, rfl⟩, by decide, by decide, by decide +kernel⟩
def wp_X10_goesLatest_66  (Kb : Int32 → Int32 → Int32 → Int32 → Int32 → Mm → Prop) (Post : Int32 → Mm → Prop) (x1 : Int32) (x2 : Int32) (x3 : Int32) (x5 : Int32) (s0 : Int32) (I : Mm) : Prop := Kb x1 x2 x3 s0 (x5 + 1) I
def wp_X10_goesLatest_51  (Kb : Int32 → Int32 → Int32 → Int32 → Int32 → Mm → Prop) (Post : Int32 → Mm → Prop) (x1 : Int32) (x2 : Int32) (x4 : Int32) (x5 : Int32) (x6 : Int32) (s0 : Int32) (I : Mm) : Prop := if x6 ≤ x4 then (wp_X10_goesLatest_66 Kb Post x1 x2 s0 x5 x4 I) else (wp_X10_goesLatest_66 Kb Post x1 x2 s0 x5 x6 I)
def wp_X10_goesLatest_36  (Kb : Int32 → Int32 → Int32 → Int32 → Int32 → Mm → Prop) (Post : Int32 → Mm → Prop) (x1 : Int32) (x2 : Int32) (x3 : Int32) (x4 : Int32) (x5 : Int32) (s0 : Int32) (I : Mm) : Prop := if s0 ≤ x4 then (wp_X10_goesLatest_51 Kb Post x1 x2 x4 x5 s0 x3 I) else (wp_X10_goesLatest_51 Kb Post x1 x2 x4 x5 s0 x5 I)
def wp_X10_goesLatest_9   (Post : Int32 → Mm → Prop) : Nat → Int32 → Int32 → Int32 → Int32 → Int32 → Mm → Prop
  | 0, _, _, _, _, _, _ => False
  | nn9 + 1, x1, x2, x3, x4, x5, I => if (8 : Int32) ≤ x5 then (Post x3 I) else (wp_X10_isIn x1 x5 I (fun r1 J2 => if r1 = 0 then (wp_X10_goesLatest_36 (fun x1 x2 x3 x4 x5 I => wp_X10_goesLatest_9  Post nn9 x1 x2 x3 x4 x5 I) Post x1 x2 x3 x4 x5 (-1 : Int32) J2) else (wp_X10_nextOf x5 x2 J2 (fun r3 J4 => wp_X10_goesLatest_36 (fun x1 x2 x3 x4 x5 I => wp_X10_goesLatest_9  Post nn9 x1 x2 x3 x4 x5 I) Post x1 x2 x3 x4 x5 r3 J4))))
def wp_X10_goesLatest  (x1 : Int32) (x2 : Int32) (I : Mm) (Post : Int32 → Mm → Prop) : Prop := ∃ nn9, wp_X10_goesLatest_9  Post nn9 x1 x2 (-9 : Int32) (-1 : Int32) (0 : Int32) I

set_option maxRecDepth 100000 in
set_option maxHeartbeats 4000000 in
theorem t_X10_goesLatest_66 {f : Fx} {g : Gm}  {Post : Int32 → Mm → Prop} {Kb : Int32 → Int32 → Int32 → Int32 → Int32 → Mm → Prop} (hC : Cx f cX10_goesLatest 7 RX10 wsX10_goesLatest rm_X10_goesLatest) (hG : shM g) (hR : RtI f cX10_goesLatest (fun r u => u.1 = g ∧ Post r u.2)) (hKb : ∀ (x1 : Int32) (x2 : Int32) (x3 : Int32) (x4 : Int32) (x5 : Int32) (I : Mm) , Kb x1 x2 x3 x4 x5 I → PW f 0 0 g I 9 [(0, .ref (gA g 100)), (1, .int x1), (2, .int x2), (3, .int x3), (4, .int x4), (5, .int x5)] []) : ∀ (x1 : Int32) (x2 : Int32) (x3 : Int32) (x5 : Int32) (s0 : Int32) (I : Mm) , wp_X10_goesLatest_66  Kb Post x1 x2 x3 x5 s0 I → PW f 0 0 g I 66 [(0, .ref (gA g 100)), (1, .int x1), (2, .int x2), (3, .int x3), (5, .int x5)] [.int s0] := by
  intro x1 x2 x3 x5 s0 I  hw
  unfold wp_X10_goesLatest_66 at hw
  refine r_istore hC (lv' := [(4, .int s0), (0, .ref (gA g 100)), (1, .int x1), (2, .int x2), (3, .int x3), (5, .int x5)]) dX10_goesLatest_66 rfl (by decide) rfl ?_
  refine r_iinc hC (k := 1) (lv' := [(5, .int (x5 + 1)), (4, .int s0), (0, .ref (gA g 100)), (1, .int x1), (2, .int x2), (3, .int x3)]) dX10_goesLatest_68 rfl (j := 5) rfl (by decide) (by decide) rfl ?_
  refine r_goto hC (tgt := 9) dX10_goesLatest_71 (by decide) ?_
  exact r_sub (lv' := [(0, .ref (gA g 100)), (1, .int x1), (2, .int x2), (3, .int x3), (4, .int s0), (5, .int (x5 + 1))]) [2, 3, 4, 5, 1, 0] rfl (hKb _ _ _ _ _ _ hw)
set_option maxRecDepth 100000 in
set_option maxHeartbeats 4000000 in
theorem t_X10_goesLatest_51 {f : Fx} {g : Gm}  {Post : Int32 → Mm → Prop} {Kb : Int32 → Int32 → Int32 → Int32 → Int32 → Mm → Prop} (hC : Cx f cX10_goesLatest 7 RX10 wsX10_goesLatest rm_X10_goesLatest) (hG : shM g) (hR : RtI f cX10_goesLatest (fun r u => u.1 = g ∧ Post r u.2)) (hKb : ∀ (x1 : Int32) (x2 : Int32) (x3 : Int32) (x4 : Int32) (x5 : Int32) (I : Mm) , Kb x1 x2 x3 x4 x5 I → PW f 0 0 g I 9 [(0, .ref (gA g 100)), (1, .int x1), (2, .int x2), (3, .int x3), (4, .int x4), (5, .int x5)] []) : ∀ (x1 : Int32) (x2 : Int32) (x4 : Int32) (x5 : Int32) (x6 : Int32) (s0 : Int32) (I : Mm) , wp_X10_goesLatest_51  Kb Post x1 x2 x4 x5 x6 s0 I → PW f 0 0 g I 51 [(0, .ref (gA g 100)), (1, .int x1), (2, .int x2), (4, .int x4), (5, .int x5), (6, .int x6)] [.int s0] := by
  intro x1 x2 x4 x5 x6 s0 I  hw
  unfold wp_X10_goesLatest_51 at hw
  refine r_istore_n hC (lv' := [(3, .int s0), (0, .ref (gA g 100)), (1, .int x1), (2, .int x2), (4, .int x4), (5, .int x5), (6, .int x6)]) dX10_goesLatest_51 rfl rfl (by decide) rfl ?_
  refine r_iload hC dX10_goesLatest_52 rfl (j := 6) rfl ?_
  refine r_iload hC dX10_goesLatest_54 rfl (j := 4) rfl ?_
  refine r_icmp_le hC (tgt := 64) dX10_goesLatest_56 rfl (by decide) hw (fun hw => ?_) (fun hw => ?_)
  · refine r_iload hC dX10_goesLatest_64 rfl (j := 4) rfl ?_
    exact r_sub (lv' := [(0, .ref (gA g 100)), (1, .int x1), (2, .int x2), (3, .int s0), (5, .int x5)]) [1, 2, 3, 0, 5] rfl (t_X10_goesLatest_66 hC hG hR hKb _ _ _ _ _ _ hw)
  · refine r_iload hC dX10_goesLatest_59 rfl (j := 6) rfl ?_
    refine r_goto hC (tgt := 66) dX10_goesLatest_61 (by decide) ?_
    exact r_sub (lv' := [(0, .ref (gA g 100)), (1, .int x1), (2, .int x2), (3, .int s0), (5, .int x5)]) [1, 2, 3, 0, 5] rfl (t_X10_goesLatest_66 hC hG hR hKb _ _ _ _ _ _ hw)
set_option maxRecDepth 100000 in
set_option maxHeartbeats 4000000 in
theorem t_X10_goesLatest_36 {f : Fx} {g : Gm}  {Post : Int32 → Mm → Prop} {Kb : Int32 → Int32 → Int32 → Int32 → Int32 → Mm → Prop} (hC : Cx f cX10_goesLatest 7 RX10 wsX10_goesLatest rm_X10_goesLatest) (hG : shM g) (hR : RtI f cX10_goesLatest (fun r u => u.1 = g ∧ Post r u.2)) (hKb : ∀ (x1 : Int32) (x2 : Int32) (x3 : Int32) (x4 : Int32) (x5 : Int32) (I : Mm) , Kb x1 x2 x3 x4 x5 I → PW f 0 0 g I 9 [(0, .ref (gA g 100)), (1, .int x1), (2, .int x2), (3, .int x3), (4, .int x4), (5, .int x5)] []) : ∀ (x1 : Int32) (x2 : Int32) (x3 : Int32) (x4 : Int32) (x5 : Int32) (s0 : Int32) (I : Mm) , wp_X10_goesLatest_36  Kb Post x1 x2 x3 x4 x5 s0 I → PW f 0 0 g I 36 [(0, .ref (gA g 100)), (1, .int x1), (2, .int x2), (3, .int x3), (4, .int x4), (5, .int x5)] [.int s0] := by
  intro x1 x2 x3 x4 x5 s0 I  hw
  unfold wp_X10_goesLatest_36 at hw
  refine r_istore hC (lv' := [(6, .int s0), (0, .ref (gA g 100)), (1, .int x1), (2, .int x2), (3, .int x3), (4, .int x4), (5, .int x5)]) dX10_goesLatest_36 rfl (by decide) rfl ?_
  refine r_iload hC dX10_goesLatest_38 rfl (j := 0) rfl ?_
  refine r_iload hC dX10_goesLatest_40 rfl (j := 5) rfl ?_
  refine r_icmp_le hC (tgt := 50) dX10_goesLatest_42 rfl (by decide) hw (fun hw => ?_) (fun hw => ?_)
  · refine r_iload_n hC dX10_goesLatest_50 rfl rfl (j := 4) rfl ?_
    exact r_sub (lv' := [(0, .ref (gA g 100)), (1, .int x1), (2, .int x2), (4, .int x4), (5, .int x5), (6, .int s0)]) [1, 2, 3, 5, 6, 0] rfl (t_X10_goesLatest_51 hC hG hR hKb _ _ _ _ _ _ _ hw)
  · refine r_iload hC dX10_goesLatest_45 rfl (j := 6) rfl ?_
    refine r_goto hC (tgt := 51) dX10_goesLatest_47 (by decide) ?_
    exact r_sub (lv' := [(0, .ref (gA g 100)), (1, .int x1), (2, .int x2), (4, .int x4), (5, .int x5), (6, .int s0)]) [1, 2, 3, 5, 6, 0] rfl (t_X10_goesLatest_51 hC hG hR hKb _ _ _ _ _ _ _ hw)
set_option maxRecDepth 100000 in
set_option maxHeartbeats 4000000 in
theorem t_X10_goesLatest_9 {f : Fx} {g : Gm}  {Post : Int32 → Mm → Prop}  (hC : Cx f cX10_goesLatest 7 RX10 wsX10_goesLatest rm_X10_goesLatest) (hG : shM g) (hR : RtI f cX10_goesLatest (fun r u => u.1 = g ∧ Post r u.2))  : ∀ (nn9 : Nat) (x1 : Int32) (x2 : Int32) (x3 : Int32) (x4 : Int32) (x5 : Int32) (I : Mm) , wp_X10_goesLatest_9   Post nn9 x1 x2 x3 x4 x5 I → PW f 0 0 g I 9 [(0, .ref (gA g 100)), (1, .int x1), (2, .int x2), (3, .int x3), (4, .int x4), (5, .int x5)] [] := by
  intro nn9
  induction nn9 with
  | zero =>
    intro x1 x2 x3 x4 x5 I  hw
    exact absurd hw id
  | succ nn9 ih =>
    intro x1 x2 x3 x4 x5 I  hw
    unfold wp_X10_goesLatest_9 at hw
    refine r_iload hC dX10_goesLatest_9 rfl (j := 5) rfl ?_
    refine r_bipush hC (v := (8 : Int32)) dX10_goesLatest_11 rfl (by decide) ?_
    refine r_icmp_ge hC (tgt := 74) dX10_goesLatest_13 rfl (by decide) hw (fun hw => ?_) (fun hw => ?_)
    · refine r_iload_n hC dX10_goesLatest_74 rfl rfl (j := 3) rfl ?_
      exact r_retI hC hR ⟨rfl, rfl⟩ dX10_goesLatest_75 hw
    · refine r_iload_n hC dX10_goesLatest_16 rfl rfl (j := 1) rfl ?_
      refine r_iload hC dX10_goesLatest_17 rfl (j := 5) rfl ?_
      refine r_callI hC (a_S hC (c_X10_isIn  hw) ci_X10_isIn gX10_goesLatest_X10_isIn ⟨Nat.le_of_ble_eq_true rfl, Nat.le_of_ble_eq_true rfl⟩ ⟨Nat.le_of_ble_eq_true rfl, Nat.le_of_ble_eq_true rfl⟩ rfl rfl (Nat.le_of_ble_eq_true rfl) dX10_goesLatest_19) ⟨rfl, rfl⟩ rfl (fun r1 J2 hw => ?_)
      refine r_if_eq hC (tgt := 35) dX10_goesLatest_22 rfl (by decide) hw (fun hw => ?_) (fun hw => ?_)
      · refine r_iconst hC (v := (-1 : Int32)) dX10_goesLatest_35 rfl (by decide) ?_
        exact r_sub (lv' := [(0, .ref (gA g 100)), (1, .int x1), (2, .int x2), (3, .int x3), (4, .int x4), (5, .int x5)]) [0, 1, 2, 3, 4, 5] rfl (t_X10_goesLatest_36 hC hG hR (fun x1 x2 x3 x4 x5 I  hw => ih x1 x2 x3 x4 x5 I  hw) _ _ _ _ _ _ _ hw)
      · refine r_aload_n hC dX10_goesLatest_25 rfl rfl (j := 0) rfl ?_
        refine r_iload hC dX10_goesLatest_26 rfl (j := 5) rfl ?_
        refine r_iload_n hC dX10_goesLatest_28 rfl rfl (j := 2) rfl ?_
        refine r_callI hC (a_V hC (k := 10) (c_X10_nextOf hG hw) ci_X10_nextOf gX10_goesLatest_X10_nextOf rfl ⟨Nat.le_of_ble_eq_true rfl, Nat.le_of_ble_eq_true rfl⟩ ⟨Nat.le_of_ble_eq_true rfl, Nat.le_of_ble_eq_true rfl⟩ rfl (by decide) hG.o.1 (List.mem_singleton.mp hG.o.2) rfl rfl (Nat.le_of_ble_eq_true rfl) dX10_goesLatest_29) ⟨rfl, rfl⟩ rfl (fun r3 J4 hw => ?_)
        refine r_goto hC (tgt := 36) dX10_goesLatest_32 (by decide) ?_
        exact r_sub (lv' := [(0, .ref (gA g 100)), (1, .int x1), (2, .int x2), (3, .int x3), (4, .int x4), (5, .int x5)]) [0, 1, 2, 3, 4, 5] rfl (t_X10_goesLatest_36 hC hG hR (fun x1 x2 x3 x4 x5 I  hw => ih x1 x2 x3 x4 x5 I  hw) _ _ _ _ _ _ _ hw)
set_option maxRecDepth 100000 in
set_option maxHeartbeats 4000000 in
theorem t_X10_goesLatest_0 {f : Fx} {g : Gm}  {Post : Int32 → Mm → Prop} {x1 : Int32} {x2 : Int32} {I : Mm} (hC : Cx f cX10_goesLatest 7 RX10 wsX10_goesLatest rm_X10_goesLatest) (hG : shM g) (hR : RtI f cX10_goesLatest (fun r u => u.1 = g ∧ Post r u.2)) (hw : wp_X10_goesLatest  x1 x2 I Post) : PW f 0 0 g I 0 [(0, .ref (gA g 100)), (1, .int x1), (2, .int x2)] [] := by
  unfold wp_X10_goesLatest at hw
  refine r_bipush hC (v := (-9 : Int32)) dX10_goesLatest_0 rfl (by decide) ?_
  refine r_istore_n hC (lv' := [(3, .int (-9 : Int32)), (0, .ref (gA g 100)), (1, .int x1), (2, .int x2)]) dX10_goesLatest_2 rfl rfl (by decide) rfl ?_
  refine r_iconst hC (v := (-1 : Int32)) dX10_goesLatest_3 rfl (by decide) ?_
  refine r_istore hC (lv' := [(4, .int (-1 : Int32)), (3, .int (-9 : Int32)), (0, .ref (gA g 100)), (1, .int x1), (2, .int x2)]) dX10_goesLatest_4 rfl (by decide) rfl ?_
  refine r_iconst hC (v := (0 : Int32)) dX10_goesLatest_6 rfl (by decide) ?_
  refine r_istore hC (lv' := [(5, .int (0 : Int32)), (4, .int (-1 : Int32)), (3, .int (-9 : Int32)), (0, .ref (gA g 100)), (1, .int x1), (2, .int x2)]) dX10_goesLatest_7 rfl (by decide) rfl ?_
  obtain ⟨nn9, hw⟩ := hw
  exact r_sub (lv' := [(0, .ref (gA g 100)), (1, .int x1), (2, .int x2), (3, .int (-9 : Int32)), (4, .int (-1 : Int32)), (5, .int (0 : Int32))]) [3, 4, 5, 2, 1, 0] rfl ((t_X10_goesLatest_9 hC hG hR nn9 _ _ _ _ _ _ hw))
set_option maxRecDepth 100000 in
theorem c_X10_goesLatest {l : Launch} {x : Gx} {g : Gm}  {x1 : Int32} {x2 : Int32} {I : Mm} {Post : Int32 → Mm → Prop} (hG : shM g) (hw : wp_X10_goesLatest  x1 x2 I Post) : KI l x yX10_goesLatest wsX10_goesLatest rm_X10_goesLatest g I [.ref (gA g 100), .int x1, .int x2] (fun r u => u.1 = g ∧ Post r u.2) := KI_of (by decide) rfl rfl (Nat.le_of_ble_eq_true rfl) (fun f hC _ _ hR => t_X10_goesLatest_0 hC hG hR hw)

/-! X10_latest -/
abbrev rm_X10_latest : Room := { frames := 2, cells := 0, slots := 0, locals := 50 }
theorem ci_X10_latest : CI yX10_latest wsX10_latest cX10_latest 7 (some .int) 2 := ⟨⟨_, rfl⟩, by decide, by decide, by decide +kernel⟩
def wp_X10_latest_105  (Kb : Int32 → Int32 → Int32 → Int32 → Int32 → Mm → Prop) (Post : Int32 → Mm → Prop) (x1 : Int32) (x2 : Int32) (x4 : Int32) (x5 : Int32) (s0 : Int32) (I : Mm) : Prop := vp_in x5 24 ∧ (Kb x1 x2 (s0 ||| ((1 : Int32) <<< ((I 106 x5.toNatClampNeg) &&& 31))) x4 (x5 + 1) I)
def wp_X10_latest_86  (Kb : Int32 → Int32 → Int32 → Int32 → Int32 → Mm → Prop) (Post : Int32 → Mm → Prop) (x1 : Int32) (x2 : Int32) (x3 : Int32) (x5 : Int32) (x6 : Int32) (s0 : Int32) (I : Mm) : Prop := if x6 = 0 then (wp_X10_latest_105 Kb Post x1 x2 s0 x5 x3 I) else (wp_X10_latest_105 Kb Post x1 x2 s0 x5 (x3 &&& (((1 : Int32) <<< (s0 &&& 31)) ^^^ (-1 : Int32))) I)
def wp_X10_latest_67  (Kb : Int32 → Int32 → Int32 → Int32 → Int32 → Mm → Prop) (Post : Int32 → Mm → Prop) (x1 : Int32) (x2 : Int32) (x3 : Int32) (x5 : Int32) (s0 : Int32) (I : Mm) : Prop := if s0 = 0 then (wp_X10_latest_86 Kb Post x1 x2 x3 x5 s0 (-9 : Int32) I) else (wp_X10_goesLatest x3 x5 I (fun r9 J10 => wp_X10_latest_86 Kb Post x1 x2 x3 x5 s0 r9 J10))
def wp_X10_latest_66  (Kb : Int32 → Int32 → Int32 → Int32 → Int32 → Mm → Prop) (Post : Int32 → Mm → Prop) (x1 : Int32) (x2 : Int32) (x3 : Int32) (x5 : Int32) (I : Mm) : Prop := wp_X10_latest_67 Kb Post x1 x2 x3 x5 (0 : Int32) I
def wp_X10_latest_34   (Post : Int32 → Mm → Prop) : Nat → Int32 → Int32 → Int32 → Int32 → Int32 → Mm → Prop
  | 0, _, _, _, _, _, _ => False
  | nn34 + 1, x1, x2, x3, x4, x5, I => if x2 < x5 then (Post x4 I) else (vp_in x5 24 ∧ (wp_X10_isIn x3 (I 106 x5.toNatClampNeg) I (fun r5 J6 => if r5 = 0 then (wp_X10_bits x3 J6 (fun r7 J8 => if r7 = x1 then (wp_X10_latest_67 (fun x1 x2 x3 x4 x5 I => wp_X10_latest_34  Post nn34 x1 x2 x3 x4 x5 I) Post x1 x2 x3 x5 (1 : Int32) J8) else (wp_X10_latest_66 (fun x1 x2 x3 x4 x5 I => wp_X10_latest_34  Post nn34 x1 x2 x3 x4 x5 I) Post x1 x2 x3 x5 J8))) else (wp_X10_latest_66 (fun x1 x2 x3 x4 x5 I => wp_X10_latest_34  Post nn34 x1 x2 x3 x4 x5 I) Post x1 x2 x3 x5 J6))))
def wp_X10_latest  (x1 : Int32) (x2 : Int32) (I : Mm) (Post : Int32 → Mm → Prop) : Prop := wp_X10_noAsk x2 I (fun r1 J2 => if r1 = 0 then (wp_X10_in x1.toInt64 (1 : Int64) (8 : Int64) J2 (fun r3 J4 => if r3 = 0 then (Post (-2 : Int32) J4) else (∃ nn34, wp_X10_latest_34  Post nn34 x1 x2 (0 : Int32) (-9 : Int32) (0 : Int32) J4))) else (Post (-1 : Int32) J2))
set_option maxRecDepth 20000 in
theorem uw_X10_latest_10 : ∀ w ∈ u_ws RX10 TX10 30, w ∈ wsX10_latest := by decide +kernel
set_option maxRecDepth 20000 in
theorem ffg_X10_latest_16 : ∀ k ∈ ([10] : List Nat), FF wsX10_latest RX10 16 k 6 ∧ fR k 6 = true := List.forall_mem_cons.mpr ⟨⟨⟨RX10, TX10, 30, "PageDesksModel", rfl, rfl, by decide, by decide, uw_X10_latest_10, (List.mem_of_getElem? (i := 2) rfl), Or.inl rfl⟩, rfl⟩, fun _ h => absurd h List.not_mem_nil⟩
set_option maxRecDepth 100000 in
set_option maxHeartbeats 4000000 in
theorem t_X10_latest_105 {f : Fx} {g : Gm}  {Post : Int32 → Mm → Prop} {Kb : Int32 → Int32 → Int32 → Int32 → Int32 → Mm → Prop} (hC : Cx f cX10_latest 7 RX10 wsX10_latest rm_X10_latest) (hG : shM g) (hR : RtI f cX10_latest (fun r u => u.1 = g ∧ Post r u.2)) (hKb : ∀ (x1 : Int32) (x2 : Int32) (x3 : Int32) (x4 : Int32) (x5 : Int32) (I : Mm) , Kb x1 x2 x3 x4 x5 I → PW f 0 0 g I 34 [(0, .ref (gA g 100)), (1, .int x1), (2, .int x2), (3, .int x3), (4, .int x4), (5, .int x5)] []) : ∀ (x1 : Int32) (x2 : Int32) (x4 : Int32) (x5 : Int32) (s0 : Int32) (I : Mm) , wp_X10_latest_105  Kb Post x1 x2 x4 x5 s0 I → PW f 0 0 g I 105 [(0, .ref (gA g 100)), (1, .int x1), (2, .int x2), (4, .int x4), (5, .int x5)] [.int s0] := by
  intro x1 x2 x4 x5 s0 I  hw
  unfold wp_X10_latest_105 at hw
  refine r_iconst hC (v := (1 : Int32)) dX10_latest_105 rfl (by decide) ?_
  refine r_aload_n hC dX10_latest_106 rfl rfl (j := 0) rfl ?_
  refine r_getR hC dX10_latest_107 rfl hG.o.1 hG.o.2 ffg_X10_latest_16 hG.a6.2 ?_
  refine r_iload hC dX10_latest_110 rfl (j := 4) rfl ?_
  obtain ⟨hi, hw⟩ := hw
  refine r_iald hC dX10_latest_112 rfl (hG.a6.1).1 (hG.a6.1).2.1 (by rw [(hG.a6.1).2.2]; exact hi) ?_
  refine r_ishl hC dX10_latest_113 rfl ?_
  refine r_ior hC dX10_latest_114 rfl ?_
  refine r_istore_n hC (lv' := [(3, .int (s0 ||| ((1 : Int32) <<< ((I 106 x5.toNatClampNeg) &&& 31)))), (0, .ref (gA g 100)), (1, .int x1), (2, .int x2), (4, .int x4), (5, .int x5)]) dX10_latest_115 rfl rfl (by decide) rfl ?_
  refine r_iinc hC (k := 1) (lv' := [(5, .int (x5 + 1)), (3, .int (s0 ||| ((1 : Int32) <<< ((I 106 x5.toNatClampNeg) &&& 31)))), (0, .ref (gA g 100)), (1, .int x1), (2, .int x2), (4, .int x4)]) dX10_latest_116 rfl (j := 5) rfl (by decide) (by decide) rfl ?_
  refine r_goto hC (tgt := 34) dX10_latest_119 (by decide) ?_
  exact r_sub (lv' := [(0, .ref (gA g 100)), (1, .int x1), (2, .int x2), (3, .int (s0 ||| ((1 : Int32) <<< ((I 106 x5.toNatClampNeg) &&& 31)))), (4, .int x4), (5, .int (x5 + 1))]) [2, 3, 4, 1, 5, 0] rfl (hKb _ _ _ _ _ _ hw)
set_option maxRecDepth 100000 in
set_option maxHeartbeats 4000000 in
theorem t_X10_latest_86 {f : Fx} {g : Gm}  {Post : Int32 → Mm → Prop} {Kb : Int32 → Int32 → Int32 → Int32 → Int32 → Mm → Prop} (hC : Cx f cX10_latest 7 RX10 wsX10_latest rm_X10_latest) (hG : shM g) (hR : RtI f cX10_latest (fun r u => u.1 = g ∧ Post r u.2)) (hKb : ∀ (x1 : Int32) (x2 : Int32) (x3 : Int32) (x4 : Int32) (x5 : Int32) (I : Mm) , Kb x1 x2 x3 x4 x5 I → PW f 0 0 g I 34 [(0, .ref (gA g 100)), (1, .int x1), (2, .int x2), (3, .int x3), (4, .int x4), (5, .int x5)] []) : ∀ (x1 : Int32) (x2 : Int32) (x3 : Int32) (x5 : Int32) (x6 : Int32) (s0 : Int32) (I : Mm) , wp_X10_latest_86  Kb Post x1 x2 x3 x5 x6 s0 I → PW f 0 0 g I 86 [(0, .ref (gA g 100)), (1, .int x1), (2, .int x2), (3, .int x3), (5, .int x5), (6, .int x6)] [.int s0] := by
  intro x1 x2 x3 x5 x6 s0 I  hw
  unfold wp_X10_latest_86 at hw
  refine r_istore hC (lv' := [(4, .int s0), (0, .ref (gA g 100)), (1, .int x1), (2, .int x2), (3, .int x3), (5, .int x5), (6, .int x6)]) dX10_latest_86 rfl (by decide) rfl ?_
  refine r_iload hC dX10_latest_88 rfl (j := 6) rfl ?_
  refine r_if_eq hC (tgt := 104) dX10_latest_90 rfl (by decide) hw (fun hw => ?_) (fun hw => ?_)
  · refine r_iload_n hC dX10_latest_104 rfl rfl (j := 4) rfl ?_
    exact r_sub (lv' := [(0, .ref (gA g 100)), (1, .int x1), (2, .int x2), (4, .int s0), (5, .int x5)]) [1, 2, 3, 0, 5] rfl (t_X10_latest_105 hC hG hR hKb _ _ _ _ _ _ hw)
  · refine r_iload_n hC dX10_latest_93 rfl rfl (j := 4) rfl ?_
    refine r_iconst hC (v := (1 : Int32)) dX10_latest_94 rfl (by decide) ?_
    refine r_iload hC dX10_latest_95 rfl (j := 0) rfl ?_
    refine r_ishl hC dX10_latest_97 rfl ?_
    refine r_iconst hC (v := (-1 : Int32)) dX10_latest_98 rfl (by decide) ?_
    refine r_ixor hC dX10_latest_99 rfl ?_
    refine r_iand hC dX10_latest_100 rfl ?_
    refine r_goto hC (tgt := 105) dX10_latest_101 (by decide) ?_
    exact r_sub (lv' := [(0, .ref (gA g 100)), (1, .int x1), (2, .int x2), (4, .int s0), (5, .int x5)]) [1, 2, 3, 0, 5] rfl (t_X10_latest_105 hC hG hR hKb _ _ _ _ _ _ hw)
set_option maxRecDepth 100000 in
set_option maxHeartbeats 4000000 in
theorem t_X10_latest_67 {f : Fx} {g : Gm}  {Post : Int32 → Mm → Prop} {Kb : Int32 → Int32 → Int32 → Int32 → Int32 → Mm → Prop} (hC : Cx f cX10_latest 7 RX10 wsX10_latest rm_X10_latest) (hG : shM g) (hR : RtI f cX10_latest (fun r u => u.1 = g ∧ Post r u.2)) (hKb : ∀ (x1 : Int32) (x2 : Int32) (x3 : Int32) (x4 : Int32) (x5 : Int32) (I : Mm) , Kb x1 x2 x3 x4 x5 I → PW f 0 0 g I 34 [(0, .ref (gA g 100)), (1, .int x1), (2, .int x2), (3, .int x3), (4, .int x4), (5, .int x5)] []) : ∀ (x1 : Int32) (x2 : Int32) (x3 : Int32) (x5 : Int32) (s0 : Int32) (I : Mm) , wp_X10_latest_67  Kb Post x1 x2 x3 x5 s0 I → PW f 0 0 g I 67 [(0, .ref (gA g 100)), (1, .int x1), (2, .int x2), (3, .int x3), (5, .int x5)] [.int s0] := by
  intro x1 x2 x3 x5 s0 I  hw
  unfold wp_X10_latest_67 at hw
  refine r_istore hC (lv' := [(6, .int s0), (0, .ref (gA g 100)), (1, .int x1), (2, .int x2), (3, .int x3), (5, .int x5)]) dX10_latest_67 rfl (by decide) rfl ?_
  refine r_iload hC dX10_latest_69 rfl (j := 0) rfl ?_
  refine r_if_eq hC (tgt := 84) dX10_latest_71 rfl (by decide) hw (fun hw => ?_) (fun hw => ?_)
  · refine r_bipush hC (v := (-9 : Int32)) dX10_latest_84 rfl (by decide) ?_
    exact r_sub (lv' := [(0, .ref (gA g 100)), (1, .int x1), (2, .int x2), (3, .int x3), (5, .int x5), (6, .int s0)]) [1, 2, 3, 4, 5, 0] rfl (t_X10_latest_86 hC hG hR hKb _ _ _ _ _ _ _ hw)
  · refine r_aload_n hC dX10_latest_74 rfl rfl (j := 1) rfl ?_
    refine r_iload_n hC dX10_latest_75 rfl rfl (j := 4) rfl ?_
    refine r_iload hC dX10_latest_76 rfl (j := 5) rfl ?_
    refine r_callI hC (a_V hC (k := 10) (c_X10_goesLatest hG hw) ci_X10_goesLatest gX10_latest_X10_goesLatest rfl ⟨Nat.le_of_ble_eq_true rfl, Nat.le_of_ble_eq_true rfl⟩ ⟨Nat.le_of_ble_eq_true rfl, Nat.le_of_ble_eq_true rfl⟩ rfl (by decide) hG.o.1 (List.mem_singleton.mp hG.o.2) rfl rfl (Nat.le_of_ble_eq_true rfl) dX10_latest_78) ⟨rfl, rfl⟩ rfl (fun r9 J10 hw => ?_)
    refine r_goto hC (tgt := 86) dX10_latest_81 (by decide) ?_
    exact r_sub (lv' := [(0, .ref (gA g 100)), (1, .int x1), (2, .int x2), (3, .int x3), (5, .int x5), (6, .int s0)]) [1, 2, 3, 4, 5, 0] rfl (t_X10_latest_86 hC hG hR hKb _ _ _ _ _ _ _ hw)
set_option maxRecDepth 100000 in
set_option maxHeartbeats 4000000 in
theorem t_X10_latest_66 {f : Fx} {g : Gm}  {Post : Int32 → Mm → Prop} {Kb : Int32 → Int32 → Int32 → Int32 → Int32 → Mm → Prop} (hC : Cx f cX10_latest 7 RX10 wsX10_latest rm_X10_latest) (hG : shM g) (hR : RtI f cX10_latest (fun r u => u.1 = g ∧ Post r u.2)) (hKb : ∀ (x1 : Int32) (x2 : Int32) (x3 : Int32) (x4 : Int32) (x5 : Int32) (I : Mm) , Kb x1 x2 x3 x4 x5 I → PW f 0 0 g I 34 [(0, .ref (gA g 100)), (1, .int x1), (2, .int x2), (3, .int x3), (4, .int x4), (5, .int x5)] []) : ∀ (x1 : Int32) (x2 : Int32) (x3 : Int32) (x5 : Int32) (I : Mm) , wp_X10_latest_66  Kb Post x1 x2 x3 x5 I → PW f 0 0 g I 66 [(0, .ref (gA g 100)), (1, .int x1), (2, .int x2), (3, .int x3), (5, .int x5)] [] := by
  intro x1 x2 x3 x5 I  hw
  unfold wp_X10_latest_66 at hw
  refine r_iconst hC (v := (0 : Int32)) dX10_latest_66 rfl (by decide) ?_
  exact r_sub (lv' := [(0, .ref (gA g 100)), (1, .int x1), (2, .int x2), (3, .int x3), (5, .int x5)]) [0, 1, 2, 3, 4] rfl (t_X10_latest_67 hC hG hR hKb _ _ _ _ _ _ hw)
set_option maxRecDepth 100000 in
set_option maxHeartbeats 4000000 in
theorem t_X10_latest_34 {f : Fx} {g : Gm}  {Post : Int32 → Mm → Prop}  (hC : Cx f cX10_latest 7 RX10 wsX10_latest rm_X10_latest) (hG : shM g) (hR : RtI f cX10_latest (fun r u => u.1 = g ∧ Post r u.2))  : ∀ (nn34 : Nat) (x1 : Int32) (x2 : Int32) (x3 : Int32) (x4 : Int32) (x5 : Int32) (I : Mm) , wp_X10_latest_34   Post nn34 x1 x2 x3 x4 x5 I → PW f 0 0 g I 34 [(0, .ref (gA g 100)), (1, .int x1), (2, .int x2), (3, .int x3), (4, .int x4), (5, .int x5)] [] := by
  intro nn34
  induction nn34 with
  | zero =>
    intro x1 x2 x3 x4 x5 I  hw
    exact absurd hw id
  | succ nn34 ih =>
    intro x1 x2 x3 x4 x5 I  hw
    unfold wp_X10_latest_34 at hw
    refine r_iload hC dX10_latest_34 rfl (j := 5) rfl ?_
    refine r_iload_n hC dX10_latest_36 rfl rfl (j := 2) rfl ?_
    refine r_icmp_gt hC (tgt := 122) dX10_latest_37 rfl (by decide) hw (fun hw => ?_) (fun hw => ?_)
    · refine r_iload hC dX10_latest_122 rfl (j := 4) rfl ?_
      exact r_retI hC hR ⟨rfl, rfl⟩ dX10_latest_124 hw
    · refine r_iload_n hC dX10_latest_40 rfl rfl (j := 3) rfl ?_
      refine r_aload_n hC dX10_latest_41 rfl rfl (j := 0) rfl ?_
      refine r_getR hC dX10_latest_42 rfl hG.o.1 hG.o.2 ffg_X10_latest_16 hG.a6.2 ?_
      refine r_iload hC dX10_latest_45 rfl (j := 5) rfl ?_
      obtain ⟨hi, hw⟩ := hw
      refine r_iald hC dX10_latest_47 rfl (hG.a6.1).1 (hG.a6.1).2.1 (by rw [(hG.a6.1).2.2]; exact hi) ?_
      refine r_callI hC (a_S hC (c_X10_isIn  hw) ci_X10_isIn gX10_latest_X10_isIn ⟨Nat.le_of_ble_eq_true rfl, Nat.le_of_ble_eq_true rfl⟩ ⟨Nat.le_of_ble_eq_true rfl, Nat.le_of_ble_eq_true rfl⟩ rfl rfl (Nat.le_of_ble_eq_true rfl) dX10_latest_48) ⟨rfl, rfl⟩ rfl (fun r5 J6 hw => ?_)
      refine r_if_ne hC (tgt := 66) dX10_latest_51 rfl (by decide) hw (fun hw => ?_) (fun hw => ?_)
      · exact r_sub (lv' := [(0, .ref (gA g 100)), (1, .int x1), (2, .int x2), (3, .int x3), (5, .int x5)]) [0, 1, 2, 3, 5] rfl (t_X10_latest_66 hC hG hR (fun x1 x2 x3 x4 x5 I  hw => ih x1 x2 x3 x4 x5 I  hw) _ _ _ _ _ hw)
      · refine r_iload_n hC dX10_latest_54 rfl rfl (j := 3) rfl ?_
        refine r_callI hC (a_S hC (c_X10_bits  hw) ci_X10_bits gX10_latest_X10_bits ⟨Nat.le_of_ble_eq_true rfl, Nat.le_of_ble_eq_true rfl⟩ ⟨Nat.le_of_ble_eq_true rfl, Nat.le_of_ble_eq_true rfl⟩ rfl rfl (Nat.le_of_ble_eq_true rfl) dX10_latest_55) ⟨rfl, rfl⟩ rfl (fun r7 J8 hw => ?_)
        refine r_iload_n hC dX10_latest_58 rfl rfl (j := 1) rfl ?_
        refine r_icmp_ne hC (tgt := 66) dX10_latest_59 rfl (by decide) hw (fun hw => ?_) (fun hw => ?_)
        · exact r_sub (lv' := [(0, .ref (gA g 100)), (1, .int x1), (2, .int x2), (3, .int x3), (5, .int x5)]) [0, 1, 2, 3, 5] rfl (t_X10_latest_66 hC hG hR (fun x1 x2 x3 x4 x5 I  hw => ih x1 x2 x3 x4 x5 I  hw) _ _ _ _ _ hw)
        · refine r_iconst hC (v := (1 : Int32)) dX10_latest_62 rfl (by decide) ?_
          refine r_goto hC (tgt := 67) dX10_latest_63 (by decide) ?_
          exact r_sub (lv' := [(0, .ref (gA g 100)), (1, .int x1), (2, .int x2), (3, .int x3), (5, .int x5)]) [0, 1, 2, 3, 5] rfl (t_X10_latest_67 hC hG hR (fun x1 x2 x3 x4 x5 I  hw => ih x1 x2 x3 x4 x5 I  hw) _ _ _ _ _ _ hw)
set_option maxRecDepth 100000 in
set_option maxHeartbeats 4000000 in
theorem t_X10_latest_0 {f : Fx} {g : Gm}  {Post : Int32 → Mm → Prop} {x1 : Int32} {x2 : Int32} {I : Mm} (hC : Cx f cX10_latest 7 RX10 wsX10_latest rm_X10_latest) (hG : shM g) (hR : RtI f cX10_latest (fun r u => u.1 = g ∧ Post r u.2)) (hw : wp_X10_latest  x1 x2 I Post) : PW f 0 0 g I 0 [(0, .ref (gA g 100)), (1, .int x1), (2, .int x2)] [] := by
  unfold wp_X10_latest at hw
  refine r_aload_n hC dX10_latest_0 rfl rfl (j := 0) rfl ?_
  refine r_iload_n hC dX10_latest_1 rfl rfl (j := 2) rfl ?_
  refine r_callI hC (a_V hC (k := 10) (c_X10_noAsk hG hw) ci_X10_noAsk gX10_latest_X10_noAsk rfl ⟨Nat.le_of_ble_eq_true rfl, Nat.le_of_ble_eq_true rfl⟩ ⟨Nat.le_of_ble_eq_true rfl, Nat.le_of_ble_eq_true rfl⟩ rfl (by decide) hG.o.1 (List.mem_singleton.mp hG.o.2) rfl rfl (Nat.le_of_ble_eq_true rfl) dX10_latest_2) ⟨rfl, rfl⟩ rfl (fun r1 J2 hw => ?_)
  refine r_if_eq hC (tgt := 10) dX10_latest_5 rfl (by decide) hw (fun hw => ?_) (fun hw => ?_)
  · refine r_iload_n hC dX10_latest_10 rfl rfl (j := 1) rfl ?_
    refine r_i2l hC dX10_latest_11 rfl ?_
    refine r_lconst hC (v := (1 : Int64)) dX10_latest_12 rfl (by decide) ?_
    refine r_ldc2 hC (v := (8 : Int64)) dX10_latest_13 rfl (List.mem_of_getElem? (i := 1) rfl) ?_
    refine r_callI hC (a_S hC (c_X10_in  hw) ci_X10_in gX10_latest_X10_in ⟨Nat.le_of_ble_eq_true rfl, Nat.le_of_ble_eq_true rfl⟩ ⟨Nat.le_of_ble_eq_true rfl, Nat.le_of_ble_eq_true rfl⟩ rfl rfl (Nat.le_of_ble_eq_true rfl) dX10_latest_16) ⟨rfl, rfl⟩ rfl (fun r3 J4 hw => ?_)
    refine r_if_ne hC (tgt := 25) dX10_latest_19 rfl (by decide) hw (fun hw => ?_) (fun hw => ?_)
    · refine r_iconst hC (v := (0 : Int32)) dX10_latest_25 rfl (by decide) ?_
      refine r_istore_n hC (lv' := [(3, .int (0 : Int32)), (0, .ref (gA g 100)), (1, .int x1), (2, .int x2)]) dX10_latest_26 rfl rfl (by decide) rfl ?_
      refine r_bipush hC (v := (-9 : Int32)) dX10_latest_27 rfl (by decide) ?_
      refine r_istore hC (lv' := [(4, .int (-9 : Int32)), (3, .int (0 : Int32)), (0, .ref (gA g 100)), (1, .int x1), (2, .int x2)]) dX10_latest_29 rfl (by decide) rfl ?_
      refine r_iconst hC (v := (0 : Int32)) dX10_latest_31 rfl (by decide) ?_
      refine r_istore hC (lv' := [(5, .int (0 : Int32)), (4, .int (-9 : Int32)), (3, .int (0 : Int32)), (0, .ref (gA g 100)), (1, .int x1), (2, .int x2)]) dX10_latest_32 rfl (by decide) rfl ?_
      obtain ⟨nn34, hw⟩ := hw
      exact r_sub (lv' := [(0, .ref (gA g 100)), (1, .int x1), (2, .int x2), (3, .int (0 : Int32)), (4, .int (-9 : Int32)), (5, .int (0 : Int32))]) [3, 4, 5, 2, 1, 0] rfl ((t_X10_latest_34 hC hG hR nn34 _ _ _ _ _ _ hw))
    · refine r_bipush hC (v := (-2 : Int32)) dX10_latest_22 rfl (by decide) ?_
      exact r_retI hC hR ⟨rfl, rfl⟩ dX10_latest_24 hw
  · refine r_iconst hC (v := (-1 : Int32)) dX10_latest_8 rfl (by decide) ?_
    exact r_retI hC hR ⟨rfl, rfl⟩ dX10_latest_9 hw
set_option maxRecDepth 100000 in
theorem c_X10_latest {l : Launch} {x : Gx} {g : Gm}  {x1 : Int32} {x2 : Int32} {I : Mm} {Post : Int32 → Mm → Prop} (hG : shM g) (hw : wp_X10_latest  x1 x2 I Post) : KI l x yX10_latest wsX10_latest rm_X10_latest g I [.ref (gA g 100), .int x1, .int x2] (fun r u => u.1 = g ∧ Post r u.2) := KI_of (by decide) rfl rfl (Nat.le_of_ble_eq_true rfl) (fun f hC _ _ hR => t_X10_latest_0 hC hG hR hw)
