/-! X10_lies -/
abbrev rm_X10_lies : Room := { frames := 5, cells := 0, slots := 0, locals := 111 }
theorem ci_X10_lies : CI yX10_lies wsX10_lies cX10_lies 3 (some .int) 2 := ⟨⟨_, rfl⟩, by decide, by decide, by decide +kernel⟩
def wp_X10_lies  (x1 : Int32) (x2 : Int32) (I : Mm) (Post : Int32 → Mm → Prop) : Prop := wp_X10_noDesk x1 I (fun r1 J2 => if r1 = 0 then (wp_X10_in x2.toInt64 (0 : Int64) (4 : Int64) J2 (fun r3 J4 => if r3 = 0 then (Post (-2 : Int32) J4) else (wp_X10_playsNow x1 J4 (fun J6 => if (J6 100 15) ≤ x2 then (Post (-9 : Int32) J6) else (vp_in x2 8 ∧ (Post (J6 118 x2.toNatClampNeg) J6)))))) else (Post (-1 : Int32) J2))
set_option maxRecDepth 20000 in
theorem uw_X10_lies_10 : ∀ w ∈ u_ws RX10 TX10 30, w ∈ wsX10_lies := by decide +kernel
set_option maxRecDepth 20000 in
theorem ffg_X10_lies_141 : ∀ k ∈ ([10] : List Nat), FF wsX10_lies RX10 141 k 15 ∧ fR k 15 = false := List.forall_mem_cons.mpr ⟨⟨⟨RX10, TX10, 30, "PageDesksModel", rfl, rfl, by decide, by decide, uw_X10_lies_10, (List.mem_of_getElem? (i := 2) rfl), Or.inl rfl⟩, rfl⟩, fun _ h => absurd h List.not_mem_nil⟩
set_option maxRecDepth 20000 in
theorem ffg_X10_lies_28 : ∀ k ∈ ([10] : List Nat), FF wsX10_lies RX10 28 k 18 ∧ fR k 18 = true := List.forall_mem_cons.mpr ⟨⟨⟨RX10, TX10, 30, "PageDesksModel", rfl, rfl, by decide, by decide, uw_X10_lies_10, (List.mem_of_getElem? (i := 3) rfl), Or.inl rfl⟩, rfl⟩, fun _ h => absurd h List.not_mem_nil⟩
set_option maxRecDepth 100000 in
set_option maxHeartbeats 4000000 in
theorem t_X10_lies_0 {f : Fx} {g : Gm}  {Post : Int32 → Mm → Prop} {x1 : Int32} {x2 : Int32} {I : Mm} (hC : Cx f cX10_lies 3 RX10 wsX10_lies rm_X10_lies) (hG : shM g) (hR : RtI f cX10_lies (fun r u => u.1 = g ∧ Post r u.2)) (hw : wp_X10_lies  x1 x2 I Post) : PW f 0 0 g I 0 [(0, .ref (gA g 100)), (1, .int x1), (2, .int x2)] [] := by
  unfold wp_X10_lies at hw
  refine r_aload_n hC dX10_lies_0 rfl rfl (j := 0) rfl ?_
  refine r_iload_n hC dX10_lies_1 rfl rfl (j := 1) rfl ?_
  refine r_callI hC (a_V hC (k := 10) (c_X10_noDesk hG hw) ci_X10_noDesk gX10_lies_X10_noDesk rfl ⟨Nat.le_of_ble_eq_true rfl, Nat.le_of_ble_eq_true rfl⟩ ⟨Nat.le_of_ble_eq_true rfl, Nat.le_of_ble_eq_true rfl⟩ rfl (by decide) hG.o.1 (List.mem_singleton.mp hG.o.2) rfl rfl (Nat.le_of_ble_eq_true rfl) dX10_lies_2) ⟨rfl, rfl⟩ rfl (fun r1 J2 hw => ?_)
  refine r_if_eq hC (tgt := 10) dX10_lies_5 rfl (by decide) hw (fun hw => ?_) (fun hw => ?_)
  · refine r_iload_n hC dX10_lies_10 rfl rfl (j := 2) rfl ?_
    refine r_i2l hC dX10_lies_11 rfl ?_
    refine r_lconst hC (v := (0 : Int64)) dX10_lies_12 rfl (by decide) ?_
    refine r_ldc2 hC (v := (4 : Int64)) dX10_lies_13 rfl (List.mem_of_getElem? (i := 1) rfl) ?_
    refine r_callI hC (a_S hC (c_X10_in  hw) ci_X10_in gX10_lies_X10_in ⟨Nat.le_of_ble_eq_true rfl, Nat.le_of_ble_eq_true rfl⟩ ⟨Nat.le_of_ble_eq_true rfl, Nat.le_of_ble_eq_true rfl⟩ rfl rfl (Nat.le_of_ble_eq_true rfl) dX10_lies_16) ⟨rfl, rfl⟩ rfl (fun r3 J4 hw => ?_)
    refine r_if_ne hC (tgt := 25) dX10_lies_19 rfl (by decide) hw (fun hw => ?_) (fun hw => ?_)
    · refine r_aload_n hC dX10_lies_25 rfl rfl (j := 0) rfl ?_
      refine r_iload_n hC dX10_lies_26 rfl rfl (j := 1) rfl ?_
      refine r_callV hC (a_V hC (k := 10) (c_X10_playsNow hG hw) ci_X10_playsNow gX10_lies_X10_playsNow rfl ⟨Nat.le_of_ble_eq_true rfl, Nat.le_of_ble_eq_true rfl⟩ ⟨Nat.le_of_ble_eq_true rfl, Nat.le_of_ble_eq_true rfl⟩ rfl (by decide) hG.o.1 (List.mem_singleton.mp hG.o.2) rfl rfl (Nat.le_of_ble_eq_true rfl) dX10_lies_27) ⟨rfl, rfl⟩ rfl (fun J6 hw => ?_)
      refine r_iload_n hC dX10_lies_30 rfl rfl (j := 2) rfl ?_
      refine r_aload_n hC dX10_lies_31 rfl rfl (j := 0) rfl ?_
      refine r_getI hC dX10_lies_32 rfl hG.o.1 hG.o.2 ffg_X10_lies_141 ?_
      refine r_icmp_ge hC (tgt := 47) dX10_lies_35 rfl (by decide) hw (fun hw => ?_) (fun hw => ?_)
      · refine r_bipush hC (v := (-9 : Int32)) dX10_lies_47 rfl (by decide) ?_
        exact r_retI hC hR ⟨rfl, rfl⟩ dX10_lies_49 hw
      · refine r_aload_n hC dX10_lies_38 rfl rfl (j := 0) rfl ?_
        refine r_getR hC dX10_lies_39 rfl hG.o.1 hG.o.2 ffg_X10_lies_28 hG.a18.2 ?_
        refine r_iload_n hC dX10_lies_42 rfl rfl (j := 2) rfl ?_
        obtain ⟨hi, hw⟩ := hw
        refine r_iald hC dX10_lies_43 rfl (hG.a18.1).1 (hG.a18.1).2.1 (by rw [(hG.a18.1).2.2]; exact hi) ?_
        refine r_goto hC (tgt := 49) dX10_lies_44 (by decide) ?_
        exact r_retI hC hR ⟨rfl, rfl⟩ dX10_lies_49 hw
    · refine r_bipush hC (v := (-2 : Int32)) dX10_lies_22 rfl (by decide) ?_
      exact r_retI hC hR ⟨rfl, rfl⟩ dX10_lies_24 hw
  · refine r_iconst hC (v := (-1 : Int32)) dX10_lies_8 rfl (by decide) ?_
    exact r_retI hC hR ⟨rfl, rfl⟩ dX10_lies_9 hw
set_option maxRecDepth 100000 in
theorem c_X10_lies {l : Launch} {x : Gx} {g : Gm}  {x1 : Int32} {x2 : Int32} {I : Mm} {Post : Int32 → Mm → Prop} (hG : shM g) (hw : wp_X10_lies  x1 x2 I Post) : KI l x yX10_lies wsX10_lies rm_X10_lies g I [.ref (gA g 100), .int x1, .int x2] (fun r u => u.1 = g ∧ Post r u.2) := KI_of (by decide) rfl rfl (Nat.le_of_ble_eq_true rfl) (fun f hC _ _ hR => t_X10_lies_0 hC hG hR hw)

/-! X10_line -/
abbrev rm_X10_line : Room := { frames := 2, cells := 0, slots := 0, locals := 46 }
theorem ci_X10_line : CI yX10_line wsX10_line cX10_line 2 (some .int) 1 := ⟨⟨_, rfl⟩, by decide, by decide, by decide +kernel⟩
def wp_X10_line  (x1 : Int32) (I : Mm) (Post : Int32 → Mm → Prop) : Prop := wp_X10_noAsk x1 I (fun r1 J2 => if r1 = 0 then (vp_in x1 24 ∧ (Post (J2 106 x1.toNatClampNeg) J2)) else (Post (-1 : Int32) J2))
set_option maxRecDepth 20000 in
theorem uw_X10_line_10 : ∀ w ∈ u_ws RX10 TX10 30, w ∈ wsX10_line := by decide +kernel
set_option maxRecDepth 20000 in
theorem ffg_X10_line_16 : ∀ k ∈ ([10] : List Nat), FF wsX10_line RX10 16 k 6 ∧ fR k 6 = true := List.forall_mem_cons.mpr ⟨⟨⟨RX10, TX10, 30, "PageDesksModel", rfl, rfl, by decide, by decide, uw_X10_line_10, (List.mem_of_getElem? (i := 1) rfl), Or.inl rfl⟩, rfl⟩, fun _ h => absurd h List.not_mem_nil⟩
set_option maxRecDepth 100000 in
set_option maxHeartbeats 4000000 in
theorem t_X10_line_0 {f : Fx} {g : Gm}  {Post : Int32 → Mm → Prop} {x1 : Int32} {I : Mm} (hC : Cx f cX10_line 2 RX10 wsX10_line rm_X10_line) (hG : shM g) (hR : RtI f cX10_line (fun r u => u.1 = g ∧ Post r u.2)) (hw : wp_X10_line  x1 I Post) : PW f 0 0 g I 0 [(0, .ref (gA g 100)), (1, .int x1)] [] := by
  unfold wp_X10_line at hw
  refine r_aload_n hC dX10_line_0 rfl rfl (j := 0) rfl ?_
  refine r_iload_n hC dX10_line_1 rfl rfl (j := 1) rfl ?_
  refine r_callI hC (a_V hC (k := 10) (c_X10_noAsk hG hw) ci_X10_noAsk gX10_line_X10_noAsk rfl ⟨Nat.le_of_ble_eq_true rfl, Nat.le_of_ble_eq_true rfl⟩ ⟨Nat.le_of_ble_eq_true rfl, Nat.le_of_ble_eq_true rfl⟩ rfl (by decide) hG.o.1 (List.mem_singleton.mp hG.o.2) rfl rfl (Nat.le_of_ble_eq_true rfl) dX10_line_2) ⟨rfl, rfl⟩ rfl (fun r1 J2 hw => ?_)
  refine r_if_eq hC (tgt := 12) dX10_line_5 rfl (by decide) hw (fun hw => ?_) (fun hw => ?_)
  · refine r_aload_n hC dX10_line_12 rfl rfl (j := 0) rfl ?_
    refine r_getR hC dX10_line_13 rfl hG.o.1 hG.o.2 ffg_X10_line_16 hG.a6.2 ?_
    refine r_iload_n hC dX10_line_16 rfl rfl (j := 1) rfl ?_
    obtain ⟨hi, hw⟩ := hw
    refine r_iald hC dX10_line_17 rfl (hG.a6.1).1 (hG.a6.1).2.1 (by rw [(hG.a6.1).2.2]; exact hi) ?_
    exact r_retI hC hR ⟨rfl, rfl⟩ dX10_line_18 hw
  · refine r_iconst hC (v := (-1 : Int32)) dX10_line_8 rfl (by decide) ?_
    refine r_goto hC (tgt := 18) dX10_line_9 (by decide) ?_
    exact r_retI hC hR ⟨rfl, rfl⟩ dX10_line_18 hw
set_option maxRecDepth 100000 in
theorem c_X10_line {l : Launch} {x : Gx} {g : Gm}  {x1 : Int32} {I : Mm} {Post : Int32 → Mm → Prop} (hG : shM g) (hw : wp_X10_line  x1 I Post) : KI l x yX10_line wsX10_line rm_X10_line g I [.ref (gA g 100), .int x1] (fun r u => u.1 = g ∧ Post r u.2) := KI_of (by decide) rfl rfl (Nat.le_of_ble_eq_true rfl) (fun f hC _ _ hR => t_X10_line_0 hC hG hR hw)

/-! X10_build -/
abbrev rm_X10_build : Room := { frames := 2, cells := 0, slots := 0, locals := 46 }
theorem ci_X10_build : CI yX10_build wsX10_build cX10_build 4 (some .int) 2 := ⟨⟨_, rfl⟩, by decide, by decide, by decide +kernel⟩
def wp_X10_build  (x1 : Int32) (x2 : Int32) (I : Mm) (Post : Int32 → Mm → Prop) : Prop := wp_X10_noDesk x1 I (fun r1 J2 => if r1 = 0 then (wp_X10_in x2.toInt64 (1 : Int64) (5 : Int64) J2 (fun r3 J4 => if r3 = 0 then (Post (-2 : Int32) J4) else (vp_in x1 4 ∧ (vp_in x1 4 ∧ (Post (J4 105 x1.toNatClampNeg) (up2 J4 105 x1.toNatClampNeg x2)))))) else (Post (-1 : Int32) J2))
set_option maxRecDepth 20000 in
theorem uw_X10_build_10 : ∀ w ∈ u_ws RX10 TX10 30, w ∈ wsX10_build := by decide +kernel
set_option maxRecDepth 20000 in
theorem ffg_X10_build_13 : ∀ k ∈ ([10] : List Nat), FF wsX10_build RX10 13 k 5 ∧ fR k 5 = true := List.forall_mem_cons.mpr ⟨⟨⟨RX10, TX10, 30, "PageDesksModel", rfl, rfl, by decide, by decide, uw_X10_build_10, (List.mem_of_getElem? (i := 2) rfl), Or.inl rfl⟩, rfl⟩, fun _ h => absurd h List.not_mem_nil⟩
set_option maxRecDepth 100000 in
set_option maxHeartbeats 4000000 in
theorem t_X10_build_0 {f : Fx} {g : Gm}  {Post : Int32 → Mm → Prop} {x1 : Int32} {x2 : Int32} {I : Mm} (hC : Cx f cX10_build 4 RX10 wsX10_build rm_X10_build) (hG : shM g) (hR : RtI f cX10_build (fun r u => u.1 = g ∧ Post r u.2)) (hw : wp_X10_build  x1 x2 I Post) : PW f 0 0 g I 0 [(0, .ref (gA g 100)), (1, .int x1), (2, .int x2)] [] := by
  unfold wp_X10_build at hw
  refine r_aload_n hC dX10_build_0 rfl rfl (j := 0) rfl ?_
  refine r_iload_n hC dX10_build_1 rfl rfl (j := 1) rfl ?_
  refine r_callI hC (a_V hC (k := 10) (c_X10_noDesk hG hw) ci_X10_noDesk gX10_build_X10_noDesk rfl ⟨Nat.le_of_ble_eq_true rfl, Nat.le_of_ble_eq_true rfl⟩ ⟨Nat.le_of_ble_eq_true rfl, Nat.le_of_ble_eq_true rfl⟩ rfl (by decide) hG.o.1 (List.mem_singleton.mp hG.o.2) rfl rfl (Nat.le_of_ble_eq_true rfl) dX10_build_2) ⟨rfl, rfl⟩ rfl (fun r1 J2 hw => ?_)
  refine r_if_eq hC (tgt := 10) dX10_build_5 rfl (by decide) hw (fun hw => ?_) (fun hw => ?_)
  · refine r_iload_n hC dX10_build_10 rfl rfl (j := 2) rfl ?_
    refine r_i2l hC dX10_build_11 rfl ?_
    refine r_lconst hC (v := (1 : Int64)) dX10_build_12 rfl (by decide) ?_
    refine r_ldc2 hC (v := (5 : Int64)) dX10_build_13 rfl (List.mem_of_getElem? (i := 1) rfl) ?_
    refine r_callI hC (a_S hC (c_X10_in  hw) ci_X10_in gX10_build_X10_in ⟨Nat.le_of_ble_eq_true rfl, Nat.le_of_ble_eq_true rfl⟩ ⟨Nat.le_of_ble_eq_true rfl, Nat.le_of_ble_eq_true rfl⟩ rfl rfl (Nat.le_of_ble_eq_true rfl) dX10_build_16) ⟨rfl, rfl⟩ rfl (fun r3 J4 hw => ?_)
    refine r_if_ne hC (tgt := 25) dX10_build_19 rfl (by decide) hw (fun hw => ?_) (fun hw => ?_)
    · refine r_aload_n hC dX10_build_25 rfl rfl (j := 0) rfl ?_
      refine r_getR hC dX10_build_26 rfl hG.o.1 hG.o.2 ffg_X10_build_13 hG.a5.2 ?_
      refine r_iload_n hC dX10_build_29 rfl rfl (j := 1) rfl ?_
      obtain ⟨hi, hw⟩ := hw
      refine r_iald hC dX10_build_30 rfl (hG.a5.1).1 (hG.a5.1).2.1 (by rw [(hG.a5.1).2.2]; exact hi) ?_
      refine r_istore_n hC (lv' := [(3, .int (J4 105 x1.toNatClampNeg)), (0, .ref (gA g 100)), (1, .int x1), (2, .int x2)]) dX10_build_31 rfl rfl (by decide) rfl ?_
      refine r_aload_n hC dX10_build_32 rfl rfl (j := 1) rfl ?_
      refine r_getR hC dX10_build_33 rfl hG.o.1 hG.o.2 ffg_X10_build_13 hG.a5.2 ?_
      refine r_iload_n hC dX10_build_36 rfl rfl (j := 2) rfl ?_
      refine r_iload_n hC dX10_build_37 rfl rfl (j := 3) rfl ?_
      obtain ⟨hi, hw⟩ := hw
      refine r_iast hC dX10_build_38 rfl (hG.a5.1).1 (hG.a5.1).2.1 (by rw [(hG.a5.1).2.2]; exact hi) ?_
      refine r_iload_n hC dX10_build_39 rfl rfl (j := 0) rfl ?_
      exact r_retI hC hR ⟨rfl, rfl⟩ dX10_build_40 hw
    · refine r_bipush hC (v := (-2 : Int32)) dX10_build_22 rfl (by decide) ?_
      exact r_retI hC hR ⟨rfl, rfl⟩ dX10_build_24 hw
  · refine r_iconst hC (v := (-1 : Int32)) dX10_build_8 rfl (by decide) ?_
    exact r_retI hC hR ⟨rfl, rfl⟩ dX10_build_9 hw
set_option maxRecDepth 100000 in
theorem c_X10_build {l : Launch} {x : Gx} {g : Gm}  {x1 : Int32} {x2 : Int32} {I : Mm} {Post : Int32 → Mm → Prop} (hG : shM g) (hw : wp_X10_build  x1 x2 I Post) : KI l x yX10_build wsX10_build rm_X10_build g I [.ref (gA g 100), .int x1, .int x2] (fun r u => u.1 = g ∧ Post r u.2) := KI_of (by decide) rfl rfl (Nat.le_of_ble_eq_true rfl) (fun f hC _ _ hR => t_X10_build_0 hC hG hR hw)

/-! X10_missesSoFar -/
abbrev rm_X10_missesSoFar : Room := { frames := 5, cells := 0, slots := 0, locals := 111 }
theorem ci_X10_missesSoFar : CI yX10_missesSoFar wsX10_missesSoFar cX10_missesSoFar 3 (some .int) 0 := ⟨⟨_, rfl⟩, by decide, by decide, by decide +kernel⟩
def wp_X10_missesSoFar_4   (Post : Int32 → Mm → Prop) : Nat → Int32 → Int32 → Mm → Prop
  | 0, _, _, _ => False
  | nn4 + 1, x1, x2, I => if (I 100 1) ≤ x2 then (Post x1 I) else (wp_X10_playsNow x2 I (fun J2 => wp_X10_missesSoFar_4  Post nn4 (x1 + (J2 100 17)) (x2 + 1) J2))
def wp_X10_missesSoFar   (I : Mm) (Post : Int32 → Mm → Prop) : Prop := ∃ nn4, wp_X10_missesSoFar_4  Post nn4 (0 : Int32) (0 : Int32) I
set_option maxRecDepth 20000 in
theorem uw_X10_missesSoFar_10 : ∀ w ∈ u_ws RX10 TX10 30, w ∈ wsX10_missesSoFar := by decide +kernel
set_option maxRecDepth 20000 in
theorem ffg_X10_missesSoFar_68 : ∀ k ∈ ([10] : List Nat), FF wsX10_missesSoFar RX10 68 k 1 ∧ fR k 1 = false := List.forall_mem_cons.mpr ⟨⟨⟨RX10, TX10, 30, "PageDesksModel", rfl, rfl, by decide, by decide, uw_X10_missesSoFar_10, (List.mem_of_getElem? (i := 1) rfl), Or.inl rfl⟩, rfl⟩, fun _ h => absurd h List.not_mem_nil⟩
set_option maxRecDepth 20000 in
theorem ffg_X10_missesSoFar_147 : ∀ k ∈ ([10] : List Nat), FF wsX10_missesSoFar RX10 147 k 17 ∧ fR k 17 = false := List.forall_mem_cons.mpr ⟨⟨⟨RX10, TX10, 30, "PageDesksModel", rfl, rfl, by decide, by decide, uw_X10_missesSoFar_10, (List.mem_of_getElem? (i := 2) rfl), Or.inl rfl⟩, rfl⟩, fun _ h => absurd h List.not_mem_nil⟩
set_option maxRecDepth 100000 in
set_option maxHeartbeats 4000000 in
theorem t_X10_missesSoFar_4 {f : Fx} {g : Gm}  {Post : Int32 → Mm → Prop}  (hC : Cx f cX10_missesSoFar 3 RX10 wsX10_missesSoFar rm_X10_missesSoFar) (hG : shM g) (hR : RtI f cX10_missesSoFar (fun r u => u.1 = g ∧ Post r u.2))  : ∀ (nn4 : Nat) (x1 : Int32) (x2 : Int32) (I : Mm) , wp_X10_missesSoFar_4   Post nn4 x1 x2 I → PW f 0 0 g I 4 [(0, .ref (gA g 100)), (1, .int x1), (2, .int x2)] [] := by
  intro nn4
  induction nn4 with
  | zero =>
    intro x1 x2 I  hw
    exact absurd hw id
  | succ nn4 ih =>
    intro x1 x2 I  hw
    unfold wp_X10_missesSoFar_4 at hw
    refine r_iload_n hC dX10_missesSoFar_4 rfl rfl (j := 2) rfl ?_
    refine r_aload_n hC dX10_missesSoFar_5 rfl rfl (j := 0) rfl ?_
    refine r_getI hC dX10_missesSoFar_6 rfl hG.o.1 hG.o.2 ffg_X10_missesSoFar_68 ?_
    refine r_icmp_ge hC (tgt := 30) dX10_missesSoFar_9 rfl (by decide) hw (fun hw => ?_) (fun hw => ?_)
    · refine r_iload_n hC dX10_missesSoFar_30 rfl rfl (j := 1) rfl ?_
      exact r_retI hC hR ⟨rfl, rfl⟩ dX10_missesSoFar_31 hw
    · refine r_aload_n hC dX10_missesSoFar_12 rfl rfl (j := 0) rfl ?_
      refine r_iload_n hC dX10_missesSoFar_13 rfl rfl (j := 2) rfl ?_
      refine r_callV hC (a_V hC (k := 10) (c_X10_playsNow hG hw) ci_X10_playsNow gX10_missesSoFar_X10_playsNow rfl ⟨Nat.le_of_ble_eq_true rfl, Nat.le_of_ble_eq_true rfl⟩ ⟨Nat.le_of_ble_eq_true rfl, Nat.le_of_ble_eq_true rfl⟩ rfl (by decide) hG.o.1 (List.mem_singleton.mp hG.o.2) rfl rfl (Nat.le_of_ble_eq_true rfl) dX10_missesSoFar_14) ⟨rfl, rfl⟩ rfl (fun J2 hw => ?_)
      refine r_iload_n hC dX10_missesSoFar_17 rfl rfl (j := 1) rfl ?_
      refine r_aload_n hC dX10_missesSoFar_18 rfl rfl (j := 0) rfl ?_
      refine r_getI hC dX10_missesSoFar_19 rfl hG.o.1 hG.o.2 ffg_X10_missesSoFar_147 ?_
      refine r_iadd hC dX10_missesSoFar_22 rfl ?_
      refine r_istore_n hC (lv' := [(1, .int (x1 + (J2 100 17))), (0, .ref (gA g 100)), (2, .int x2)]) dX10_missesSoFar_23 rfl rfl (by decide) rfl ?_
      refine r_iinc hC (k := 1) (lv' := [(2, .int (x2 + 1)), (1, .int (x1 + (J2 100 17))), (0, .ref (gA g 100))]) dX10_missesSoFar_24 rfl (j := 2) rfl (by decide) (by decide) rfl ?_
      refine r_goto hC (tgt := 4) dX10_missesSoFar_27 (by decide) ?_
      exact r_sub (lv' := [(0, .ref (gA g 100)), (1, .int (x1 + (J2 100 17))), (2, .int (x2 + 1))]) [2, 1, 0] rfl (ih _ _ _ hw)
set_option maxRecDepth 100000 in
set_option maxHeartbeats 4000000 in
theorem t_X10_missesSoFar_0 {f : Fx} {g : Gm}  {Post : Int32 → Mm → Prop}  {I : Mm} (hC : Cx f cX10_missesSoFar 3 RX10 wsX10_missesSoFar rm_X10_missesSoFar) (hG : shM g) (hR : RtI f cX10_missesSoFar (fun r u => u.1 = g ∧ Post r u.2)) (hw : wp_X10_missesSoFar   I Post) : PW f 0 0 g I 0 [(0, .ref (gA g 100))] [] := by
  unfold wp_X10_missesSoFar at hw
  refine r_iconst hC (v := (0 : Int32)) dX10_missesSoFar_0 rfl (by decide) ?_
  refine r_istore_n hC (lv' := [(1, .int (0 : Int32)), (0, .ref (gA g 100))]) dX10_missesSoFar_1 rfl rfl (by decide) rfl ?_
  refine r_iconst hC (v := (0 : Int32)) dX10_missesSoFar_2 rfl (by decide) ?_
  refine r_istore_n hC (lv' := [(2, .int (0 : Int32)), (1, .int (0 : Int32)), (0, .ref (gA g 100))]) dX10_missesSoFar_3 rfl rfl (by decide) rfl ?_
  obtain ⟨nn4, hw⟩ := hw
  exact r_sub (lv' := [(0, .ref (gA g 100)), (1, .int (0 : Int32)), (2, .int (0 : Int32))]) [2, 1, 0] rfl ((t_X10_missesSoFar_4 hC hG hR nn4 _ _ _ hw))
set_option maxRecDepth 100000 in
theorem c_X10_missesSoFar {l : Launch} {x : Gx} {g : Gm}   {I : Mm} {Post : Int32 → Mm → Prop} (hG : shM g) (hw : wp_X10_missesSoFar   I Post) : KI l x yX10_missesSoFar wsX10_missesSoFar rm_X10_missesSoFar g I [.ref (gA g 100)] (fun r u => u.1 = g ∧ Post r u.2) := KI_of (by decide) rfl rfl (Nat.le_of_ble_eq_true rfl) (fun f hC _ _ hR => t_X10_missesSoFar_0 hC hG hR hw)

/-! X10_come -/
abbrev rm_X10_come : Room := { frames := 6, cells := 0, slots := 0, locals := 133 }
theorem ci_X10_come : CI yX10_come wsX10_come cX10_come 3 (some .int) 1 := ⟨⟨_, rfl⟩, by decide, by decide, by decide +kernel⟩
def wp_X10_come  (x1 : Int32) (I : Mm) (Post : Int32 → Mm → Prop) : Prop := wp_X10_in x1.toInt64 (1 : Int64) (24 : Int64) I (fun r1 J2 => if r1 = 0 then (Post (-2 : Int32) J2) else (if (J2 100 1) = 0 then (Post (-3 : Int32) J2) else (if ((J2 100 3) + x1) ≤ (J2 100 2) then (wp_X10_missesSoFar  J2 (fun r3 J4 => wp_X10_missesSoFar  (up2 J4 100 3 ((J4 100 3) + x1)) (fun r5 J6 => Post (r5 - r3) J6))) else (Post (-3 : Int32) J2))))
set_option maxRecDepth 20000 in
theorem uw_X10_come_10 : ∀ w ∈ u_ws RX10 TX10 30, w ∈ wsX10_come := by decide +kernel
set_option maxRecDepth 20000 in
theorem ffg_X10_come_68 : ∀ k ∈ ([10] : List Nat), FF wsX10_come RX10 68 k 1 ∧ fR k 1 = false := List.forall_mem_cons.mpr ⟨⟨⟨RX10, TX10, 30, "PageDesksModel", rfl, rfl, by decide, by decide, uw_X10_come_10, (List.mem_of_getElem? (i := 2) rfl), Or.inl rfl⟩, rfl⟩, fun _ h => absurd h List.not_mem_nil⟩
set_option maxRecDepth 20000 in
theorem ffg_X10_come_129 : ∀ k ∈ ([10] : List Nat), FF wsX10_come RX10 129 k 3 ∧ fR k 3 = false := List.forall_mem_cons.mpr ⟨⟨⟨RX10, TX10, 30, "PageDesksModel", rfl, rfl, by decide, by decide, uw_X10_come_10, (List.mem_of_getElem? (i := 3) rfl), Or.inl rfl⟩, rfl⟩, fun _ h => absurd h List.not_mem_nil⟩
set_option maxRecDepth 20000 in
theorem ffg_X10_come_75 : ∀ k ∈ ([10] : List Nat), FF wsX10_come RX10 75 k 2 ∧ fR k 2 = false := List.forall_mem_cons.mpr ⟨⟨⟨RX10, TX10, 30, "PageDesksModel", rfl, rfl, by decide, by decide, uw_X10_come_10, (List.mem_of_getElem? (i := 4) rfl), Or.inl rfl⟩, rfl⟩, fun _ h => absurd h List.not_mem_nil⟩
set_option maxRecDepth 20000 in
theorem ffp_X10_come_129 : ∀ k ∈ ([10] : List Nat), FF wsX10_come RX10 129 k 3 ∧ fR k 3 = false ∧ FP k 3 := List.forall_mem_cons.mpr ⟨⟨⟨RX10, TX10, 30, "PageDesksModel", rfl, rfl, by decide, by decide, uw_X10_come_10, (List.mem_of_getElem? (i := 3) rfl), Or.inl rfl⟩, rfl, ⟨RX10, TX10, 30, tyX10, rfl, tyX10_ok, nmX10, rfl, rfl⟩⟩, fun _ h => absurd h List.not_mem_nil⟩
set_option maxRecDepth 100000 in
set_option maxHeartbeats 4000000 in
theorem t_X10_come_0 {f : Fx} {g : Gm}  {Post : Int32 → Mm → Prop} {x1 : Int32} {I : Mm} (hC : Cx f cX10_come 3 RX10 wsX10_come rm_X10_come) (hG : shM g) (hR : RtI f cX10_come (fun r u => u.1 = g ∧ Post r u.2)) (hw : wp_X10_come  x1 I Post) : PW f 0 0 g I 0 [(0, .ref (gA g 100)), (1, .int x1)] [] := by
  unfold wp_X10_come at hw
  refine r_iload_n hC dX10_come_0 rfl rfl (j := 1) rfl ?_
  refine r_i2l hC dX10_come_1 rfl ?_
  refine r_lconst hC (v := (1 : Int64)) dX10_come_2 rfl (by decide) ?_
  refine r_ldc2 hC (v := (24 : Int64)) dX10_come_3 rfl (List.mem_of_getElem? (i := 1) rfl) ?_
  refine r_callI hC (a_S hC (c_X10_in  hw) ci_X10_in gX10_come_X10_in ⟨Nat.le_of_ble_eq_true rfl, Nat.le_of_ble_eq_true rfl⟩ ⟨Nat.le_of_ble_eq_true rfl, Nat.le_of_ble_eq_true rfl⟩ rfl rfl (Nat.le_of_ble_eq_true rfl) dX10_come_6) ⟨rfl, rfl⟩ rfl (fun r1 J2 hw => ?_)
  refine r_if_ne hC (tgt := 15) dX10_come_9 rfl (by decide) hw (fun hw => ?_) (fun hw => ?_)
  · refine r_aload_n hC dX10_come_15 rfl rfl (j := 0) rfl ?_
    refine r_getI hC dX10_come_16 rfl hG.o.1 hG.o.2 ffg_X10_come_68 ?_
    refine r_if_eq hC (tgt := 35) dX10_come_19 rfl (by decide) hw (fun hw => ?_) (fun hw => ?_)
    · refine r_bipush hC (v := (-3 : Int32)) dX10_come_35 rfl (by decide) ?_
      exact r_retI hC hR ⟨rfl, rfl⟩ dX10_come_37 hw
    · refine r_aload_n hC dX10_come_22 rfl rfl (j := 0) rfl ?_
      refine r_getI hC dX10_come_23 rfl hG.o.1 hG.o.2 ffg_X10_come_129 ?_
      refine r_iload_n hC dX10_come_26 rfl rfl (j := 1) rfl ?_
      refine r_iadd hC dX10_come_27 rfl ?_
      refine r_aload_n hC dX10_come_28 rfl rfl (j := 0) rfl ?_
      refine r_getI hC dX10_come_29 rfl hG.o.1 hG.o.2 ffg_X10_come_75 ?_
      refine r_icmp_le hC (tgt := 38) dX10_come_32 rfl (by decide) hw (fun hw => ?_) (fun hw => ?_)
      · refine r_aload_n hC dX10_come_38 rfl rfl (j := 0) rfl ?_
        refine r_callI hC (a_V hC (k := 10) (c_X10_missesSoFar hG hw) ci_X10_missesSoFar gX10_come_X10_missesSoFar rfl ⟨Nat.le_of_ble_eq_true rfl, Nat.le_of_ble_eq_true rfl⟩ ⟨Nat.le_of_ble_eq_true rfl, Nat.le_of_ble_eq_true rfl⟩ rfl (by decide) hG.o.1 (List.mem_singleton.mp hG.o.2) rfl rfl (Nat.le_of_ble_eq_true rfl) dX10_come_39) ⟨rfl, rfl⟩ rfl (fun r3 J4 hw => ?_)
        refine r_istore_n hC (lv' := [(2, .int r3), (0, .ref (gA g 100)), (1, .int x1)]) dX10_come_42 rfl rfl (by decide) rfl ?_
        refine r_aload_n hC dX10_come_43 rfl rfl (j := 1) rfl ?_
        refine r_dup hC dX10_come_44 rfl rfl ?_
        refine r_getI hC dX10_come_45 rfl hG.o.1 hG.o.2 ffg_X10_come_129 ?_
        refine r_iload_n hC dX10_come_48 rfl rfl (j := 2) rfl ?_
        refine r_iadd hC dX10_come_49 rfl ?_
        refine r_putI hC dX10_come_50 rfl hG.o.1 hG.o.2 ffp_X10_come_129 ?_
        refine r_aload_n hC dX10_come_53 rfl rfl (j := 1) rfl ?_
        refine r_callI hC (a_V hC (k := 10) (c_X10_missesSoFar hG hw) ci_X10_missesSoFar gX10_come_X10_missesSoFar rfl ⟨Nat.le_of_ble_eq_true rfl, Nat.le_of_ble_eq_true rfl⟩ ⟨Nat.le_of_ble_eq_true rfl, Nat.le_of_ble_eq_true rfl⟩ rfl (by decide) hG.o.1 (List.mem_singleton.mp hG.o.2) rfl rfl (Nat.le_of_ble_eq_true rfl) dX10_come_54) ⟨rfl, rfl⟩ rfl (fun r5 J6 hw => ?_)
        refine r_iload_n hC dX10_come_57 rfl rfl (j := 0) rfl ?_
        refine r_isub hC dX10_come_58 rfl ?_
        exact r_retI hC hR ⟨rfl, rfl⟩ dX10_come_59 hw
      · refine r_bipush hC (v := (-3 : Int32)) dX10_come_35 rfl (by decide) ?_
        exact r_retI hC hR ⟨rfl, rfl⟩ dX10_come_37 hw
  · refine r_bipush hC (v := (-2 : Int32)) dX10_come_12 rfl (by decide) ?_
    exact r_retI hC hR ⟨rfl, rfl⟩ dX10_come_14 hw
set_option maxRecDepth 100000 in
theorem c_X10_come {l : Launch} {x : Gx} {g : Gm}  {x1 : Int32} {I : Mm} {Post : Int32 → Mm → Prop} (hG : shM g) (hw : wp_X10_come  x1 I Post) : KI l x yX10_come wsX10_come rm_X10_come g I [.ref (gA g 100), .int x1] (fun r u => u.1 = g ∧ Post r u.2) := KI_of (by decide) rfl rfl (Nat.le_of_ble_eq_true rfl) (fun f hC _ _ hR => t_X10_come_0 hC hG hR hw)

/-! X10_anew -/
abbrev rm_X10_anew : Room := { frames := 0, cells := 0, slots := 0, locals := 0 }
theorem ci_X10_anew : CI yX10_anew wsX10_anew cX10_anew 2 (some .int) 0 := ⟨⟨_, rfl⟩, by decide, by decide, by decide +kernel⟩
def wp_X10_anew   (I : Mm) (Post : Int32 → Mm → Prop) : Prop := if (I 100 1) = 0 then (Post (-3 : Int32) I) else (Post (I 100 3) (up2 I 100 3 (0 : Int32)))
set_option maxRecDepth 20000 in
theorem uw_X10_anew_10 : ∀ w ∈ u_ws RX10 TX10 30, w ∈ wsX10_anew := by decide +kernel
set_option maxRecDepth 20000 in
theorem ffg_X10_anew_68 : ∀ k ∈ ([10] : List Nat), FF wsX10_anew RX10 68 k 1 ∧ fR k 1 = false := List.forall_mem_cons.mpr ⟨⟨⟨RX10, TX10, 30, "PageDesksModel", rfl, rfl, by decide, by decide, uw_X10_anew_10, (List.mem_of_getElem? (i := 1) rfl), Or.inl rfl⟩, rfl⟩, fun _ h => absurd h List.not_mem_nil⟩
set_option maxRecDepth 20000 in
theorem ffg_X10_anew_129 : ∀ k ∈ ([10] : List Nat), FF wsX10_anew RX10 129 k 3 ∧ fR k 3 = false := List.forall_mem_cons.mpr ⟨⟨⟨RX10, TX10, 30, "PageDesksModel", rfl, rfl, by decide, by decide, uw_X10_anew_10, (List.mem_of_getElem? (i := 2) rfl), Or.inl rfl⟩, rfl⟩, fun _ h => absurd h List.not_mem_nil⟩
set_option maxRecDepth 20000 in
theorem ffp_X10_anew_129 : ∀ k ∈ ([10] : List Nat), FF wsX10_anew RX10 129 k 3 ∧ fR k 3 = false ∧ FP k 3 := List.forall_mem_cons.mpr ⟨⟨⟨RX10, TX10, 30, "PageDesksModel", rfl, rfl, by decide, by decide, uw_X10_anew_10, (List.mem_of_getElem? (i := 2) rfl), Or.inl rfl⟩, rfl, ⟨RX10, TX10, 30, tyX10, rfl, tyX10_ok, nmX10, rfl, rfl⟩⟩, fun _ h => absurd h List.not_mem_nil⟩
set_option maxRecDepth 100000 in
set_option maxHeartbeats 4000000 in
theorem t_X10_anew_0 {f : Fx} {g : Gm}  {Post : Int32 → Mm → Prop}  {I : Mm} (hC : Cx f cX10_anew 2 RX10 wsX10_anew rm_X10_anew) (hG : shM g) (hR : RtI f cX10_anew (fun r u => u.1 = g ∧ Post r u.2)) (hw : wp_X10_anew   I Post) : PW f 0 0 g I 0 [(0, .ref (gA g 100))] [] := by
  unfold wp_X10_anew at hw
  refine r_aload_n hC dX10_anew_0 rfl rfl (j := 0) rfl ?_
  refine r_getI hC dX10_anew_1 rfl hG.o.1 hG.o.2 ffg_X10_anew_68 ?_
  refine r_if_ne hC (tgt := 10) dX10_anew_4 rfl (by decide) hw (fun hw => ?_) (fun hw => ?_)
  · refine r_aload_n hC dX10_anew_10 rfl rfl (j := 0) rfl ?_
    refine r_getI hC dX10_anew_11 rfl hG.o.1 hG.o.2 ffg_X10_anew_129 ?_
    refine r_istore_n hC (lv' := [(1, .int (I 100 3)), (0, .ref (gA g 100))]) dX10_anew_14 rfl rfl (by decide) rfl ?_
    refine r_aload_n hC dX10_anew_15 rfl rfl (j := 1) rfl ?_
    refine r_iconst hC (v := (0 : Int32)) dX10_anew_16 rfl (by decide) ?_
    refine r_putI hC dX10_anew_17 rfl hG.o.1 hG.o.2 ffp_X10_anew_129 ?_
    refine r_iload_n hC dX10_anew_20 rfl rfl (j := 0) rfl ?_
    exact r_retI hC hR ⟨rfl, rfl⟩ dX10_anew_21 hw
  · refine r_bipush hC (v := (-3 : Int32)) dX10_anew_7 rfl (by decide) ?_
    exact r_retI hC hR ⟨rfl, rfl⟩ dX10_anew_9 hw
set_option maxRecDepth 100000 in
theorem c_X10_anew {l : Launch} {x : Gx} {g : Gm}   {I : Mm} {Post : Int32 → Mm → Prop} (hG : shM g) (hw : wp_X10_anew   I Post) : KI l x yX10_anew wsX10_anew rm_X10_anew g I [.ref (gA g 100)] (fun r u => u.1 = g ∧ Post r u.2) := KI_of (by decide) rfl rfl (Nat.le_of_ble_eq_true rfl) (fun f hC _ _ hR => t_X10_anew_0 hC hG hR hw)

/-! X10_ask -/
abbrev rm_X10_ask : Room := { frames := 2, cells := 0, slots := 0, locals := 45 }
theorem ci_X10_ask : CI yX10_ask wsX10_ask cX10_ask 2 (some .int) 1 := ⟨⟨_, rfl⟩, by decide, by decide, by decide +kernel⟩
def wp_X10_ask  (x1 : Int32) (I : Mm) (Post : Int32 → Mm → Prop) : Prop := if (I 100 1) = 0 then (Post (-3 : Int32) I) else (wp_X10_isPage x1 I (fun r1 J2 => if r1 = 0 then (Post (-2 : Int32) J2) else (if (J2 100 2) = (24 : Int32) then (Post (-4 : Int32) J2) else (vp_in (J2 100 2) 24 ∧ (Post ((up2 (up2 J2 106 (J2 100 2).toNatClampNeg x1) 100 2 (((up2 J2 106 (J2 100 2).toNatClampNeg x1) 100 2) + (1 : Int32))) 100 2) (up2 (up2 J2 106 (J2 100 2).toNatClampNeg x1) 100 2 (((up2 J2 106 (J2 100 2).toNatClampNeg x1) 100 2) + (1 : Int32))))))))
set_option maxRecDepth 20000 in
theorem uw_X10_ask_10 : ∀ w ∈ u_ws RX10 TX10 30, w ∈ wsX10_ask := by decide +kernel
set_option maxRecDepth 20000 in
theorem ffg_X10_ask_68 : ∀ k ∈ ([10] : List Nat), FF wsX10_ask RX10 68 k 1 ∧ fR k 1 = false := List.forall_mem_cons.mpr ⟨⟨⟨RX10, TX10, 30, "PageDesksModel", rfl, rfl, by decide, by decide, uw_X10_ask_10, (List.mem_of_getElem? (i := 1) rfl), Or.inl rfl⟩, rfl⟩, fun _ h => absurd h List.not_mem_nil⟩
set_option maxRecDepth 20000 in
theorem ffg_X10_ask_75 : ∀ k ∈ ([10] : List Nat), FF wsX10_ask RX10 75 k 2 ∧ fR k 2 = false := List.forall_mem_cons.mpr ⟨⟨⟨RX10, TX10, 30, "PageDesksModel", rfl, rfl, by decide, by decide, uw_X10_ask_10, (List.mem_of_getElem? (i := 2) rfl), Or.inl rfl⟩, rfl⟩, fun _ h => absurd h List.not_mem_nil⟩
set_option maxRecDepth 20000 in
theorem ffg_X10_ask_16 : ∀ k ∈ ([10] : List Nat), FF wsX10_ask RX10 16 k 6 ∧ fR k 6 = true := List.forall_mem_cons.mpr ⟨⟨⟨RX10, TX10, 30, "PageDesksModel", rfl, rfl, by decide, by decide, uw_X10_ask_10, (List.mem_of_getElem? (i := 3) rfl), Or.inl rfl⟩, rfl⟩, fun _ h => absurd h List.not_mem_nil⟩
set_option maxRecDepth 20000 in
theorem ffp_X10_ask_75 : ∀ k ∈ ([10] : List Nat), FF wsX10_ask RX10 75 k 2 ∧ fR k 2 = false ∧ FP k 2 := List.forall_mem_cons.mpr ⟨⟨⟨RX10, TX10, 30, "PageDesksModel", rfl, rfl, by decide, by decide, uw_X10_ask_10, (List.mem_of_getElem? (i := 2) rfl), Or.inl rfl⟩, rfl, ⟨RX10, TX10, 30, tyX10, rfl, tyX10_ok, nmX10, rfl, rfl⟩⟩, fun _ h => absurd h List.not_mem_nil⟩
set_option maxRecDepth 100000 in
set_option maxHeartbeats 4000000 in
theorem t_X10_ask_0 {f : Fx} {g : Gm}  {Post : Int32 → Mm → Prop} {x1 : Int32} {I : Mm} (hC : Cx f cX10_ask 2 RX10 wsX10_ask rm_X10_ask) (hG : shM g) (hR : RtI f cX10_ask (fun r u => u.1 = g ∧ Post r u.2)) (hw : wp_X10_ask  x1 I Post) : PW f 0 0 g I 0 [(0, .ref (gA g 100)), (1, .int x1)] [] := by
  unfold wp_X10_ask at hw
  refine r_aload_n hC dX10_ask_0 rfl rfl (j := 0) rfl ?_
  refine r_getI hC dX10_ask_1 rfl hG.o.1 hG.o.2 ffg_X10_ask_68 ?_
  refine r_if_ne hC (tgt := 10) dX10_ask_4 rfl (by decide) hw (fun hw => ?_) (fun hw => ?_)
  · refine r_iload_n hC dX10_ask_10 rfl rfl (j := 1) rfl ?_
    refine r_callI hC (a_S hC (c_X10_isPage  hw) ci_X10_isPage gX10_ask_X10_isPage ⟨Nat.le_of_ble_eq_true rfl, Nat.le_of_ble_eq_true rfl⟩ ⟨Nat.le_of_ble_eq_true rfl, Nat.le_of_ble_eq_true rfl⟩ rfl rfl (Nat.le_of_ble_eq_true rfl) dX10_ask_11) ⟨rfl, rfl⟩ rfl (fun r1 J2 hw => ?_)
    refine r_if_ne hC (tgt := 20) dX10_ask_14 rfl (by decide) hw (fun hw => ?_) (fun hw => ?_)
    · refine r_aload_n hC dX10_ask_20 rfl rfl (j := 0) rfl ?_
      refine r_getI hC dX10_ask_21 rfl hG.o.1 hG.o.2 ffg_X10_ask_75 ?_
      refine r_bipush hC (v := (24 : Int32)) dX10_ask_24 rfl (by decide) ?_
      refine r_icmp_ne hC (tgt := 32) dX10_ask_26 rfl (by decide) hw (fun hw => ?_) (fun hw => ?_)
      · refine r_aload_n hC dX10_ask_32 rfl rfl (j := 0) rfl ?_
        refine r_getR hC dX10_ask_33 rfl hG.o.1 hG.o.2 ffg_X10_ask_16 hG.a6.2 ?_
        refine r_aload_n hC dX10_ask_36 rfl rfl (j := 0) rfl ?_
        refine r_getI hC dX10_ask_37 rfl hG.o.1 hG.o.2 ffg_X10_ask_75 ?_
        refine r_iload_n hC dX10_ask_40 rfl rfl (j := 1) rfl ?_
        obtain ⟨hi, hw⟩ := hw
        refine r_iast hC dX10_ask_41 rfl (hG.a6.1).1 (hG.a6.1).2.1 (by rw [(hG.a6.1).2.2]; exact hi) ?_
        refine r_aload_n hC dX10_ask_42 rfl rfl (j := 0) rfl ?_
        refine r_dup hC dX10_ask_43 rfl rfl ?_
        refine r_getI hC dX10_ask_44 rfl hG.o.1 hG.o.2 ffg_X10_ask_75 ?_
        refine r_iconst hC (v := (1 : Int32)) dX10_ask_47 rfl (by decide) ?_
        refine r_iadd hC dX10_ask_48 rfl ?_
        refine r_putI hC dX10_ask_49 rfl hG.o.1 hG.o.2 ffp_X10_ask_75 ?_
        refine r_aload_n hC dX10_ask_52 rfl rfl (j := 0) rfl ?_
        refine r_getI hC dX10_ask_53 rfl hG.o.1 hG.o.2 ffg_X10_ask_75 ?_
        exact r_retI hC hR ⟨rfl, rfl⟩ dX10_ask_56 hw
      · refine r_bipush hC (v := (-4 : Int32)) dX10_ask_29 rfl (by decide) ?_
        exact r_retI hC hR ⟨rfl, rfl⟩ dX10_ask_31 hw
    · refine r_bipush hC (v := (-2 : Int32)) dX10_ask_17 rfl (by decide) ?_
      exact r_retI hC hR ⟨rfl, rfl⟩ dX10_ask_19 hw
  · refine r_bipush hC (v := (-3 : Int32)) dX10_ask_7 rfl (by decide) ?_
    exact r_retI hC hR ⟨rfl, rfl⟩ dX10_ask_9 hw
set_option maxRecDepth 100000 in
theorem c_X10_ask {l : Launch} {x : Gx} {g : Gm}  {x1 : Int32} {I : Mm} {Post : Int32 → Mm → Prop} (hG : shM g) (hw : wp_X10_ask  x1 I Post) : KI l x yX10_ask wsX10_ask rm_X10_ask g I [.ref (gA g 100), .int x1] (fun r u => u.1 = g ∧ Post r u.2) := KI_of (by decide) rfl rfl (Nat.le_of_ble_eq_true rfl) (fun f hC _ _ hR => t_X10_ask_0 hC hG hR hw)

/-! X10_drop -/
abbrev rm_X10_drop : Room := { frames := 0, cells := 0, slots := 0, locals := 0 }
theorem ci_X10_drop : CI yX10_drop wsX10_drop cX10_drop 1 (some .int) 0 := ⟨⟨_, rfl⟩, by decide, by decide, by decide +kernel⟩
def wp_X10_drop   (I : Mm) (Post : Int32 → Mm → Prop) : Prop := if (I 100 1) = 0 then (Post (-3 : Int32) I) else (if (I 100 3) = (I 100 2) then (Post (-3 : Int32) I) else (if (I 100 2) = (1 : Int32) then (Post (-3 : Int32) I) else (vp_in ((up2 (up2 I 100 2 ((I 100 2) - (1 : Int32))) 100 21 (0 : Int32)) 100 2) 24 ∧ (Post ((up2 (up2 I 100 2 ((I 100 2) - (1 : Int32))) 100 21 (0 : Int32)) 106 ((up2 (up2 I 100 2 ((I 100 2) - (1 : Int32))) 100 21 (0 : Int32)) 100 2).toNatClampNeg) (up2 (up2 I 100 2 ((I 100 2) - (1 : Int32))) 100 21 (0 : Int32))))))
set_option maxRecDepth 20000 in
theorem uw_X10_drop_10 : ∀ w ∈ u_ws RX10 TX10 30, w ∈ wsX10_drop := by decide +kernel
set_option maxRecDepth 20000 in
theorem ffg_X10_drop_68 : ∀ k ∈ ([10] : List Nat), FF wsX10_drop RX10 68 k 1 ∧ fR k 1 = false := List.forall_mem_cons.mpr ⟨⟨⟨RX10, TX10, 30, "PageDesksModel", rfl, rfl, by decide, by decide, uw_X10_drop_10, (List.mem_of_getElem? (i := 1) rfl), Or.inl rfl⟩, rfl⟩, fun _ h => absurd h List.not_mem_nil⟩
set_option maxRecDepth 20000 in
theorem ffg_X10_drop_129 : ∀ k ∈ ([10] : List Nat), FF wsX10_drop RX10 129 k 3 ∧ fR k 3 = false := List.forall_mem_cons.mpr ⟨⟨⟨RX10, TX10, 30, "PageDesksModel", rfl, rfl, by decide, by decide, uw_X10_drop_10, (List.mem_of_getElem? (i := 2) rfl), Or.inl rfl⟩, rfl⟩, fun _ h => absurd h List.not_mem_nil⟩
set_option maxRecDepth 20000 in
theorem ffg_X10_drop_75 : ∀ k ∈ ([10] : List Nat), FF wsX10_drop RX10 75 k 2 ∧ fR k 2 = false := List.forall_mem_cons.mpr ⟨⟨⟨RX10, TX10, 30, "PageDesksModel", rfl, rfl, by decide, by decide, uw_X10_drop_10, (List.mem_of_getElem? (i := 3) rfl), Or.inl rfl⟩, rfl⟩, fun _ h => absurd h List.not_mem_nil⟩
set_option maxRecDepth 20000 in
theorem ffp_X10_drop_75 : ∀ k ∈ ([10] : List Nat), FF wsX10_drop RX10 75 k 2 ∧ fR k 2 = false ∧ FP k 2 := List.forall_mem_cons.mpr ⟨⟨⟨RX10, TX10, 30, "PageDesksModel", rfl, rfl, by decide, by decide, uw_X10_drop_10, (List.mem_of_getElem? (i := 3) rfl), Or.inl rfl⟩, rfl, ⟨RX10, TX10, 30, tyX10, rfl, tyX10_ok, nmX10, rfl, rfl⟩⟩, fun _ h => absurd h List.not_mem_nil⟩
set_option maxRecDepth 20000 in
theorem ffp_X10_drop_132 : ∀ k ∈ ([10] : List Nat), FF wsX10_drop RX10 132 k 21 ∧ fR k 21 = false ∧ FP k 21 := List.forall_mem_cons.mpr ⟨⟨⟨RX10, TX10, 30, "PageDesksModel", rfl, rfl, by decide, by decide, uw_X10_drop_10, (List.mem_of_getElem? (i := 4) rfl), Or.inl rfl⟩, rfl, ⟨RX10, TX10, 30, tyX10, rfl, tyX10_ok, nmX10, rfl, rfl⟩⟩, fun _ h => absurd h List.not_mem_nil⟩
set_option maxRecDepth 20000 in
theorem ffg_X10_drop_16 : ∀ k ∈ ([10] : List Nat), FF wsX10_drop RX10 16 k 6 ∧ fR k 6 = true := List.forall_mem_cons.mpr ⟨⟨⟨RX10, TX10, 30, "PageDesksModel", rfl, rfl, by decide, by decide, uw_X10_drop_10, (List.mem_of_getElem? (i := 5) rfl), Or.inl rfl⟩, rfl⟩, fun _ h => absurd h List.not_mem_nil⟩
set_option maxRecDepth 100000 in
set_option maxHeartbeats 4000000 in
theorem t_X10_drop_0 {f : Fx} {g : Gm}  {Post : Int32 → Mm → Prop}  {I : Mm} (hC : Cx f cX10_drop 1 RX10 wsX10_drop rm_X10_drop) (hG : shM g) (hR : RtI f cX10_drop (fun r u => u.1 = g ∧ Post r u.2)) (hw : wp_X10_drop   I Post) : PW f 0 0 g I 0 [(0, .ref (gA g 100))] [] := by
  unfold wp_X10_drop at hw
  refine r_aload_n hC dX10_drop_0 rfl rfl (j := 0) rfl ?_
  refine r_getI hC dX10_drop_1 rfl hG.o.1 hG.o.2 ffg_X10_drop_68 ?_
  refine r_if_eq hC (tgt := 26) dX10_drop_4 rfl (by decide) hw (fun hw => ?_) (fun hw => ?_)
  · refine r_bipush hC (v := (-3 : Int32)) dX10_drop_26 rfl (by decide) ?_
    exact r_retI hC hR ⟨rfl, rfl⟩ dX10_drop_28 hw
  · refine r_aload_n hC dX10_drop_7 rfl rfl (j := 0) rfl ?_
    refine r_getI hC dX10_drop_8 rfl hG.o.1 hG.o.2 ffg_X10_drop_129 ?_
    refine r_aload_n hC dX10_drop_11 rfl rfl (j := 0) rfl ?_
    refine r_getI hC dX10_drop_12 rfl hG.o.1 hG.o.2 ffg_X10_drop_75 ?_
    refine r_icmp_eq hC (tgt := 26) dX10_drop_15 rfl (by decide) hw (fun hw => ?_) (fun hw => ?_)
    · refine r_bipush hC (v := (-3 : Int32)) dX10_drop_26 rfl (by decide) ?_
      exact r_retI hC hR ⟨rfl, rfl⟩ dX10_drop_28 hw
    · refine r_aload_n hC dX10_drop_18 rfl rfl (j := 0) rfl ?_
      refine r_getI hC dX10_drop_19 rfl hG.o.1 hG.o.2 ffg_X10_drop_75 ?_
      refine r_iconst hC (v := (1 : Int32)) dX10_drop_22 rfl (by decide) ?_
      refine r_icmp_ne hC (tgt := 29) dX10_drop_23 rfl (by decide) hw (fun hw => ?_) (fun hw => ?_)
      · refine r_aload_n hC dX10_drop_29 rfl rfl (j := 0) rfl ?_
        refine r_dup hC dX10_drop_30 rfl rfl ?_
        refine r_getI hC dX10_drop_31 rfl hG.o.1 hG.o.2 ffg_X10_drop_75 ?_
        refine r_iconst hC (v := (1 : Int32)) dX10_drop_34 rfl (by decide) ?_
        refine r_isub hC dX10_drop_35 rfl ?_
        refine r_putI hC dX10_drop_36 rfl hG.o.1 hG.o.2 ffp_X10_drop_75 ?_
        refine r_aload_n hC dX10_drop_39 rfl rfl (j := 0) rfl ?_
        refine r_iconst hC (v := (0 : Int32)) dX10_drop_40 rfl (by decide) ?_
        refine r_putI hC dX10_drop_41 rfl hG.o.1 hG.o.2 ffp_X10_drop_132 ?_
        refine r_aload_n hC dX10_drop_44 rfl rfl (j := 0) rfl ?_
        refine r_getR hC dX10_drop_45 rfl hG.o.1 hG.o.2 ffg_X10_drop_16 hG.a6.2 ?_
        refine r_aload_n hC dX10_drop_48 rfl rfl (j := 0) rfl ?_
        refine r_getI hC dX10_drop_49 rfl hG.o.1 hG.o.2 ffg_X10_drop_75 ?_
        obtain ⟨hi, hw⟩ := hw
        refine r_iald hC dX10_drop_52 rfl (hG.a6.1).1 (hG.a6.1).2.1 (by rw [(hG.a6.1).2.2]; exact hi) ?_
        exact r_retI hC hR ⟨rfl, rfl⟩ dX10_drop_53 hw
      · refine r_bipush hC (v := (-3 : Int32)) dX10_drop_26 rfl (by decide) ?_
        exact r_retI hC hR ⟨rfl, rfl⟩ dX10_drop_28 hw
set_option maxRecDepth 100000 in
theorem c_X10_drop {l : Launch} {x : Gx} {g : Gm}   {I : Mm} {Post : Int32 → Mm → Prop} (hG : shM g) (hw : wp_X10_drop   I Post) : KI l x yX10_drop wsX10_drop rm_X10_drop g I [.ref (gA g 100)] (fun r u => u.1 = g ∧ Post r u.2) := KI_of (by decide) rfl rfl (Nat.le_of_ble_eq_true rfl) (fun f hC _ _ hR => t_X10_drop_0 hC hG hR hw)

/-! X10_tale -/
abbrev rm_X10_tale : Room := { frames := 5, cells := 0, slots := 0, locals := 111 }
theorem ci_X10_tale : CI yX10_tale wsX10_tale cX10_tale 13 (some .int) 6 := ⟨⟨_, rfl⟩, by decide, by decide, by decide +kernel⟩
def wp_X10_tale_16   (Post : Int32 → Mm → Prop)  (I : Mm) : Prop := wp_X10_refused (-1 : Int32) I (fun r13 J14 => Post r13 J14)
def wp_X10_tale_60   (Post : Int32 → Mm → Prop)  (I : Mm) : Prop := wp_X10_refused (-2 : Int32) I (fun r15 J16 => Post r15 J16)
def wp_X10_tale_98  (K121 : Mm → Prop) (K134 : Int32 → Int32 → Int32 → Int32 → Mm → Prop) (Post : Int32 → Mm → Prop) : Nat → Int32 → Int32 → Int32 → Int32 → Int32 → Mm → Prop
  | 0, _, _, _, _, _, _ => False
  | nn98 + 1, x4, x5, x6, x8, x9, I => if x4 ≤ x9 then (K134 x4 x5 x6 x8 I) else (vp_in (x8 + x9) 240 ∧ (wp_X10_isPage (I 127 (x8 + x9).toNatClampNeg) I (fun r21 J22 => if r21 = 0 then (K121  J22) else (wp_X10_tale_98 K121 K134 Post nn98 x4 x5 x6 x8 (x9 + 1) J22))))
def wp_X10_tale_121   (Post : Int32 → Mm → Prop)  (I : Mm) : Prop := wp_X10_refused (-2 : Int32) I (fun r17 J18 => Post r17 J18)
def wp_X10_tale_193  (Kb : Int32 → Int32 → Int32 → Int32 → Int32 → Int32 → Mm → Prop) (K201 : Int32 → Int32 → Int32 → Mm → Prop) (Post : Int32 → Mm → Prop) (x4 : Int32) (x6 : Int32) (x8 : Int32) (x9 : Int32) (x11 : Int32) (s0 : Int32) (I : Mm) : Prop := Kb x4 x6 x8 x9 s0 (x11 + 1) I
def wp_X10_tale_191  (Kb : Int32 → Int32 → Int32 → Int32 → Int32 → Int32 → Mm → Prop) (K201 : Int32 → Int32 → Int32 → Mm → Prop) (Post : Int32 → Mm → Prop) (x4 : Int32) (x6 : Int32) (x8 : Int32) (x9 : Int32) (x10 : Int32) (x11 : Int32) (I : Mm) : Prop := wp_X10_tale_193 Kb K201 Post x4 x6 x8 x9 x11 x10 I
def wp_X10_tale_153  (K201 : Int32 → Int32 → Int32 → Mm → Prop) (Post : Int32 → Mm → Prop) : Nat → Int32 → Int32 → Int32 → Int32 → Int32 → Int32 → Mm → Prop
  | 0, _, _, _, _, _, _, _ => False
  | nn153 + 1, x4, x6, x8, x9, x10, x11, I => if x4 ≤ x11 then (K201 x6 x9 x10 I) else (vp_in (x8 + x11) 240 ∧ (wp_X10_plays (I 127 (x8 + x11).toNatClampNeg) I (fun r27 J28 => if r27 = 0 then (wp_X10_tale_191 (fun x4 x6 x8 x9 x10 x11 I => wp_X10_tale_153 K201 Post nn153 x4 x6 x8 x9 x10 x11 I) K201 Post x4 x6 x8 x9 x10 x11 J28) else (if 0 ≤ x10 then (wp_X10_tale_191 (fun x4 x6 x8 x9 x10 x11 I => wp_X10_tale_153 K201 Post nn153 x4 x6 x8 x9 x10 x11 I) K201 Post x4 x6 x8 x9 x10 x11 J28) else (wp_X10_tale_193 (fun x4 x6 x8 x9 x10 x11 I => wp_X10_tale_153 K201 Post nn153 x4 x6 x8 x9 x10 x11 I) K201 Post x4 x6 x8 x9 x11 x11 J28)))))
def wp_X10_tale_258   (Post : Int32 → Mm → Prop) (s0 : Int32) (I : Mm) : Prop := wp_X10_refused s0 I (fun r29 J30 => Post r29 J30)
def wp_X10_tale_201   (Post : Int32 → Mm → Prop) (x6 : Int32) (x9 : Int32) (x10 : Int32) (I : Mm) : Prop := if x6 = 0 then (wp_X10_tale_258  Post ((I 100 17) - x9) I) else (if x6 = (1 : Int32) then (wp_X10_playSet  I (fun r25 J26 => wp_X10_tale_258  Post r25 J26)) else (if x6 = (2 : Int32) then (wp_X10_wouldGo  I (fun r23 J24 => wp_X10_tale_258  Post r23 J24)) else (if x6 = (3 : Int32) then (wp_X10_tale_258  Post (I 100 16) I) else (wp_X10_tale_258  Post x10 I))))
def wp_X10_tale_134   (Post : Int32 → Mm → Prop) (x4 : Int32) (x5 : Int32) (x6 : Int32) (x8 : Int32) (I : Mm) : Prop := wp_X10_playsNow x5 I (fun J20 => ∃ nn153, wp_X10_tale_153 (fun x6 x9 x10 I => wp_X10_tale_201  Post x6 x9 x10 I) Post nn153 x4 x6 x8 (J20 100 17) (-9 : Int32) (0 : Int32) J20)
def wp_X10_tale  (x1 : Int32) (x2 : Int32) (x3 : Int32) (x4 : Int32) (x5 : Int32) (x6 : Int32) (I : Mm) (Post : Int32 → Mm → Prop) : Prop := wp_X10_noSheet x1 I (fun r1 J2 => if r1 = 0 then (wp_X10_noDesk x5 J2 (fun r3 J4 => if r3 = 0 then (wp_X10_in x2.toInt64 (0 : Int64) (2 : Int64) J4 (fun r5 J6 => if r5 = 0 then (wp_X10_tale_60  Post  J6) else (wp_X10_in x4.toInt64 (0 : Int64) (20 : Int64) J6 (fun r7 J8 => if r7 = 0 then (wp_X10_tale_60  Post  J8) else (wp_X10_in x6.toInt64 (0 : Int64) (4 : Int64) J8 (fun r9 J10 => if r9 = 0 then (wp_X10_tale_60  Post  J10) else (wp_X10_cellsBarred x1 x2 x3 x4.toInt64 J10 (fun r11 J12 => if 0 ≤ r11 then (∃ nn98, wp_X10_tale_98 (fun I => wp_X10_tale_121  Post  I) (fun x4 x5 x6 x8 I => wp_X10_tale_134  Post x4 x5 x6 x8 I) Post nn98 x4 x5 x6 (((60 : Int32) * x1) + x3) (0 : Int32) J12) else (Post r11 J12))))))))) else (wp_X10_tale_16  Post  J4))) else (wp_X10_tale_16  Post  J2))
set_option maxRecDepth 20000 in
theorem uw_X10_tale_10 : ∀ w ∈ u_ws RX10 TX10 30, w ∈ wsX10_tale := by decide +kernel
set_option maxRecDepth 20000 in
theorem ffg_X10_tale_147 : ∀ k ∈ ([10] : List Nat), FF wsX10_tale RX10 147 k 17 ∧ fR k 17 = false := List.forall_mem_cons.mpr ⟨⟨⟨RX10, TX10, 30, "PageDesksModel", rfl, rfl, by decide, by decide, uw_X10_tale_10, (List.mem_of_getElem? (i := 5) rfl), Or.inl rfl⟩, rfl⟩, fun _ h => absurd h List.not_mem_nil⟩
set_option maxRecDepth 20000 in
theorem ffg_X10_tale_52 : ∀ k ∈ ([10] : List Nat), FF wsX10_tale RX10 52 k 27 ∧ fR k 27 = true := List.forall_mem_cons.mpr ⟨⟨⟨RX10, TX10, 30, "PageDesksModel", rfl, rfl, by decide, by decide, uw_X10_tale_10, (List.mem_of_getElem? (i := 4) rfl), Or.inl rfl⟩, rfl⟩, fun _ h => absurd h List.not_mem_nil⟩
set_option maxRecDepth 20000 in
theorem ffg_X10_tale_144 : ∀ k ∈ ([10] : List Nat), FF wsX10_tale RX10 144 k 16 ∧ fR k 16 = false := List.forall_mem_cons.mpr ⟨⟨⟨RX10, TX10, 30, "PageDesksModel", rfl, rfl, by decide, by decide, uw_X10_tale_10, (List.mem_of_getElem? (i := 6) rfl), Or.inl rfl⟩, rfl⟩, fun _ h => absurd h List.not_mem_nil⟩
set_option maxRecDepth 100000 in
set_option maxHeartbeats 4000000 in
theorem t_X10_tale_16 {f : Fx} {g : Gm}  {Post : Int32 → Mm → Prop}  (hC : Cx f cX10_tale 13 RX10 wsX10_tale rm_X10_tale) (hG : shM g) (hR : RtI f cX10_tale (fun r u => u.1 = g ∧ Post r u.2))  : ∀  (I : Mm) , wp_X10_tale_16   Post  I → PW f 0 0 g I 16 [(0, .ref (gA g 100))] [] := by
  intro  I  hw
  unfold wp_X10_tale_16 at hw
  refine r_aload_n hC dX10_tale_16 rfl rfl (j := 0) rfl ?_
  refine r_iconst hC (v := (-1 : Int32)) dX10_tale_17 rfl (by decide) ?_
  refine r_callI hC (a_V hC (k := 10) (c_X10_refused hG hw) ci_X10_refused gX10_tale_X10_refused rfl ⟨Nat.le_of_ble_eq_true rfl, Nat.le_of_ble_eq_true rfl⟩ ⟨Nat.le_of_ble_eq_true rfl, Nat.le_of_ble_eq_true rfl⟩ rfl (by decide) hG.o.1 (List.mem_singleton.mp hG.o.2) rfl rfl (Nat.le_of_ble_eq_true rfl) dX10_tale_18) ⟨rfl, rfl⟩ rfl (fun r13 J14 hw => ?_)
  exact r_retI hC hR ⟨rfl, rfl⟩ dX10_tale_21 hw
set_option maxRecDepth 100000 in
set_option maxHeartbeats 4000000 in
theorem t_X10_tale_60 {f : Fx} {g : Gm}  {Post : Int32 → Mm → Prop}  (hC : Cx f cX10_tale 13 RX10 wsX10_tale rm_X10_tale) (hG : shM g) (hR : RtI f cX10_tale (fun r u => u.1 = g ∧ Post r u.2))  : ∀  (I : Mm) , wp_X10_tale_60   Post  I → PW f 0 0 g I 60 [(0, .ref (gA g 100))] [] := by
  intro  I  hw
  unfold wp_X10_tale_60 at hw
  refine r_aload_n hC dX10_tale_60 rfl rfl (j := 0) rfl ?_
  refine r_bipush hC (v := (-2 : Int32)) dX10_tale_61 rfl (by decide) ?_
  refine r_callI hC (a_V hC (k := 10) (c_X10_refused hG hw) ci_X10_refused gX10_tale_X10_refused rfl ⟨Nat.le_of_ble_eq_true rfl, Nat.le_of_ble_eq_true rfl⟩ ⟨Nat.le_of_ble_eq_true rfl, Nat.le_of_ble_eq_true rfl⟩ rfl (by decide) hG.o.1 (List.mem_singleton.mp hG.o.2) rfl rfl (Nat.le_of_ble_eq_true rfl) dX10_tale_63) ⟨rfl, rfl⟩ rfl (fun r15 J16 hw => ?_)
  exact r_retI hC hR ⟨rfl, rfl⟩ dX10_tale_66 hw
set_option maxRecDepth 100000 in
set_option maxHeartbeats 4000000 in
theorem t_X10_tale_98 {f : Fx} {g : Gm}  {Post : Int32 → Mm → Prop} {K121 : Mm → Prop} {K134 : Int32 → Int32 → Int32 → Int32 → Mm → Prop} (hC : Cx f cX10_tale 13 RX10 wsX10_tale rm_X10_tale) (hG : shM g) (hR : RtI f cX10_tale (fun r u => u.1 = g ∧ Post r u.2)) (hK121 : ∀  (I : Mm) , K121  I → PW f 0 0 g I 121 [(0, .ref (gA g 100))] []) (hK134 : ∀ (x4 : Int32) (x5 : Int32) (x6 : Int32) (x8 : Int32) (I : Mm) , K134 x4 x5 x6 x8 I → PW f 0 0 g I 134 [(0, .ref (gA g 100)), (4, .int x4), (5, .int x5), (6, .int x6), (8, .int x8)] []) : ∀ (nn98 : Nat) (x4 : Int32) (x5 : Int32) (x6 : Int32) (x8 : Int32) (x9 : Int32) (I : Mm) , wp_X10_tale_98  K121 K134 Post nn98 x4 x5 x6 x8 x9 I → PW f 0 0 g I 98 [(0, .ref (gA g 100)), (4, .int x4), (5, .int x5), (6, .int x6), (8, .int x8), (9, .int x9)] [] := by
  intro nn98
  induction nn98 with
  | zero =>
    intro x4 x5 x6 x8 x9 I  hw
    exact absurd hw id
  | succ nn98 ih =>
    intro x4 x5 x6 x8 x9 I  hw
    unfold wp_X10_tale_98 at hw
    refine r_iload hC dX10_tale_98 rfl (j := 5) rfl ?_
    refine r_iload hC dX10_tale_100 rfl (j := 1) rfl ?_
    refine r_icmp_ge hC (tgt := 134) dX10_tale_102 rfl (by decide) hw (fun hw => ?_) (fun hw => ?_)
    · exact r_sub (lv' := [(0, .ref (gA g 100)), (4, .int x4), (5, .int x5), (6, .int x6), (8, .int x8)]) [0, 1, 2, 3, 4] rfl (hK134 _ _ _ _ _ hw)
    · refine r_aload_n hC dX10_tale_105 rfl rfl (j := 0) rfl ?_
      refine r_getR hC dX10_tale_106 rfl hG.o.1 hG.o.2 ffg_X10_tale_52 hG.a27.2 ?_
      refine r_iload hC dX10_tale_109 rfl (j := 4) rfl ?_
      refine r_iload hC dX10_tale_111 rfl (j := 5) rfl ?_
      refine r_iadd hC dX10_tale_113 rfl ?_
      obtain ⟨hi, hw⟩ := hw
      refine r_iald hC dX10_tale_114 rfl (hG.a27.1).1 (hG.a27.1).2.1 (by rw [(hG.a27.1).2.2]; exact hi) ?_
      refine r_callI hC (a_S hC (c_X10_isPage  hw) ci_X10_isPage gX10_tale_X10_isPage ⟨Nat.le_of_ble_eq_true rfl, Nat.le_of_ble_eq_true rfl⟩ ⟨Nat.le_of_ble_eq_true rfl, Nat.le_of_ble_eq_true rfl⟩ rfl rfl (Nat.le_of_ble_eq_true rfl) dX10_tale_115) ⟨rfl, rfl⟩ rfl (fun r21 J22 hw => ?_)
      refine r_if_ne hC (tgt := 128) dX10_tale_118 rfl (by decide) hw (fun hw => ?_) (fun hw => ?_)
      · refine r_iinc hC (k := 1) (lv' := [(9, .int (x9 + 1)), (0, .ref (gA g 100)), (4, .int x4), (5, .int x5), (6, .int x6), (8, .int x8)]) dX10_tale_128 rfl (j := 5) rfl (by decide) (by decide) rfl ?_
        refine r_goto hC (tgt := 98) dX10_tale_131 (by decide) ?_
        exact r_sub (lv' := [(0, .ref (gA g 100)), (4, .int x4), (5, .int x5), (6, .int x6), (8, .int x8), (9, .int (x9 + 1))]) [1, 2, 3, 4, 5, 0] rfl (ih _ _ _ _ _ _ hw)
      · exact r_sub (lv' := [(0, .ref (gA g 100))]) [0] rfl (hK121 _ hw)
set_option maxRecDepth 100000 in
set_option maxHeartbeats 4000000 in
theorem t_X10_tale_121 {f : Fx} {g : Gm}  {Post : Int32 → Mm → Prop}  (hC : Cx f cX10_tale 13 RX10 wsX10_tale rm_X10_tale) (hG : shM g) (hR : RtI f cX10_tale (fun r u => u.1 = g ∧ Post r u.2))  : ∀  (I : Mm) , wp_X10_tale_121   Post  I → PW f 0 0 g I 121 [(0, .ref (gA g 100))] [] := by
  intro  I  hw
  unfold wp_X10_tale_121 at hw
  refine r_aload_n hC dX10_tale_121 rfl rfl (j := 0) rfl ?_
  refine r_bipush hC (v := (-2 : Int32)) dX10_tale_122 rfl (by decide) ?_
  refine r_callI hC (a_V hC (k := 10) (c_X10_refused hG hw) ci_X10_refused gX10_tale_X10_refused rfl ⟨Nat.le_of_ble_eq_true rfl, Nat.le_of_ble_eq_true rfl⟩ ⟨Nat.le_of_ble_eq_true rfl, Nat.le_of_ble_eq_true rfl⟩ rfl (by decide) hG.o.1 (List.mem_singleton.mp hG.o.2) rfl rfl (Nat.le_of_ble_eq_true rfl) dX10_tale_124) ⟨rfl, rfl⟩ rfl (fun r17 J18 hw => ?_)
  exact r_retI hC hR ⟨rfl, rfl⟩ dX10_tale_127 hw
set_option maxRecDepth 100000 in
set_option maxHeartbeats 4000000 in
theorem t_X10_tale_193 {f : Fx} {g : Gm}  {Post : Int32 → Mm → Prop} {Kb : Int32 → Int32 → Int32 → Int32 → Int32 → Int32 → Mm → Prop} {K201 : Int32 → Int32 → Int32 → Mm → Prop} (hC : Cx f cX10_tale 13 RX10 wsX10_tale rm_X10_tale) (hG : shM g) (hR : RtI f cX10_tale (fun r u => u.1 = g ∧ Post r u.2)) (hKb : ∀ (x4 : Int32) (x6 : Int32) (x8 : Int32) (x9 : Int32) (x10 : Int32) (x11 : Int32) (I : Mm) , Kb x4 x6 x8 x9 x10 x11 I → PW f 0 0 g I 153 [(0, .ref (gA g 100)), (4, .int x4), (6, .int x6), (8, .int x8), (9, .int x9), (10, .int x10), (11, .int x11)] []) (hK201 : ∀ (x6 : Int32) (x9 : Int32) (x10 : Int32) (I : Mm) , K201 x6 x9 x10 I → PW f 0 0 g I 201 [(0, .ref (gA g 100)), (6, .int x6), (9, .int x9), (10, .int x10)] []) : ∀ (x4 : Int32) (x6 : Int32) (x8 : Int32) (x9 : Int32) (x11 : Int32) (s0 : Int32) (I : Mm) , wp_X10_tale_193  Kb K201 Post x4 x6 x8 x9 x11 s0 I → PW f 0 0 g I 193 [(0, .ref (gA g 100)), (4, .int x4), (6, .int x6), (8, .int x8), (9, .int x9), (11, .int x11)] [.int s0] := by
  intro x4 x6 x8 x9 x11 s0 I  hw
  unfold wp_X10_tale_193 at hw
  refine r_istore hC (lv' := [(10, .int s0), (0, .ref (gA g 100)), (4, .int x4), (6, .int x6), (8, .int x8), (9, .int x9), (11, .int x11)]) dX10_tale_193 rfl (by decide) rfl ?_
  refine r_iinc hC (k := 1) (lv' := [(11, .int (x11 + 1)), (10, .int s0), (0, .ref (gA g 100)), (4, .int x4), (6, .int x6), (8, .int x8), (9, .int x9)]) dX10_tale_195 rfl (j := 6) rfl (by decide) (by decide) rfl ?_
  refine r_goto hC (tgt := 153) dX10_tale_198 (by decide) ?_
  exact r_sub (lv' := [(0, .ref (gA g 100)), (4, .int x4), (6, .int x6), (8, .int x8), (9, .int x9), (10, .int s0), (11, .int (x11 + 1))]) [2, 3, 4, 5, 6, 1, 0] rfl (hKb _ _ _ _ _ _ _ hw)
set_option maxRecDepth 100000 in
set_option maxHeartbeats 4000000 in
theorem t_X10_tale_191 {f : Fx} {g : Gm}  {Post : Int32 → Mm → Prop} {Kb : Int32 → Int32 → Int32 → Int32 → Int32 → Int32 → Mm → Prop} {K201 : Int32 → Int32 → Int32 → Mm → Prop} (hC : Cx f cX10_tale 13 RX10 wsX10_tale rm_X10_tale) (hG : shM g) (hR : RtI f cX10_tale (fun r u => u.1 = g ∧ Post r u.2)) (hKb : ∀ (x4 : Int32) (x6 : Int32) (x8 : Int32) (x9 : Int32) (x10 : Int32) (x11 : Int32) (I : Mm) , Kb x4 x6 x8 x9 x10 x11 I → PW f 0 0 g I 153 [(0, .ref (gA g 100)), (4, .int x4), (6, .int x6), (8, .int x8), (9, .int x9), (10, .int x10), (11, .int x11)] []) (hK201 : ∀ (x6 : Int32) (x9 : Int32) (x10 : Int32) (I : Mm) , K201 x6 x9 x10 I → PW f 0 0 g I 201 [(0, .ref (gA g 100)), (6, .int x6), (9, .int x9), (10, .int x10)] []) : ∀ (x4 : Int32) (x6 : Int32) (x8 : Int32) (x9 : Int32) (x10 : Int32) (x11 : Int32) (I : Mm) , wp_X10_tale_191  Kb K201 Post x4 x6 x8 x9 x10 x11 I → PW f 0 0 g I 191 [(0, .ref (gA g 100)), (4, .int x4), (6, .int x6), (8, .int x8), (9, .int x9), (10, .int x10), (11, .int x11)] [] := by
  intro x4 x6 x8 x9 x10 x11 I  hw
  unfold wp_X10_tale_191 at hw
  refine r_iload hC dX10_tale_191 rfl (j := 5) rfl ?_
  exact r_sub (lv' := [(0, .ref (gA g 100)), (4, .int x4), (6, .int x6), (8, .int x8), (9, .int x9), (11, .int x11)]) [0, 1, 2, 3, 4, 6] rfl (t_X10_tale_193 hC hG hR hKb hK201 _ _ _ _ _ _ _ hw)
set_option maxRecDepth 100000 in
set_option maxHeartbeats 4000000 in
theorem t_X10_tale_153 {f : Fx} {g : Gm}  {Post : Int32 → Mm → Prop} {K201 : Int32 → Int32 → Int32 → Mm → Prop} (hC : Cx f cX10_tale 13 RX10 wsX10_tale rm_X10_tale) (hG : shM g) (hR : RtI f cX10_tale (fun r u => u.1 = g ∧ Post r u.2)) (hK201 : ∀ (x6 : Int32) (x9 : Int32) (x10 : Int32) (I : Mm) , K201 x6 x9 x10 I → PW f 0 0 g I 201 [(0, .ref (gA g 100)), (6, .int x6), (9, .int x9), (10, .int x10)] []) : ∀ (nn153 : Nat) (x4 : Int32) (x6 : Int32) (x8 : Int32) (x9 : Int32) (x10 : Int32) (x11 : Int32) (I : Mm) , wp_X10_tale_153  K201 Post nn153 x4 x6 x8 x9 x10 x11 I → PW f 0 0 g I 153 [(0, .ref (gA g 100)), (4, .int x4), (6, .int x6), (8, .int x8), (9, .int x9), (10, .int x10), (11, .int x11)] [] := by
  intro nn153
  induction nn153 with
  | zero =>
    intro x4 x6 x8 x9 x10 x11 I  hw
    exact absurd hw id
  | succ nn153 ih =>
    intro x4 x6 x8 x9 x10 x11 I  hw
    unfold wp_X10_tale_153 at hw
    refine r_iload hC dX10_tale_153 rfl (j := 6) rfl ?_
    refine r_iload hC dX10_tale_155 rfl (j := 1) rfl ?_
    refine r_icmp_ge hC (tgt := 201) dX10_tale_157 rfl (by decide) hw (fun hw => ?_) (fun hw => ?_)
    · exact r_sub (lv' := [(0, .ref (gA g 100)), (6, .int x6), (9, .int x9), (10, .int x10)]) [0, 2, 4, 5] rfl (hK201 _ _ _ _ hw)
    · refine r_aload_n hC dX10_tale_160 rfl rfl (j := 0) rfl ?_
      refine r_aload_n hC dX10_tale_161 rfl rfl (j := 0) rfl ?_
      refine r_getR hC dX10_tale_162 rfl hG.o.1 hG.o.2 ffg_X10_tale_52 hG.a27.2 ?_
      refine r_iload hC dX10_tale_165 rfl (j := 3) rfl ?_
      refine r_iload hC dX10_tale_167 rfl (j := 6) rfl ?_
      refine r_iadd hC dX10_tale_169 rfl ?_
      obtain ⟨hi, hw⟩ := hw
      refine r_iald hC dX10_tale_170 rfl (hG.a27.1).1 (hG.a27.1).2.1 (by rw [(hG.a27.1).2.2]; exact hi) ?_
      refine r_callI hC (a_V hC (k := 10) (c_X10_plays hG hw) ci_X10_plays gX10_tale_X10_plays rfl ⟨Nat.le_of_ble_eq_true rfl, Nat.le_of_ble_eq_true rfl⟩ ⟨Nat.le_of_ble_eq_true rfl, Nat.le_of_ble_eq_true rfl⟩ rfl (by decide) hG.o.1 (List.mem_singleton.mp hG.o.2) rfl rfl (Nat.le_of_ble_eq_true rfl) dX10_tale_171) ⟨rfl, rfl⟩ rfl (fun r27 J28 hw => ?_)
      refine r_istore hC (lv' := [(12, .int r27), (0, .ref (gA g 100)), (4, .int x4), (6, .int x6), (8, .int x8), (9, .int x9), (10, .int x10), (11, .int x11)]) dX10_tale_174 rfl (by decide) rfl ?_
      refine r_iload hC dX10_tale_176 rfl (j := 0) rfl ?_
      refine r_if_eq hC (tgt := 191) dX10_tale_178 rfl (by decide) hw (fun hw => ?_) (fun hw => ?_)
      · exact r_sub (lv' := [(0, .ref (gA g 100)), (4, .int x4), (6, .int x6), (8, .int x8), (9, .int x9), (10, .int x10), (11, .int x11)]) [1, 2, 3, 4, 5, 6, 7] rfl (t_X10_tale_191 hC hG hR (fun x4 x6 x8 x9 x10 x11 I  hw => ih x4 x6 x8 x9 x10 x11 I  hw) hK201 _ _ _ _ _ _ _ hw)
      · refine r_iload hC dX10_tale_181 rfl (j := 6) rfl ?_
        refine r_if_ge hC (tgt := 191) dX10_tale_183 rfl (by decide) hw (fun hw => ?_) (fun hw => ?_)
        · exact r_sub (lv' := [(0, .ref (gA g 100)), (4, .int x4), (6, .int x6), (8, .int x8), (9, .int x9), (10, .int x10), (11, .int x11)]) [1, 2, 3, 4, 5, 6, 7] rfl (t_X10_tale_191 hC hG hR (fun x4 x6 x8 x9 x10 x11 I  hw => ih x4 x6 x8 x9 x10 x11 I  hw) hK201 _ _ _ _ _ _ _ hw)
        · refine r_iload hC dX10_tale_186 rfl (j := 7) rfl ?_
          refine r_goto hC (tgt := 193) dX10_tale_188 (by decide) ?_
          exact r_sub (lv' := [(0, .ref (gA g 100)), (4, .int x4), (6, .int x6), (8, .int x8), (9, .int x9), (11, .int x11)]) [1, 2, 3, 4, 5, 7] rfl (t_X10_tale_193 hC hG hR (fun x4 x6 x8 x9 x10 x11 I  hw => ih x4 x6 x8 x9 x10 x11 I  hw) hK201 _ _ _ _ _ _ _ hw)
set_option maxRecDepth 100000 in
set_option maxHeartbeats 4000000 in
theorem t_X10_tale_258 {f : Fx} {g : Gm}  {Post : Int32 → Mm → Prop}  (hC : Cx f cX10_tale 13 RX10 wsX10_tale rm_X10_tale) (hG : shM g) (hR : RtI f cX10_tale (fun r u => u.1 = g ∧ Post r u.2))  : ∀ (s0 : Int32) (I : Mm) , wp_X10_tale_258   Post s0 I → PW f 0 0 g I 258 [] [.int s0, .ref (gA g 100)] := by
  intro s0 I  hw
  unfold wp_X10_tale_258 at hw
  refine r_callI hC (a_V hC (k := 10) (c_X10_refused hG hw) ci_X10_refused gX10_tale_X10_refused rfl ⟨Nat.le_of_ble_eq_true rfl, Nat.le_of_ble_eq_true rfl⟩ ⟨Nat.le_of_ble_eq_true rfl, Nat.le_of_ble_eq_true rfl⟩ rfl (by decide) hG.o.1 (List.mem_singleton.mp hG.o.2) rfl rfl (Nat.le_of_ble_eq_true rfl) dX10_tale_258) ⟨rfl, rfl⟩ rfl (fun r29 J30 hw => ?_)
  exact r_retI hC hR ⟨rfl, rfl⟩ dX10_tale_261 hw
set_option maxRecDepth 100000 in
set_option maxHeartbeats 4000000 in
theorem t_X10_tale_201 {f : Fx} {g : Gm}  {Post : Int32 → Mm → Prop}  (hC : Cx f cX10_tale 13 RX10 wsX10_tale rm_X10_tale) (hG : shM g) (hR : RtI f cX10_tale (fun r u => u.1 = g ∧ Post r u.2))  : ∀ (x6 : Int32) (x9 : Int32) (x10 : Int32) (I : Mm) , wp_X10_tale_201   Post x6 x9 x10 I → PW f 0 0 g I 201 [(0, .ref (gA g 100)), (6, .int x6), (9, .int x9), (10, .int x10)] [] := by
  intro x6 x9 x10 I  hw
  unfold wp_X10_tale_201 at hw
  refine r_aload_n hC dX10_tale_201 rfl rfl (j := 0) rfl ?_
  refine r_iload hC dX10_tale_202 rfl (j := 1) rfl ?_
  refine r_if_ne hC (tgt := 217) dX10_tale_204 rfl (by decide) hw (fun hw => ?_) (fun hw => ?_)
  · refine r_iload hC dX10_tale_217 rfl (j := 1) rfl ?_
    refine r_iconst hC (v := (1 : Int32)) dX10_tale_219 rfl (by decide) ?_
    refine r_icmp_ne hC (tgt := 230) dX10_tale_220 rfl (by decide) hw (fun hw => ?_) (fun hw => ?_)
    · refine r_iload hC dX10_tale_230 rfl (j := 1) rfl ?_
      refine r_iconst hC (v := (2 : Int32)) dX10_tale_232 rfl (by decide) ?_
      refine r_icmp_ne hC (tgt := 243) dX10_tale_233 rfl (by decide) hw (fun hw => ?_) (fun hw => ?_)
      · refine r_iload hC dX10_tale_243 rfl (j := 1) rfl ?_
        refine r_iconst hC (v := (3 : Int32)) dX10_tale_245 rfl (by decide) ?_
        refine r_icmp_ne hC (tgt := 256) dX10_tale_246 rfl (by decide) hw (fun hw => ?_) (fun hw => ?_)
        · refine r_iload hC dX10_tale_256 rfl (j := 3) rfl ?_
          exact r_sub (lv' := []) [] rfl (t_X10_tale_258 hC hG hR _ _ hw)
        · refine r_aload_n hC dX10_tale_249 rfl rfl (j := 0) rfl ?_
          refine r_getI hC dX10_tale_250 rfl hG.o.1 hG.o.2 ffg_X10_tale_144 ?_
          refine r_goto hC (tgt := 258) dX10_tale_253 (by decide) ?_
          exact r_sub (lv' := []) [] rfl (t_X10_tale_258 hC hG hR _ _ hw)
      · refine r_aload_n hC dX10_tale_236 rfl rfl (j := 0) rfl ?_
        refine r_callI hC (a_V hC (k := 10) (c_X10_wouldGo hG hw) ci_X10_wouldGo gX10_tale_X10_wouldGo rfl ⟨Nat.le_of_ble_eq_true rfl, Nat.le_of_ble_eq_true rfl⟩ ⟨Nat.le_of_ble_eq_true rfl, Nat.le_of_ble_eq_true rfl⟩ rfl (by decide) hG.o.1 (List.mem_singleton.mp hG.o.2) rfl rfl (Nat.le_of_ble_eq_true rfl) dX10_tale_237) ⟨rfl, rfl⟩ rfl (fun r23 J24 hw => ?_)
        refine r_goto hC (tgt := 258) dX10_tale_240 (by decide) ?_
        exact r_sub (lv' := []) [] rfl (t_X10_tale_258 hC hG hR _ _ hw)
    · refine r_aload_n hC dX10_tale_223 rfl rfl (j := 0) rfl ?_
      refine r_callI hC (a_V hC (k := 10) (c_X10_playSet hG hw) ci_X10_playSet gX10_tale_X10_playSet rfl ⟨Nat.le_of_ble_eq_true rfl, Nat.le_of_ble_eq_true rfl⟩ ⟨Nat.le_of_ble_eq_true rfl, Nat.le_of_ble_eq_true rfl⟩ rfl (by decide) hG.o.1 (List.mem_singleton.mp hG.o.2) rfl rfl (Nat.le_of_ble_eq_true rfl) dX10_tale_224) ⟨rfl, rfl⟩ rfl (fun r25 J26 hw => ?_)
      refine r_goto hC (tgt := 258) dX10_tale_227 (by decide) ?_
      exact r_sub (lv' := []) [] rfl (t_X10_tale_258 hC hG hR _ _ hw)
  · refine r_aload_n hC dX10_tale_207 rfl rfl (j := 0) rfl ?_
    refine r_getI hC dX10_tale_208 rfl hG.o.1 hG.o.2 ffg_X10_tale_147 ?_
    refine r_iload hC dX10_tale_211 rfl (j := 2) rfl ?_
    refine r_isub hC dX10_tale_213 rfl ?_
    refine r_goto hC (tgt := 258) dX10_tale_214 (by decide) ?_
    exact r_sub (lv' := []) [] rfl (t_X10_tale_258 hC hG hR _ _ hw)
set_option maxRecDepth 100000 in
set_option maxHeartbeats 4000000 in
theorem t_X10_tale_134 {f : Fx} {g : Gm}  {Post : Int32 → Mm → Prop}  (hC : Cx f cX10_tale 13 RX10 wsX10_tale rm_X10_tale) (hG : shM g) (hR : RtI f cX10_tale (fun r u => u.1 = g ∧ Post r u.2))  : ∀ (x4 : Int32) (x5 : Int32) (x6 : Int32) (x8 : Int32) (I : Mm) , wp_X10_tale_134   Post x4 x5 x6 x8 I → PW f 0 0 g I 134 [(0, .ref (gA g 100)), (4, .int x4), (5, .int x5), (6, .int x6), (8, .int x8)] [] := by
  intro x4 x5 x6 x8 I  hw
  unfold wp_X10_tale_134 at hw
  refine r_aload_n hC dX10_tale_134 rfl rfl (j := 0) rfl ?_
  refine r_iload hC dX10_tale_135 rfl (j := 2) rfl ?_
  refine r_callV hC (a_V hC (k := 10) (c_X10_playsNow hG hw) ci_X10_playsNow gX10_tale_X10_playsNow rfl ⟨Nat.le_of_ble_eq_true rfl, Nat.le_of_ble_eq_true rfl⟩ ⟨Nat.le_of_ble_eq_true rfl, Nat.le_of_ble_eq_true rfl⟩ rfl (by decide) hG.o.1 (List.mem_singleton.mp hG.o.2) rfl rfl (Nat.le_of_ble_eq_true rfl) dX10_tale_137) ⟨rfl, rfl⟩ rfl (fun J20 hw => ?_)
  refine r_aload_n hC dX10_tale_140 rfl rfl (j := 0) rfl ?_
  refine r_getI hC dX10_tale_141 rfl hG.o.1 hG.o.2 ffg_X10_tale_147 ?_
  refine r_istore hC (lv' := [(9, .int (J20 100 17)), (0, .ref (gA g 100)), (4, .int x4), (5, .int x5), (6, .int x6), (8, .int x8)]) dX10_tale_144 rfl (by decide) rfl ?_
  refine r_bipush hC (v := (-9 : Int32)) dX10_tale_146 rfl (by decide) ?_
  refine r_istore hC (lv' := [(10, .int (-9 : Int32)), (9, .int (J20 100 17)), (0, .ref (gA g 100)), (4, .int x4), (5, .int x5), (6, .int x6), (8, .int x8)]) dX10_tale_148 rfl (by decide) rfl ?_
  refine r_iconst hC (v := (0 : Int32)) dX10_tale_150 rfl (by decide) ?_
  refine r_istore hC (lv' := [(11, .int (0 : Int32)), (10, .int (-9 : Int32)), (9, .int (J20 100 17)), (0, .ref (gA g 100)), (4, .int x4), (5, .int x5), (6, .int x6), (8, .int x8)]) dX10_tale_151 rfl (by decide) rfl ?_
  obtain ⟨nn153, hw⟩ := hw
  exact r_sub (lv' := [(0, .ref (gA g 100)), (4, .int x4), (6, .int x6), (8, .int x8), (9, .int (J20 100 17)), (10, .int (-9 : Int32)), (11, .int (0 : Int32))]) [3, 4, 6, 7, 2, 1, 0] rfl ((t_X10_tale_153 hC hG hR (fun x6 x9 x10 I  hw => t_X10_tale_201 hC hG hR _ _ _ _ hw) nn153 _ _ _ _ _ _ _ hw))
set_option maxRecDepth 100000 in
set_option maxHeartbeats 4000000 in
theorem t_X10_tale_0 {f : Fx} {g : Gm}  {Post : Int32 → Mm → Prop} {x1 : Int32} {x2 : Int32} {x3 : Int32} {x4 : Int32} {x5 : Int32} {x6 : Int32} {I : Mm} (hC : Cx f cX10_tale 13 RX10 wsX10_tale rm_X10_tale) (hG : shM g) (hR : RtI f cX10_tale (fun r u => u.1 = g ∧ Post r u.2)) (hw : wp_X10_tale  x1 x2 x3 x4 x5 x6 I Post) : PW f 0 0 g I 0 [(0, .ref (gA g 100)), (1, .int x1), (2, .int x2), (3, .int x3), (4, .int x4), (5, .int x5), (6, .int x6)] [] := by
  unfold wp_X10_tale at hw
  refine r_iload_n hC dX10_tale_0 rfl rfl (j := 1) rfl ?_
  refine r_callI hC (a_S hC (c_X10_noSheet  hw) ci_X10_noSheet gX10_tale_X10_noSheet ⟨Nat.le_of_ble_eq_true rfl, Nat.le_of_ble_eq_true rfl⟩ ⟨Nat.le_of_ble_eq_true rfl, Nat.le_of_ble_eq_true rfl⟩ rfl rfl (Nat.le_of_ble_eq_true rfl) dX10_tale_1) ⟨rfl, rfl⟩ rfl (fun r1 J2 hw => ?_)
  refine r_if_ne hC (tgt := 16) dX10_tale_4 rfl (by decide) hw (fun hw => ?_) (fun hw => ?_)
  · exact r_sub (lv' := [(0, .ref (gA g 100))]) [0] rfl (t_X10_tale_16 hC hG hR _ hw)
  · refine r_aload_n hC dX10_tale_7 rfl rfl (j := 0) rfl ?_
    refine r_iload hC dX10_tale_8 rfl (j := 5) rfl ?_
    refine r_callI hC (a_V hC (k := 10) (c_X10_noDesk hG hw) ci_X10_noDesk gX10_tale_X10_noDesk rfl ⟨Nat.le_of_ble_eq_true rfl, Nat.le_of_ble_eq_true rfl⟩ ⟨Nat.le_of_ble_eq_true rfl, Nat.le_of_ble_eq_true rfl⟩ rfl (by decide) hG.o.1 (List.mem_singleton.mp hG.o.2) rfl rfl (Nat.le_of_ble_eq_true rfl) dX10_tale_10) ⟨rfl, rfl⟩ rfl (fun r3 J4 hw => ?_)
    refine r_if_eq hC (tgt := 22) dX10_tale_13 rfl (by decide) hw (fun hw => ?_) (fun hw => ?_)
    · refine r_iload_n hC dX10_tale_22 rfl rfl (j := 2) rfl ?_
      refine r_i2l hC dX10_tale_23 rfl ?_
      refine r_lconst hC (v := (0 : Int64)) dX10_tale_24 rfl (by decide) ?_
      refine r_ldc2 hC (v := (2 : Int64)) dX10_tale_25 rfl (List.mem_of_getElem? (i := 1) rfl) ?_
      refine r_callI hC (a_S hC (c_X10_in  hw) ci_X10_in gX10_tale_X10_in ⟨Nat.le_of_ble_eq_true rfl, Nat.le_of_ble_eq_true rfl⟩ ⟨Nat.le_of_ble_eq_true rfl, Nat.le_of_ble_eq_true rfl⟩ rfl rfl (Nat.le_of_ble_eq_true rfl) dX10_tale_28) ⟨rfl, rfl⟩ rfl (fun r5 J6 hw => ?_)
      refine r_if_eq hC (tgt := 60) dX10_tale_31 rfl (by decide) hw (fun hw => ?_) (fun hw => ?_)
      · exact r_sub (lv' := [(0, .ref (gA g 100))]) [0] rfl (t_X10_tale_60 hC hG hR _ hw)
      · refine r_iload hC dX10_tale_34 rfl (j := 4) rfl ?_
        refine r_i2l hC dX10_tale_36 rfl ?_
        refine r_lconst hC (v := (0 : Int64)) dX10_tale_37 rfl (by decide) ?_
        refine r_ldc2 hC (v := (20 : Int64)) dX10_tale_38 rfl (List.mem_of_getElem? (i := 2) rfl) ?_
        refine r_callI hC (a_S hC (c_X10_in  hw) ci_X10_in gX10_tale_X10_in ⟨Nat.le_of_ble_eq_true rfl, Nat.le_of_ble_eq_true rfl⟩ ⟨Nat.le_of_ble_eq_true rfl, Nat.le_of_ble_eq_true rfl⟩ rfl rfl (Nat.le_of_ble_eq_true rfl) dX10_tale_41) ⟨rfl, rfl⟩ rfl (fun r7 J8 hw => ?_)
        refine r_if_eq hC (tgt := 60) dX10_tale_44 rfl (by decide) hw (fun hw => ?_) (fun hw => ?_)
        · exact r_sub (lv' := [(0, .ref (gA g 100))]) [0] rfl (t_X10_tale_60 hC hG hR _ hw)
        · refine r_iload hC dX10_tale_47 rfl (j := 6) rfl ?_
          refine r_i2l hC dX10_tale_49 rfl ?_
          refine r_lconst hC (v := (0 : Int64)) dX10_tale_50 rfl (by decide) ?_
          refine r_ldc2 hC (v := (4 : Int64)) dX10_tale_51 rfl (List.mem_of_getElem? (i := 3) rfl) ?_
          refine r_callI hC (a_S hC (c_X10_in  hw) ci_X10_in gX10_tale_X10_in ⟨Nat.le_of_ble_eq_true rfl, Nat.le_of_ble_eq_true rfl⟩ ⟨Nat.le_of_ble_eq_true rfl, Nat.le_of_ble_eq_true rfl⟩ rfl rfl (Nat.le_of_ble_eq_true rfl) dX10_tale_54) ⟨rfl, rfl⟩ rfl (fun r9 J10 hw => ?_)
          refine r_if_ne hC (tgt := 67) dX10_tale_57 rfl (by decide) hw (fun hw => ?_) (fun hw => ?_)
          · refine r_aload_n hC dX10_tale_67 rfl rfl (j := 0) rfl ?_
            refine r_iload_n hC dX10_tale_68 rfl rfl (j := 1) rfl ?_
            refine r_iload_n hC dX10_tale_69 rfl rfl (j := 2) rfl ?_
            refine r_iload_n hC dX10_tale_70 rfl rfl (j := 3) rfl ?_
            refine r_iload hC dX10_tale_71 rfl (j := 4) rfl ?_
            refine r_i2l hC dX10_tale_73 rfl ?_
            refine r_callI hC (a_V hC (k := 10) (c_X10_cellsBarred hG hw) ci_X10_cellsBarred gX10_tale_X10_cellsBarred rfl ⟨Nat.le_of_ble_eq_true rfl, Nat.le_of_ble_eq_true rfl⟩ ⟨Nat.le_of_ble_eq_true rfl, Nat.le_of_ble_eq_true rfl⟩ rfl (by decide) hG.o.1 (List.mem_singleton.mp hG.o.2) rfl rfl (Nat.le_of_ble_eq_true rfl) dX10_tale_74) ⟨rfl, rfl⟩ rfl (fun r11 J12 hw => ?_)
            refine r_istore hC (lv' := [(7, .int r11), (0, .ref (gA g 100)), (1, .int x1), (2, .int x2), (3, .int x3), (4, .int x4), (5, .int x5), (6, .int x6)]) dX10_tale_77 rfl (by decide) rfl ?_
            refine r_iload hC dX10_tale_79 rfl (j := 0) rfl ?_
            refine r_if_ge hC (tgt := 87) dX10_tale_81 rfl (by decide) hw (fun hw => ?_) (fun hw => ?_)
            · refine r_bipush hC (v := (60 : Int32)) dX10_tale_87 rfl (by decide) ?_
              refine r_iload_n hC dX10_tale_89 rfl rfl (j := 2) rfl ?_
              refine r_imul hC dX10_tale_90 rfl ?_
              refine r_iload_n hC dX10_tale_91 rfl rfl (j := 4) rfl ?_
              refine r_iadd hC dX10_tale_92 rfl ?_
              refine r_istore hC (lv' := [(8, .int (((60 : Int32) * x1) + x3)), (7, .int r11), (0, .ref (gA g 100)), (1, .int x1), (2, .int x2), (3, .int x3), (4, .int x4), (5, .int x5), (6, .int x6)]) dX10_tale_93 rfl (by decide) rfl ?_
              refine r_iconst hC (v := (0 : Int32)) dX10_tale_95 rfl (by decide) ?_
              refine r_istore hC (lv' := [(9, .int (0 : Int32)), (8, .int (((60 : Int32) * x1) + x3)), (7, .int r11), (0, .ref (gA g 100)), (1, .int x1), (2, .int x2), (3, .int x3), (4, .int x4), (5, .int x5), (6, .int x6)]) dX10_tale_96 rfl (by decide) rfl ?_
              obtain ⟨nn98, hw⟩ := hw
              exact r_sub (lv' := [(0, .ref (gA g 100)), (4, .int x4), (5, .int x5), (6, .int x6), (8, .int (((60 : Int32) * x1) + x3)), (9, .int (0 : Int32))]) [3, 7, 8, 9, 1, 0] rfl ((t_X10_tale_98 hC hG hR (fun  I  hw => t_X10_tale_121 hC hG hR _ hw) (fun x4 x5 x6 x8 I  hw => t_X10_tale_134 hC hG hR _ _ _ _ _ hw) nn98 _ _ _ _ _ _ hw))
            · refine r_iload hC dX10_tale_84 rfl (j := 0) rfl ?_
              exact r_retI hC hR ⟨rfl, rfl⟩ dX10_tale_86 hw
          · exact r_sub (lv' := [(0, .ref (gA g 100))]) [0] rfl (t_X10_tale_60 hC hG hR _ hw)
    · exact r_sub (lv' := [(0, .ref (gA g 100))]) [0] rfl (t_X10_tale_16 hC hG hR _ hw)
set_option maxRecDepth 100000 in
theorem c_X10_tale {l : Launch} {x : Gx} {g : Gm}  {x1 : Int32} {x2 : Int32} {x3 : Int32} {x4 : Int32} {x5 : Int32} {x6 : Int32} {I : Mm} {Post : Int32 → Mm → Prop} (hG : shM g) (hw : wp_X10_tale  x1 x2 x3 x4 x5 x6 I Post) : KI l x yX10_tale wsX10_tale rm_X10_tale g I [.ref (gA g 100), .int x1, .int x2, .int x3, .int x4, .int x5, .int x6] (fun r u => u.1 = g ∧ Post r u.2) := KI_of (by decide) rfl rfl (Nat.le_of_ble_eq_true rfl) (fun f hC _ _ hR => t_X10_tale_0 hC hG hR hw)

/-! X10_missesBy -/
abbrev rm_X10_missesBy : Room := { frames := 4, cells := 0, slots := 0, locals := 90 }
theorem ci_X10_missesBy : CI yX10_missesBy wsX10_missesBy cX10_missesBy 3 (some .int) 2 := ⟨⟨_, rfl⟩, by decide, by decide, by decide +kernel⟩
def wp_X10_missesBy  (x1 : Int32) (x2 : Int32) (I : Mm) (Post : Int32 → Mm → Prop) : Prop := vp_in x1 4 ∧ (wp_X10_playsLine (I 104 x1.toNatClampNeg) x2 (I 100 2) I (fun J2 => Post (J2 100 17) J2))
set_option maxRecDepth 20000 in
theorem uw_X10_missesBy_10 : ∀ w ∈ u_ws RX10 TX10 30, w ∈ wsX10_missesBy := by decide +kernel
set_option maxRecDepth 20000 in
theorem ffg_X10_missesBy_7 : ∀ k ∈ ([10] : List Nat), FF wsX10_missesBy RX10 7 k 4 ∧ fR k 4 = true := List.forall_mem_cons.mpr ⟨⟨⟨RX10, TX10, 30, "PageDesksModel", rfl, rfl, by decide, by decide, uw_X10_missesBy_10, (List.mem_of_getElem? (i := 1) rfl), Or.inl rfl⟩, rfl⟩, fun _ h => absurd h List.not_mem_nil⟩
set_option maxRecDepth 20000 in
theorem ffg_X10_missesBy_75 : ∀ k ∈ ([10] : List Nat), FF wsX10_missesBy RX10 75 k 2 ∧ fR k 2 = false := List.forall_mem_cons.mpr ⟨⟨⟨RX10, TX10, 30, "PageDesksModel", rfl, rfl, by decide, by decide, uw_X10_missesBy_10, (List.mem_of_getElem? (i := 2) rfl), Or.inl rfl⟩, rfl⟩, fun _ h => absurd h List.not_mem_nil⟩
set_option maxRecDepth 20000 in
theorem ffg_X10_missesBy_147 : ∀ k ∈ ([10] : List Nat), FF wsX10_missesBy RX10 147 k 17 ∧ fR k 17 = false := List.forall_mem_cons.mpr ⟨⟨⟨RX10, TX10, 30, "PageDesksModel", rfl, rfl, by decide, by decide, uw_X10_missesBy_10, (List.mem_of_getElem? (i := 3) rfl), Or.inl rfl⟩, rfl⟩, fun _ h => absurd h List.not_mem_nil⟩
set_option maxRecDepth 100000 in
set_option maxHeartbeats 4000000 in
theorem t_X10_missesBy_0 {f : Fx} {g : Gm}  {Post : Int32 → Mm → Prop} {x1 : Int32} {x2 : Int32} {I : Mm} (hC : Cx f cX10_missesBy 3 RX10 wsX10_missesBy rm_X10_missesBy) (hG : shM g) (hR : RtI f cX10_missesBy (fun r u => u.1 = g ∧ Post r u.2)) (hw : wp_X10_missesBy  x1 x2 I Post) : PW f 0 0 g I 0 [(0, .ref (gA g 100)), (1, .int x1), (2, .int x2)] [] := by
  unfold wp_X10_missesBy at hw
  refine r_aload_n hC dX10_missesBy_0 rfl rfl (j := 0) rfl ?_
  refine r_aload_n hC dX10_missesBy_1 rfl rfl (j := 0) rfl ?_
  refine r_getR hC dX10_missesBy_2 rfl hG.o.1 hG.o.2 ffg_X10_missesBy_7 hG.a4.2 ?_
  refine r_iload_n hC dX10_missesBy_5 rfl rfl (j := 1) rfl ?_
  obtain ⟨hi, hw⟩ := hw
  refine r_iald hC dX10_missesBy_6 rfl (hG.a4.1).1 (hG.a4.1).2.1 (by rw [(hG.a4.1).2.2]; exact hi) ?_
  refine r_iload_n hC dX10_missesBy_7 rfl rfl (j := 2) rfl ?_
  refine r_aload_n hC dX10_missesBy_8 rfl rfl (j := 0) rfl ?_
  refine r_getI hC dX10_missesBy_9 rfl hG.o.1 hG.o.2 ffg_X10_missesBy_75 ?_
  refine r_callV hC (a_V hC (k := 10) (c_X10_playsLine hG hw) ci_X10_playsLine gX10_missesBy_X10_playsLine rfl ⟨Nat.le_of_ble_eq_true rfl, Nat.le_of_ble_eq_true rfl⟩ ⟨Nat.le_of_ble_eq_true rfl, Nat.le_of_ble_eq_true rfl⟩ rfl (by decide) hG.o.1 (List.mem_singleton.mp hG.o.2) rfl rfl (Nat.le_of_ble_eq_true rfl) dX10_missesBy_12) ⟨rfl, rfl⟩ rfl (fun J2 hw => ?_)
  refine r_aload_n hC dX10_missesBy_15 rfl rfl (j := 0) rfl ?_
  refine r_getI hC dX10_missesBy_16 rfl hG.o.1 hG.o.2 ffg_X10_missesBy_147 ?_
  exact r_retI hC hR ⟨rfl, rfl⟩ dX10_missesBy_19 hw
set_option maxRecDepth 100000 in
theorem c_X10_missesBy {l : Launch} {x : Gx} {g : Gm}  {x1 : Int32} {x2 : Int32} {I : Mm} {Post : Int32 → Mm → Prop} (hG : shM g) (hw : wp_X10_missesBy  x1 x2 I Post) : KI l x yX10_missesBy wsX10_missesBy rm_X10_missesBy g I [.ref (gA g 100), .int x1, .int x2] (fun r u => u.1 = g ∧ Post r u.2) := KI_of (by decide) rfl rfl (Nat.le_of_ble_eq_true rfl) (fun f hC _ _ hR => t_X10_missesBy_0 hC hG hR hw)

/-! X10_misses -/
abbrev rm_X10_misses : Room := { frames := 5, cells := 0, slots := 0, locals := 112 }
theorem ci_X10_misses : CI yX10_misses wsX10_misses cX10_misses 3 (some .int) 2 := ⟨⟨_, rfl⟩, by decide, by decide, by decide +kernel⟩
def wp_X10_misses  (x1 : Int32) (x2 : Int32) (I : Mm) (Post : Int32 → Mm → Prop) : Prop := wp_X10_noDesk x1 I (fun r1 J2 => if r1 = 0 then (wp_X10_in x2.toInt64 (1 : Int64) (8 : Int64) J2 (fun r3 J4 => if r3 = 0 then (Post (-2 : Int32) J4) else (wp_X10_missesBy x1 x2 J4 (fun r5 J6 => Post r5 J6)))) else (Post (-1 : Int32) J2))

set_option maxRecDepth 100000 in
set_option maxHeartbeats 4000000 in
theorem t_X10_misses_0 {f : Fx} {g : Gm}  {Post : Int32 → Mm → Prop} {x1 : Int32} {x2 : Int32} {I : Mm} (hC : Cx f cX10_misses 3 RX10 wsX10_misses rm_X10_misses) (hG : shM g) (hR : RtI f cX10_misses (fun r u => u.1 = g ∧ Post r u.2)) (hw : wp_X10_misses  x1 x2 I Post) : PW f 0 0 g I 0 [(0, .ref (gA g 100)), (1, .int x1), (2, .int x2)] [] := by
  unfold wp_X10_misses at hw
  refine r_aload_n hC dX10_misses_0 rfl rfl (j := 0) rfl ?_
  refine r_iload_n hC dX10_misses_1 rfl rfl (j := 1) rfl ?_
  refine r_callI hC (a_V hC (k := 10) (c_X10_noDesk hG hw) ci_X10_noDesk gX10_misses_X10_noDesk rfl ⟨Nat.le_of_ble_eq_true rfl, Nat.le_of_ble_eq_true rfl⟩ ⟨Nat.le_of_ble_eq_true rfl, Nat.le_of_ble_eq_true rfl⟩ rfl (by decide) hG.o.1 (List.mem_singleton.mp hG.o.2) rfl rfl (Nat.le_of_ble_eq_true rfl) dX10_misses_2) ⟨rfl, rfl⟩ rfl (fun r1 J2 hw => ?_)
  refine r_if_eq hC (tgt := 10) dX10_misses_5 rfl (by decide) hw (fun hw => ?_) (fun hw => ?_)
  · refine r_iload_n hC dX10_misses_10 rfl rfl (j := 2) rfl ?_
    refine r_i2l hC dX10_misses_11 rfl ?_
    refine r_lconst hC (v := (1 : Int64)) dX10_misses_12 rfl (by decide) ?_
    refine r_ldc2 hC (v := (8 : Int64)) dX10_misses_13 rfl (List.mem_of_getElem? (i := 1) rfl) ?_
    refine r_callI hC (a_S hC (c_X10_in  hw) ci_X10_in gX10_misses_X10_in ⟨Nat.le_of_ble_eq_true rfl, Nat.le_of_ble_eq_true rfl⟩ ⟨Nat.le_of_ble_eq_true rfl, Nat.le_of_ble_eq_true rfl⟩ rfl rfl (Nat.le_of_ble_eq_true rfl) dX10_misses_16) ⟨rfl, rfl⟩ rfl (fun r3 J4 hw => ?_)
    refine r_if_eq hC (tgt := 31) dX10_misses_19 rfl (by decide) hw (fun hw => ?_) (fun hw => ?_)
    · refine r_bipush hC (v := (-2 : Int32)) dX10_misses_31 rfl (by decide) ?_
      exact r_retI hC hR ⟨rfl, rfl⟩ dX10_misses_33 hw
    · refine r_aload_n hC dX10_misses_22 rfl rfl (j := 0) rfl ?_
      refine r_iload_n hC dX10_misses_23 rfl rfl (j := 1) rfl ?_
      refine r_iload_n hC dX10_misses_24 rfl rfl (j := 2) rfl ?_
      refine r_callI hC (a_V hC (k := 10) (c_X10_missesBy hG hw) ci_X10_missesBy gX10_misses_X10_missesBy rfl ⟨Nat.le_of_ble_eq_true rfl, Nat.le_of_ble_eq_true rfl⟩ ⟨Nat.le_of_ble_eq_true rfl, Nat.le_of_ble_eq_true rfl⟩ rfl (by decide) hG.o.1 (List.mem_singleton.mp hG.o.2) rfl rfl (Nat.le_of_ble_eq_true rfl) dX10_misses_25) ⟨rfl, rfl⟩ rfl (fun r5 J6 hw => ?_)
      refine r_goto hC (tgt := 33) dX10_misses_28 (by decide) ?_
      exact r_retI hC hR ⟨rfl, rfl⟩ dX10_misses_33 hw
  · refine r_iconst hC (v := (-1 : Int32)) dX10_misses_8 rfl (by decide) ?_
    exact r_retI hC hR ⟨rfl, rfl⟩ dX10_misses_9 hw
set_option maxRecDepth 100000 in
theorem c_X10_misses {l : Launch} {x : Gx} {g : Gm}  {x1 : Int32} {x2 : Int32} {I : Mm} {Post : Int32 → Mm → Prop} (hG : shM g) (hw : wp_X10_misses  x1 x2 I Post) : KI l x yX10_misses wsX10_misses rm_X10_misses g I [.ref (gA g 100), .int x1, .int x2] (fun r u => u.1 = g ∧ Post r u.2) := KI_of (by decide) rfl rfl (Nat.le_of_ble_eq_true rfl) (fun f hC _ _ hR => t_X10_misses_0 hC hG hR hw)

/-! X10_odd -/
abbrev rm_X10_odd : Room := { frames := 5, cells := 0, slots := 0, locals := 112 }
theorem ci_X10_odd : CI yX10_odd wsX10_odd cX10_odd 4 (some .int) 1 := ⟨⟨_, rfl⟩, by decide, by decide, by decide +kernel⟩
def wp_X10_odd_42  (Kb : Int32 → Int32 → Int32 → Mm → Prop) (Post : Int32 → Mm → Prop) (x1 : Int32) (x3 : Int32) (s0 : Int32) (I : Mm) : Prop := Kb x1 s0 (x3 + (-1)) I
def wp_X10_odd_16   (Post : Int32 → Mm → Prop) : Nat → Int32 → Int32 → Int32 → Mm → Prop
  | 0, _, _, _, _ => False
  | nn16 + 1, x1, x2, x3, I => if x3 ≤ 0 then (Post x2 I) else (wp_X10_missesBy x1 x3 I (fun r3 J4 => wp_X10_missesBy x1 (x3 + (1 : Int32)) J4 (fun r5 J6 => if r5 ≤ r3 then (wp_X10_odd_42 (fun x1 x2 x3 I => wp_X10_odd_16  Post nn16 x1 x2 x3 I) Post x1 x3 x2 J6) else (wp_X10_odd_42 (fun x1 x2 x3 I => wp_X10_odd_16  Post nn16 x1 x2 x3 I) Post x1 x3 x3 J6))))
def wp_X10_odd  (x1 : Int32) (I : Mm) (Post : Int32 → Mm → Prop) : Prop := wp_X10_noDesk x1 I (fun r1 J2 => if r1 = 0 then (∃ nn16, wp_X10_odd_16  Post nn16 x1 (-9 : Int32) (7 : Int32) J2) else (Post (-1 : Int32) J2))

set_option maxRecDepth 100000 in
set_option maxHeartbeats 4000000 in
theorem t_X10_odd_42 {f : Fx} {g : Gm}  {Post : Int32 → Mm → Prop} {Kb : Int32 → Int32 → Int32 → Mm → Prop} (hC : Cx f cX10_odd 4 RX10 wsX10_odd rm_X10_odd) (hG : shM g) (hR : RtI f cX10_odd (fun r u => u.1 = g ∧ Post r u.2)) (hKb : ∀ (x1 : Int32) (x2 : Int32) (x3 : Int32) (I : Mm) , Kb x1 x2 x3 I → PW f 0 0 g I 16 [(0, .ref (gA g 100)), (1, .int x1), (2, .int x2), (3, .int x3)] []) : ∀ (x1 : Int32) (x3 : Int32) (s0 : Int32) (I : Mm) , wp_X10_odd_42  Kb Post x1 x3 s0 I → PW f 0 0 g I 42 [(0, .ref (gA g 100)), (1, .int x1), (3, .int x3)] [.int s0] := by
  intro x1 x3 s0 I  hw
  unfold wp_X10_odd_42 at hw
  refine r_istore_n hC (lv' := [(2, .int s0), (0, .ref (gA g 100)), (1, .int x1), (3, .int x3)]) dX10_odd_42 rfl rfl (by decide) rfl ?_
  refine r_iinc hC (k := -1) (lv' := [(3, .int (x3 + (-1))), (2, .int s0), (0, .ref (gA g 100)), (1, .int x1)]) dX10_odd_43 rfl (j := 3) rfl (by decide) (by decide) rfl ?_
  refine r_goto hC (tgt := 16) dX10_odd_46 (by decide) ?_
  exact r_sub (lv' := [(0, .ref (gA g 100)), (1, .int x1), (2, .int s0), (3, .int (x3 + (-1)))]) [2, 3, 1, 0] rfl (hKb _ _ _ _ hw)
set_option maxRecDepth 100000 in
set_option maxHeartbeats 4000000 in
theorem t_X10_odd_16 {f : Fx} {g : Gm}  {Post : Int32 → Mm → Prop}  (hC : Cx f cX10_odd 4 RX10 wsX10_odd rm_X10_odd) (hG : shM g) (hR : RtI f cX10_odd (fun r u => u.1 = g ∧ Post r u.2))  : ∀ (nn16 : Nat) (x1 : Int32) (x2 : Int32) (x3 : Int32) (I : Mm) , wp_X10_odd_16   Post nn16 x1 x2 x3 I → PW f 0 0 g I 16 [(0, .ref (gA g 100)), (1, .int x1), (2, .int x2), (3, .int x3)] [] := by
  intro nn16
  induction nn16 with
  | zero =>
    intro x1 x2 x3 I  hw
    exact absurd hw id
  | succ nn16 ih =>
    intro x1 x2 x3 I  hw
    unfold wp_X10_odd_16 at hw
    refine r_iload_n hC dX10_odd_16 rfl rfl (j := 3) rfl ?_
    refine r_if_le hC (tgt := 49) dX10_odd_17 rfl (by decide) hw (fun hw => ?_) (fun hw => ?_)
    · refine r_iload_n hC dX10_odd_49 rfl rfl (j := 2) rfl ?_
      exact r_retI hC hR ⟨rfl, rfl⟩ dX10_odd_50 hw
    · refine r_aload_n hC dX10_odd_20 rfl rfl (j := 0) rfl ?_
      refine r_iload_n hC dX10_odd_21 rfl rfl (j := 1) rfl ?_
      refine r_iload_n hC dX10_odd_22 rfl rfl (j := 3) rfl ?_
      refine r_callI hC (a_V hC (k := 10) (c_X10_missesBy hG hw) ci_X10_missesBy gX10_odd_X10_missesBy rfl ⟨Nat.le_of_ble_eq_true rfl, Nat.le_of_ble_eq_true rfl⟩ ⟨Nat.le_of_ble_eq_true rfl, Nat.le_of_ble_eq_true rfl⟩ rfl (by decide) hG.o.1 (List.mem_singleton.mp hG.o.2) rfl rfl (Nat.le_of_ble_eq_true rfl) dX10_odd_23) ⟨rfl, rfl⟩ rfl (fun r3 J4 hw => ?_)
      refine r_aload_n hC dX10_odd_26 rfl rfl (j := 0) rfl ?_
      refine r_iload_n hC dX10_odd_27 rfl rfl (j := 1) rfl ?_
      refine r_iload_n hC dX10_odd_28 rfl rfl (j := 3) rfl ?_
      refine r_iconst hC (v := (1 : Int32)) dX10_odd_29 rfl (by decide) ?_
      refine r_iadd hC dX10_odd_30 rfl ?_
      refine r_callI hC (a_V hC (k := 10) (c_X10_missesBy hG hw) ci_X10_missesBy gX10_odd_X10_missesBy rfl ⟨Nat.le_of_ble_eq_true rfl, Nat.le_of_ble_eq_true rfl⟩ ⟨Nat.le_of_ble_eq_true rfl, Nat.le_of_ble_eq_true rfl⟩ rfl (by decide) hG.o.1 (List.mem_singleton.mp hG.o.2) rfl rfl (Nat.le_of_ble_eq_true rfl) dX10_odd_31) ⟨rfl, rfl⟩ rfl (fun r5 J6 hw => ?_)
      refine r_icmp_ge hC (tgt := 41) dX10_odd_34 rfl (by decide) hw (fun hw => ?_) (fun hw => ?_)
      · refine r_iload_n hC dX10_odd_41 rfl rfl (j := 2) rfl ?_
        exact r_sub (lv' := [(0, .ref (gA g 100)), (1, .int x1), (3, .int x3)]) [0, 1, 3] rfl (t_X10_odd_42 hC hG hR (fun x1 x2 x3 I  hw => ih x1 x2 x3 I  hw) _ _ _ _ hw)
      · refine r_iload_n hC dX10_odd_37 rfl rfl (j := 3) rfl ?_
        refine r_goto hC (tgt := 42) dX10_odd_38 (by decide) ?_
        exact r_sub (lv' := [(0, .ref (gA g 100)), (1, .int x1), (3, .int x3)]) [0, 1, 3] rfl (t_X10_odd_42 hC hG hR (fun x1 x2 x3 I  hw => ih x1 x2 x3 I  hw) _ _ _ _ hw)
set_option maxRecDepth 100000 in
set_option maxHeartbeats 4000000 in
theorem t_X10_odd_0 {f : Fx} {g : Gm}  {Post : Int32 → Mm → Prop} {x1 : Int32} {I : Mm} (hC : Cx f cX10_odd 4 RX10 wsX10_odd rm_X10_odd) (hG : shM g) (hR : RtI f cX10_odd (fun r u => u.1 = g ∧ Post r u.2)) (hw : wp_X10_odd  x1 I Post) : PW f 0 0 g I 0 [(0, .ref (gA g 100)), (1, .int x1)] [] := by
  unfold wp_X10_odd at hw
  refine r_aload_n hC dX10_odd_0 rfl rfl (j := 0) rfl ?_
  refine r_iload_n hC dX10_odd_1 rfl rfl (j := 1) rfl ?_
  refine r_callI hC (a_V hC (k := 10) (c_X10_noDesk hG hw) ci_X10_noDesk gX10_odd_X10_noDesk rfl ⟨Nat.le_of_ble_eq_true rfl, Nat.le_of_ble_eq_true rfl⟩ ⟨Nat.le_of_ble_eq_true rfl, Nat.le_of_ble_eq_true rfl⟩ rfl (by decide) hG.o.1 (List.mem_singleton.mp hG.o.2) rfl rfl (Nat.le_of_ble_eq_true rfl) dX10_odd_2) ⟨rfl, rfl⟩ rfl (fun r1 J2 hw => ?_)
  refine r_if_eq hC (tgt := 10) dX10_odd_5 rfl (by decide) hw (fun hw => ?_) (fun hw => ?_)
  · refine r_bipush hC (v := (-9 : Int32)) dX10_odd_10 rfl (by decide) ?_
    refine r_istore_n hC (lv' := [(2, .int (-9 : Int32)), (0, .ref (gA g 100)), (1, .int x1)]) dX10_odd_12 rfl rfl (by decide) rfl ?_
    refine r_bipush hC (v := (7 : Int32)) dX10_odd_13 rfl (by decide) ?_
    refine r_istore_n hC (lv' := [(3, .int (7 : Int32)), (2, .int (-9 : Int32)), (0, .ref (gA g 100)), (1, .int x1)]) dX10_odd_15 rfl rfl (by decide) rfl ?_
    obtain ⟨nn16, hw⟩ := hw
    exact r_sub (lv' := [(0, .ref (gA g 100)), (1, .int x1), (2, .int (-9 : Int32)), (3, .int (7 : Int32))]) [2, 3, 1, 0] rfl ((t_X10_odd_16 hC hG hR nn16 _ _ _ _ hw))
  · refine r_iconst hC (v := (-1 : Int32)) dX10_odd_8 rfl (by decide) ?_
    exact r_retI hC hR ⟨rfl, rfl⟩ dX10_odd_9 hw
set_option maxRecDepth 100000 in
theorem c_X10_odd {l : Launch} {x : Gx} {g : Gm}  {x1 : Int32} {I : Mm} {Post : Int32 → Mm → Prop} (hG : shM g) (hw : wp_X10_odd  x1 I Post) : KI l x yX10_odd wsX10_odd rm_X10_odd g I [.ref (gA g 100), .int x1] (fun r u => u.1 = g ∧ Post r u.2) := KI_of (by decide) rfl rfl (Nat.le_of_ble_eq_true rfl) (fun f hC _ _ hR => t_X10_odd_0 hC hG hR hw)
