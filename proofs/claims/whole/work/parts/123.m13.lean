/-! X10_as -/
abbrev rm_X10_as : Room := { frames := 2, cells := 0, slots := 0, locals := 46 }
theorem ci_X10_as : CI yX10_as wsX10_as cX10_as 3 (some .int) 2 := ⟨⟨_, rfl⟩, by decide, by decide, by decide +kernel⟩
def wp_X10_as  (x1 : Int32) (x2 : Int32) (I : Mm) (Post : Int32 → Mm → Prop) : Prop := wp_X10_noDesk x1 I (fun r1 J2 => if r1 = 0 then (wp_X10_in x2.toInt64 (0 : Int64) (2 : Int64) J2 (fun r3 J4 => if r3 = 0 then (wp_X10_refused (-2 : Int32) J4 (fun r9 J10 => Post r9 J10)) else (vp_in x1 4 ∧ (if (J4 104 x1.toNatClampNeg) < x2 then (wp_X10_failed (2 : Int32) J4 (fun r5 J6 => Post r5 J6)) else (wp_X10_refused (1 : Int32) J4 (fun r7 J8 => Post r7 J8)))))) else (wp_X10_refused (-1 : Int32) J2 (fun r11 J12 => Post r11 J12)))
set_option maxRecDepth 20000 in
theorem uw_X10_as_10 : ∀ w ∈ u_ws RX10 TX10 30, w ∈ wsX10_as := by decide +kernel
set_option maxRecDepth 20000 in
theorem ffg_X10_as_7 : ∀ k ∈ ([10] : List Nat), FF wsX10_as RX10 7 k 4 ∧ fR k 4 = true := List.forall_mem_cons.mpr ⟨⟨⟨RX10, TX10, 30, "PageDesksModel", rfl, rfl, by decide, by decide, uw_X10_as_10, (List.mem_of_getElem? (i := 2) rfl), Or.inl rfl⟩, rfl⟩, fun _ h => absurd h List.not_mem_nil⟩
set_option maxRecDepth 100000 in
set_option maxHeartbeats 4000000 in
theorem t_X10_as_0 {f : Fx} {g : Gm}  {Post : Int32 → Mm → Prop} {x1 : Int32} {x2 : Int32} {I : Mm} (hC : Cx f cX10_as 3 RX10 wsX10_as rm_X10_as) (hG : shM g) (hR : RtI f cX10_as (fun r u => u.1 = g ∧ Post r u.2)) (hw : wp_X10_as  x1 x2 I Post) : PW f 0 0 g I 0 [(0, .ref (gA g 100)), (1, .int x1), (2, .int x2)] [] := by
  unfold wp_X10_as at hw
  refine r_aload_n hC dX10_as_0 rfl rfl (j := 0) rfl ?_
  refine r_iload_n hC dX10_as_1 rfl rfl (j := 1) rfl ?_
  refine r_callI hC (a_V hC (k := 10) (c_X10_noDesk hG hw) ci_X10_noDesk gX10_as_X10_noDesk rfl ⟨Nat.le_of_ble_eq_true rfl, Nat.le_of_ble_eq_true rfl⟩ ⟨Nat.le_of_ble_eq_true rfl, Nat.le_of_ble_eq_true rfl⟩ rfl (by decide) hG.o.1 (List.mem_singleton.mp hG.o.2) rfl rfl (Nat.le_of_ble_eq_true rfl) dX10_as_2) ⟨rfl, rfl⟩ rfl (fun r1 J2 hw => ?_)
  refine r_if_eq hC (tgt := 14) dX10_as_5 rfl (by decide) hw (fun hw => ?_) (fun hw => ?_)
  · refine r_iload_n hC dX10_as_14 rfl rfl (j := 2) rfl ?_
    refine r_i2l hC dX10_as_15 rfl ?_
    refine r_lconst hC (v := (0 : Int64)) dX10_as_16 rfl (by decide) ?_
    refine r_ldc2 hC (v := (2 : Int64)) dX10_as_17 rfl (List.mem_of_getElem? (i := 1) rfl) ?_
    refine r_callI hC (a_S hC (c_X10_in  hw) ci_X10_in gX10_as_X10_in ⟨Nat.le_of_ble_eq_true rfl, Nat.le_of_ble_eq_true rfl⟩ ⟨Nat.le_of_ble_eq_true rfl, Nat.le_of_ble_eq_true rfl⟩ rfl rfl (Nat.le_of_ble_eq_true rfl) dX10_as_20) ⟨rfl, rfl⟩ rfl (fun r3 J4 hw => ?_)
    refine r_if_ne hC (tgt := 33) dX10_as_23 rfl (by decide) hw (fun hw => ?_) (fun hw => ?_)
    · refine r_aload_n hC dX10_as_33 rfl rfl (j := 0) rfl ?_
      refine r_getR hC dX10_as_34 rfl hG.o.1 hG.o.2 ffg_X10_as_7 hG.a4.2 ?_
      refine r_iload_n hC dX10_as_37 rfl rfl (j := 1) rfl ?_
      obtain ⟨hi, hw⟩ := hw
      refine r_iald hC dX10_as_38 rfl (hG.a4.1).1 (hG.a4.1).2.1 (by rw [(hG.a4.1).2.2]; exact hi) ?_
      refine r_iload_n hC dX10_as_39 rfl rfl (j := 2) rfl ?_
      refine r_icmp_lt hC (tgt := 51) dX10_as_40 rfl (by decide) hw (fun hw => ?_) (fun hw => ?_)
      · refine r_aload_n hC dX10_as_51 rfl rfl (j := 0) rfl ?_
        refine r_iconst hC (v := (2 : Int32)) dX10_as_52 rfl (by decide) ?_
        refine r_callI hC (a_V hC (k := 10) (c_X10_failed hG hw) ci_X10_failed gX10_as_X10_failed rfl ⟨Nat.le_of_ble_eq_true rfl, Nat.le_of_ble_eq_true rfl⟩ ⟨Nat.le_of_ble_eq_true rfl, Nat.le_of_ble_eq_true rfl⟩ rfl (by decide) hG.o.1 (List.mem_singleton.mp hG.o.2) rfl rfl (Nat.le_of_ble_eq_true rfl) dX10_as_53) ⟨rfl, rfl⟩ rfl (fun r5 J6 hw => ?_)
        exact r_retI hC hR ⟨rfl, rfl⟩ dX10_as_56 hw
      · refine r_aload_n hC dX10_as_43 rfl rfl (j := 0) rfl ?_
        refine r_iconst hC (v := (1 : Int32)) dX10_as_44 rfl (by decide) ?_
        refine r_callI hC (a_V hC (k := 10) (c_X10_refused hG hw) ci_X10_refused gX10_as_X10_refused rfl ⟨Nat.le_of_ble_eq_true rfl, Nat.le_of_ble_eq_true rfl⟩ ⟨Nat.le_of_ble_eq_true rfl, Nat.le_of_ble_eq_true rfl⟩ rfl (by decide) hG.o.1 (List.mem_singleton.mp hG.o.2) rfl rfl (Nat.le_of_ble_eq_true rfl) dX10_as_45) ⟨rfl, rfl⟩ rfl (fun r7 J8 hw => ?_)
        refine r_goto hC (tgt := 56) dX10_as_48 (by decide) ?_
        exact r_retI hC hR ⟨rfl, rfl⟩ dX10_as_56 hw
    · refine r_aload_n hC dX10_as_26 rfl rfl (j := 0) rfl ?_
      refine r_bipush hC (v := (-2 : Int32)) dX10_as_27 rfl (by decide) ?_
      refine r_callI hC (a_V hC (k := 10) (c_X10_refused hG hw) ci_X10_refused gX10_as_X10_refused rfl ⟨Nat.le_of_ble_eq_true rfl, Nat.le_of_ble_eq_true rfl⟩ ⟨Nat.le_of_ble_eq_true rfl, Nat.le_of_ble_eq_true rfl⟩ rfl (by decide) hG.o.1 (List.mem_singleton.mp hG.o.2) rfl rfl (Nat.le_of_ble_eq_true rfl) dX10_as_29) ⟨rfl, rfl⟩ rfl (fun r9 J10 hw => ?_)
      exact r_retI hC hR ⟨rfl, rfl⟩ dX10_as_32 hw
  · refine r_aload_n hC dX10_as_8 rfl rfl (j := 0) rfl ?_
    refine r_iconst hC (v := (-1 : Int32)) dX10_as_9 rfl (by decide) ?_
    refine r_callI hC (a_V hC (k := 10) (c_X10_refused hG hw) ci_X10_refused gX10_as_X10_refused rfl ⟨Nat.le_of_ble_eq_true rfl, Nat.le_of_ble_eq_true rfl⟩ ⟨Nat.le_of_ble_eq_true rfl, Nat.le_of_ble_eq_true rfl⟩ rfl (by decide) hG.o.1 (List.mem_singleton.mp hG.o.2) rfl rfl (Nat.le_of_ble_eq_true rfl) dX10_as_10) ⟨rfl, rfl⟩ rfl (fun r11 J12 hw => ?_)
    exact r_retI hC hR ⟨rfl, rfl⟩ dX10_as_13 hw
set_option maxRecDepth 100000 in
theorem c_X10_as {l : Launch} {x : Gx} {g : Gm}  {x1 : Int32} {x2 : Int32} {I : Mm} {Post : Int32 → Mm → Prop} (hG : shM g) (hw : wp_X10_as  x1 x2 I Post) : KI l x yX10_as wsX10_as rm_X10_as g I [.ref (gA g 100), .int x1, .int x2] (fun r u => u.1 = g ∧ Post r u.2) := KI_of (by decide) rfl rfl (Nat.le_of_ble_eq_true rfl) (fun f hC _ _ hR => t_X10_as_0 hC hG hR hw)

/-! X10_trace -/
abbrev rm_X10_trace : Room := { frames := 0, cells := 0, slots := 0, locals := 0 }
theorem ci_X10_trace : CI yX10_trace wsX10_trace cX10_trace 1 (some .int) 0 := ⟨⟨_, rfl⟩, by decide, by decide, by decide +kernel⟩
def wp_X10_trace   (I : Mm) (Post : Int32 → Mm → Prop) : Prop := Post (I 100 29) I
set_option maxRecDepth 20000 in
theorem uw_X10_trace_10 : ∀ w ∈ u_ws RX10 TX10 30, w ∈ wsX10_trace := by decide +kernel
set_option maxRecDepth 20000 in
theorem ffg_X10_trace_245 : ∀ k ∈ ([10] : List Nat), FF wsX10_trace RX10 245 k 29 ∧ fR k 29 = false := List.forall_mem_cons.mpr ⟨⟨⟨RX10, TX10, 30, "PageDesksModel", rfl, rfl, by decide, by decide, uw_X10_trace_10, (List.mem_of_getElem? (i := 1) rfl), Or.inl rfl⟩, rfl⟩, fun _ h => absurd h List.not_mem_nil⟩
set_option maxRecDepth 100000 in
set_option maxHeartbeats 4000000 in
theorem t_X10_trace_0 {f : Fx} {g : Gm}  {Post : Int32 → Mm → Prop}  {I : Mm} (hC : Cx f cX10_trace 1 RX10 wsX10_trace rm_X10_trace) (hG : shM g) (hR : RtI f cX10_trace (fun r u => u.1 = g ∧ Post r u.2)) (hw : wp_X10_trace   I Post) : PW f 0 0 g I 0 [(0, .ref (gA g 100))] [] := by
  unfold wp_X10_trace at hw
  refine r_aload_n hC dX10_trace_0 rfl rfl (j := 0) rfl ?_
  refine r_getI hC dX10_trace_1 rfl hG.o.1 hG.o.2 ffg_X10_trace_245 ?_
  exact r_retI hC hR ⟨rfl, rfl⟩ dX10_trace_4 hw
set_option maxRecDepth 100000 in
theorem c_X10_trace {l : Launch} {x : Gx} {g : Gm}   {I : Mm} {Post : Int32 → Mm → Prop} (hG : shM g) (hw : wp_X10_trace   I Post) : KI l x yX10_trace wsX10_trace rm_X10_trace g I [.ref (gA g 100)] (fun r u => u.1 = g ∧ Post r u.2) := KI_of (by decide) rfl rfl (Nat.le_of_ble_eq_true rfl) (fun f hC _ _ hR => t_X10_trace_0 hC hG hR hw)

/-! X10_fault -/
abbrev rm_X10_fault : Room := { frames := 0, cells := 0, slots := 0, locals := 0 }
theorem ci_X10_fault : CI yX10_fault wsX10_fault cX10_fault 1 (some .int) 0 := ⟨⟨_, rfl⟩, by decide, by decide, by decide +kernel⟩
def wp_X10_fault   (I : Mm) (Post : Int32 → Mm → Prop) : Prop := Post (I 100 0) I
set_option maxRecDepth 20000 in
theorem uw_X10_fault_10 : ∀ w ∈ u_ws RX10 TX10 30, w ∈ wsX10_fault := by decide +kernel
set_option maxRecDepth 20000 in
theorem ffg_X10_fault_60 : ∀ k ∈ ([10] : List Nat), FF wsX10_fault RX10 60 k 0 ∧ fR k 0 = false := List.forall_mem_cons.mpr ⟨⟨⟨RX10, TX10, 30, "PageDesksModel", rfl, rfl, by decide, by decide, uw_X10_fault_10, (List.mem_of_getElem? (i := 1) rfl), Or.inl rfl⟩, rfl⟩, fun _ h => absurd h List.not_mem_nil⟩
set_option maxRecDepth 100000 in
set_option maxHeartbeats 4000000 in
theorem t_X10_fault_0 {f : Fx} {g : Gm}  {Post : Int32 → Mm → Prop}  {I : Mm} (hC : Cx f cX10_fault 1 RX10 wsX10_fault rm_X10_fault) (hG : shM g) (hR : RtI f cX10_fault (fun r u => u.1 = g ∧ Post r u.2)) (hw : wp_X10_fault   I Post) : PW f 0 0 g I 0 [(0, .ref (gA g 100))] [] := by
  unfold wp_X10_fault at hw
  refine r_aload_n hC dX10_fault_0 rfl rfl (j := 0) rfl ?_
  refine r_getI hC dX10_fault_1 rfl hG.o.1 hG.o.2 ffg_X10_fault_60 ?_
  exact r_retI hC hR ⟨rfl, rfl⟩ dX10_fault_4 hw
set_option maxRecDepth 100000 in
theorem c_X10_fault {l : Launch} {x : Gx} {g : Gm}   {I : Mm} {Post : Int32 → Mm → Prop} (hG : shM g) (hw : wp_X10_fault   I Post) : KI l x yX10_fault wsX10_fault rm_X10_fault g I [.ref (gA g 100)] (fun r u => u.1 = g ∧ Post r u.2) := KI_of (by decide) rfl rfl (Nat.le_of_ble_eq_true rfl) (fun f hC _ _ hR => t_X10_fault_0 hC hG hR hw)

/-! X10_many -/
abbrev rm_X10_many : Room := { frames := 1, cells := 0, slots := 0, locals := 24 }
theorem ci_X10_many : CI yX10_many wsX10_many cX10_many 2 (some .int) 1 := ⟨⟨_, rfl⟩, by decide, by decide, by decide +kernel⟩
def wp_X10_many  (x1 : Int32) (I : Mm) (Post : Int32 → Mm → Prop) : Prop := if x1 = 0 then (Post (I 100 1) I) else (if x1 = 1 then (Post (I 100 2) I) else (if x1 = 2 then (Post (I 100 3) I) else (if x1 = 3 then (wp_X10_pagesFrom (0 : Int32) ((I 100 2) - (1 : Int32)) I (fun r1 J2 => wp_X10_bits r1 J2 (fun r3 J4 => Post r3 J4))) else (if x1 = 4 then (Post (I 100 21) I) else (Post (-2 : Int32) I)))))
set_option maxRecDepth 20000 in
theorem uw_X10_many_10 : ∀ w ∈ u_ws RX10 TX10 30, w ∈ wsX10_many := by decide +kernel
set_option maxRecDepth 20000 in
theorem ffg_X10_many_68 : ∀ k ∈ ([10] : List Nat), FF wsX10_many RX10 68 k 1 ∧ fR k 1 = false := List.forall_mem_cons.mpr ⟨⟨⟨RX10, TX10, 30, "PageDesksModel", rfl, rfl, by decide, by decide, uw_X10_many_10, (List.mem_of_getElem? (i := 1) rfl), Or.inl rfl⟩, rfl⟩, fun _ h => absurd h List.not_mem_nil⟩
set_option maxRecDepth 20000 in
theorem ffg_X10_many_75 : ∀ k ∈ ([10] : List Nat), FF wsX10_many RX10 75 k 2 ∧ fR k 2 = false := List.forall_mem_cons.mpr ⟨⟨⟨RX10, TX10, 30, "PageDesksModel", rfl, rfl, by decide, by decide, uw_X10_many_10, (List.mem_of_getElem? (i := 2) rfl), Or.inl rfl⟩, rfl⟩, fun _ h => absurd h List.not_mem_nil⟩
set_option maxRecDepth 20000 in
theorem ffg_X10_many_129 : ∀ k ∈ ([10] : List Nat), FF wsX10_many RX10 129 k 3 ∧ fR k 3 = false := List.forall_mem_cons.mpr ⟨⟨⟨RX10, TX10, 30, "PageDesksModel", rfl, rfl, by decide, by decide, uw_X10_many_10, (List.mem_of_getElem? (i := 3) rfl), Or.inl rfl⟩, rfl⟩, fun _ h => absurd h List.not_mem_nil⟩
set_option maxRecDepth 20000 in
theorem ffg_X10_many_132 : ∀ k ∈ ([10] : List Nat), FF wsX10_many RX10 132 k 21 ∧ fR k 21 = false := List.forall_mem_cons.mpr ⟨⟨⟨RX10, TX10, 30, "PageDesksModel", rfl, rfl, by decide, by decide, uw_X10_many_10, (List.mem_of_getElem? (i := 4) rfl), Or.inl rfl⟩, rfl⟩, fun _ h => absurd h List.not_mem_nil⟩
set_option maxRecDepth 100000 in
set_option maxHeartbeats 4000000 in
theorem t_X10_many_0 {f : Fx} {g : Gm}  {Post : Int32 → Mm → Prop} {x1 : Int32} {I : Mm} (hC : Cx f cX10_many 2 RX10 wsX10_many rm_X10_many) (hG : shM g) (hR : RtI f cX10_many (fun r u => u.1 = g ∧ Post r u.2)) (hw : wp_X10_many  x1 I Post) : PW f 0 0 g I 0 [(0, .ref (gA g 100)), (1, .int x1)] [] := by
  unfold wp_X10_many at hw
  refine r_iload_n hC dX10_many_0 rfl rfl (j := 1) rfl ?_
  by_cases h0 : x1 = 0
  · rw [if_pos h0] at hw
    refine r_tabIn hC (tgt := 36) dX10_many_1 h0 0 (by decide) (by decide) (by decide) rfl (by decide) ?_
    refine r_aload_n hC dX10_many_36 rfl rfl (j := 0) rfl ?_
    refine r_getI hC dX10_many_37 rfl hG.o.1 hG.o.2 ffg_X10_many_68 ?_
    exact r_retI hC hR ⟨rfl, rfl⟩ dX10_many_40 hw
  · rw [if_neg h0] at hw
    by_cases h1 : x1 = 1
    · rw [if_pos h1] at hw
      refine r_tabIn hC (tgt := 41) dX10_many_1 h1 1 (by decide) (by decide) (by decide) rfl (by decide) ?_
      refine r_aload_n hC dX10_many_41 rfl rfl (j := 0) rfl ?_
      refine r_getI hC dX10_many_42 rfl hG.o.1 hG.o.2 ffg_X10_many_75 ?_
      exact r_retI hC hR ⟨rfl, rfl⟩ dX10_many_45 hw
    · rw [if_neg h1] at hw
      by_cases h2 : x1 = 2
      · rw [if_pos h2] at hw
        refine r_tabIn hC (tgt := 46) dX10_many_1 h2 2 (by decide) (by decide) (by decide) rfl (by decide) ?_
        refine r_aload_n hC dX10_many_46 rfl rfl (j := 0) rfl ?_
        refine r_getI hC dX10_many_47 rfl hG.o.1 hG.o.2 ffg_X10_many_129 ?_
        exact r_retI hC hR ⟨rfl, rfl⟩ dX10_many_50 hw
      · rw [if_neg h2] at hw
        by_cases h3 : x1 = 3
        · rw [if_pos h3] at hw
          refine r_tabIn hC (tgt := 51) dX10_many_1 h3 3 (by decide) (by decide) (by decide) rfl (by decide) ?_
          refine r_aload_n hC dX10_many_51 rfl rfl (j := 0) rfl ?_
          refine r_iconst hC (v := (0 : Int32)) dX10_many_52 rfl (by decide) ?_
          refine r_aload_n hC dX10_many_53 rfl rfl (j := 0) rfl ?_
          refine r_getI hC dX10_many_54 rfl hG.o.1 hG.o.2 ffg_X10_many_75 ?_
          refine r_iconst hC (v := (1 : Int32)) dX10_many_57 rfl (by decide) ?_
          refine r_isub hC dX10_many_58 rfl ?_
          refine r_callI hC (a_V hC (k := 10) (c_X10_pagesFrom hG hw) ci_X10_pagesFrom gX10_many_X10_pagesFrom rfl ⟨Nat.le_of_ble_eq_true rfl, Nat.le_of_ble_eq_true rfl⟩ ⟨Nat.le_of_ble_eq_true rfl, Nat.le_of_ble_eq_true rfl⟩ rfl (by decide) hG.o.1 (List.mem_singleton.mp hG.o.2) rfl rfl (Nat.le_of_ble_eq_true rfl) dX10_many_59) ⟨rfl, rfl⟩ rfl (fun r1 J2 hw => ?_)
          refine r_callI hC (a_S hC (c_X10_bits  hw) ci_X10_bits gX10_many_X10_bits ⟨Nat.le_of_ble_eq_true rfl, Nat.le_of_ble_eq_true rfl⟩ ⟨Nat.le_of_ble_eq_true rfl, Nat.le_of_ble_eq_true rfl⟩ rfl rfl (Nat.le_of_ble_eq_true rfl) dX10_many_62) ⟨rfl, rfl⟩ rfl (fun r3 J4 hw => ?_)
          exact r_retI hC hR ⟨rfl, rfl⟩ dX10_many_65 hw
        · rw [if_neg h3] at hw
          by_cases h4 : x1 = 4
          · rw [if_pos h4] at hw
            refine r_tabIn hC (tgt := 66) dX10_many_1 h4 4 (by decide) (by decide) (by decide) rfl (by decide) ?_
            refine r_aload_n hC dX10_many_66 rfl rfl (j := 0) rfl ?_
            refine r_getI hC dX10_many_67 rfl hG.o.1 hG.o.2 ffg_X10_many_132 ?_
            exact r_retI hC hR ⟨rfl, rfl⟩ dX10_many_70 hw
          · rw [if_neg h4] at hw
            have e0 := lv_neT h0 (show (0 : Int32).toInt = 0 by decide)
            have e1 := lv_neT h1 (show (1 : Int32).toInt = 1 by decide)
            have e2 := lv_neT h2 (show (2 : Int32).toInt = 2 by decide)
            have e3 := lv_neT h3 (show (3 : Int32).toInt = 3 by decide)
            have e4 := lv_neT h4 (show (4 : Int32).toInt = 4 by decide)
            refine r_tabOut hC (tgt := 71) dX10_many_1 (by omega) (by decide) ?_
            refine r_bipush hC (v := (-2 : Int32)) dX10_many_71 rfl (by decide) ?_
            exact r_retI hC hR ⟨rfl, rfl⟩ dX10_many_73 hw
set_option maxRecDepth 100000 in
theorem c_X10_many {l : Launch} {x : Gx} {g : Gm}  {x1 : Int32} {I : Mm} {Post : Int32 → Mm → Prop} (hG : shM g) (hw : wp_X10_many  x1 I Post) : KI l x yX10_many wsX10_many rm_X10_many g I [.ref (gA g 100), .int x1] (fun r u => u.1 = g ∧ Post r u.2) := KI_of (by decide) rfl rfl (Nat.le_of_ble_eq_true rfl) (fun f hC _ _ hR => t_X10_many_0 hC hG hR hw)
