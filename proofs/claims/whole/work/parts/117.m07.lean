/-! X10_refused -/
abbrev rm_X10_refused : Room := { frames := 0, cells := 0, slots := 0, locals := 0 }
theorem ci_X10_refused : CI yX10_refused wsX10_refused cX10_refused 2 (some .int) 1 := ⟨⟨_, rfl⟩, by decide, by decide, by decide +kernel⟩
def wp_X10_refused  (x1 : Int32) (I : Mm) (Post : Int32 → Mm → Prop) : Prop := Post x1 (up2 I 100 0 (0 : Int32))
set_option maxRecDepth 20000 in
theorem uw_X10_refused_10 : ∀ w ∈ u_ws RX10 TX10 30, w ∈ wsX10_refused := by decide +kernel
set_option maxRecDepth 20000 in
theorem ffp_X10_refused_60 : ∀ k ∈ ([10] : List Nat), FF wsX10_refused RX10 60 k 0 ∧ fR k 0 = false ∧ FP k 0 := List.forall_mem_cons.mpr ⟨⟨⟨RX10, TX10, 30, "PageDesksModel", rfl, rfl, by decide, by decide, uw_X10_refused_10, (List.mem_of_getElem? (i := 1) rfl), Or.inl rfl⟩, rfl, ⟨RX10, TX10, 30, tyX10, rfl, tyX10_ok, nmX10, rfl, rfl⟩⟩, fun _ h => absurd h List.not_mem_nil⟩
set_option maxRecDepth 100000 in
set_option maxHeartbeats 4000000 in
theorem t_X10_refused_0 {f : Fx} {g : Gm}  {Post : Int32 → Mm → Prop} {x1 : Int32} {I : Mm} (hC : Cx f cX10_refused 2 RX10 wsX10_refused rm_X10_refused) (hG : shM g) (hR : RtI f cX10_refused (fun r u => u.1 = g ∧ Post r u.2)) (hw : wp_X10_refused  x1 I Post) : PW f 0 0 g I 0 [(0, .ref (gA g 100)), (1, .int x1)] [] := by
  unfold wp_X10_refused at hw
  refine r_aload_n hC dX10_refused_0 rfl rfl (j := 0) rfl ?_
  refine r_iconst hC (v := (0 : Int32)) dX10_refused_1 rfl (by decide) ?_
  refine r_putI hC dX10_refused_2 rfl hG.o.1 hG.o.2 ffp_X10_refused_60 ?_
  refine r_iload_n hC dX10_refused_5 rfl rfl (j := 1) rfl ?_
  exact r_retI hC hR ⟨rfl, rfl⟩ dX10_refused_6 hw
set_option maxRecDepth 100000 in
theorem c_X10_refused {l : Launch} {x : Gx} {g : Gm}  {x1 : Int32} {I : Mm} {Post : Int32 → Mm → Prop} (hG : shM g) (hw : wp_X10_refused  x1 I Post) : KI l x yX10_refused wsX10_refused rm_X10_refused g I [.ref (gA g 100), .int x1] (fun r u => u.1 = g ∧ Post r u.2) := KI_of (by decide) rfl rfl (Nat.le_of_ble_eq_true rfl) (fun f hC _ _ hR => t_X10_refused_0 hC hG hR hw)

/-! X10_failed -/
abbrev rm_X10_failed : Room := { frames := 0, cells := 0, slots := 0, locals := 0 }
theorem ci_X10_failed : CI yX10_failed wsX10_failed cX10_failed 2 (some .int) 1 := ⟨⟨_, rfl⟩, by decide, by decide, by decide +kernel⟩
def wp_X10_failed  (x1 : Int32) (I : Mm) (Post : Int32 → Mm → Prop) : Prop := Post ((-10 : Int32) - x1) (up2 I 100 0 x1)
set_option maxRecDepth 20000 in
theorem uw_X10_failed_10 : ∀ w ∈ u_ws RX10 TX10 30, w ∈ wsX10_failed := by decide +kernel
set_option maxRecDepth 20000 in
theorem ffp_X10_failed_60 : ∀ k ∈ ([10] : List Nat), FF wsX10_failed RX10 60 k 0 ∧ fR k 0 = false ∧ FP k 0 := List.forall_mem_cons.mpr ⟨⟨⟨RX10, TX10, 30, "PageDesksModel", rfl, rfl, by decide, by decide, uw_X10_failed_10, (List.mem_of_getElem? (i := 1) rfl), Or.inl rfl⟩, rfl, ⟨RX10, TX10, 30, tyX10, rfl, tyX10_ok, nmX10, rfl, rfl⟩⟩, fun _ h => absurd h List.not_mem_nil⟩
set_option maxRecDepth 100000 in
set_option maxHeartbeats 4000000 in
theorem t_X10_failed_0 {f : Fx} {g : Gm}  {Post : Int32 → Mm → Prop} {x1 : Int32} {I : Mm} (hC : Cx f cX10_failed 2 RX10 wsX10_failed rm_X10_failed) (hG : shM g) (hR : RtI f cX10_failed (fun r u => u.1 = g ∧ Post r u.2)) (hw : wp_X10_failed  x1 I Post) : PW f 0 0 g I 0 [(0, .ref (gA g 100)), (1, .int x1)] [] := by
  unfold wp_X10_failed at hw
  refine r_aload_n hC dX10_failed_0 rfl rfl (j := 0) rfl ?_
  refine r_iload_n hC dX10_failed_1 rfl rfl (j := 1) rfl ?_
  refine r_putI hC dX10_failed_2 rfl hG.o.1 hG.o.2 ffp_X10_failed_60 ?_
  refine r_bipush hC (v := (-10 : Int32)) dX10_failed_5 rfl (by decide) ?_
  refine r_iload_n hC dX10_failed_7 rfl rfl (j := 1) rfl ?_
  refine r_isub hC dX10_failed_8 rfl ?_
  exact r_retI hC hR ⟨rfl, rfl⟩ dX10_failed_9 hw
set_option maxRecDepth 100000 in
theorem c_X10_failed {l : Launch} {x : Gx} {g : Gm}  {x1 : Int32} {I : Mm} {Post : Int32 → Mm → Prop} (hG : shM g) (hw : wp_X10_failed  x1 I Post) : KI l x yX10_failed wsX10_failed rm_X10_failed g I [.ref (gA g 100), .int x1] (fun r u => u.1 = g ∧ Post r u.2) := KI_of (by decide) rfl rfl (Nat.le_of_ble_eq_true rfl) (fun f hC _ _ hR => t_X10_failed_0 hC hG hR hw)

/-! X10_failedLong -/
abbrev rm_X10_failedLong : Room := { frames := 1, cells := 0, slots := 0, locals := 19 }
theorem ci_X10_failedLong : CI yX10_failedLong wsX10_failedLong cX10_failedLong 2 (some .long) 1 := ⟨⟨_, rfl⟩, by decide, by decide, by decide +kernel⟩
def wp_X10_failedLong  (x1 : Int32) (I : Mm) (Post : Int64 → Mm → Prop) : Prop := wp_X10_lost  (up2 I 100 0 x1) (fun r1 J2 => Post r1 J2)
set_option maxRecDepth 20000 in
theorem uw_X10_failedLong_10 : ∀ w ∈ u_ws RX10 TX10 30, w ∈ wsX10_failedLong := by decide +kernel
set_option maxRecDepth 20000 in
theorem ffp_X10_failedLong_60 : ∀ k ∈ ([10] : List Nat), FF wsX10_failedLong RX10 60 k 0 ∧ fR k 0 = false ∧ FP k 0 := List.forall_mem_cons.mpr ⟨⟨⟨RX10, TX10, 30, "PageDesksModel", rfl, rfl, by decide, by decide, uw_X10_failedLong_10, (List.mem_of_getElem? (i := 1) rfl), Or.inl rfl⟩, rfl, ⟨RX10, TX10, 30, tyX10, rfl, tyX10_ok, nmX10, rfl, rfl⟩⟩, fun _ h => absurd h List.not_mem_nil⟩
set_option maxRecDepth 100000 in
set_option maxHeartbeats 4000000 in
theorem t_X10_failedLong_0 {f : Fx} {g : Gm}  {Post : Int64 → Mm → Prop} {x1 : Int32} {I : Mm} (hC : Cx f cX10_failedLong 2 RX10 wsX10_failedLong rm_X10_failedLong) (hG : shM g) (hR : RtL f cX10_failedLong (fun r u => u.1 = g ∧ Post r u.2)) (hw : wp_X10_failedLong  x1 I Post) : PW f 0 0 g I 0 [(0, .ref (gA g 100)), (1, .int x1)] [] := by
  unfold wp_X10_failedLong at hw
  refine r_aload_n hC dX10_failedLong_0 rfl rfl (j := 0) rfl ?_
  refine r_iload_n hC dX10_failedLong_1 rfl rfl (j := 1) rfl ?_
  refine r_putI hC dX10_failedLong_2 rfl hG.o.1 hG.o.2 ffp_X10_failedLong_60 ?_
  refine r_callL hC (a_S hC (c_X10_lost  hw) ci_X10_lost gX10_failedLong_X10_lost ⟨Nat.le_of_ble_eq_true rfl, Nat.le_of_ble_eq_true rfl⟩ ⟨Nat.le_of_ble_eq_true rfl, Nat.le_of_ble_eq_true rfl⟩ rfl rfl (Nat.le_of_ble_eq_true rfl) dX10_failedLong_5) ⟨rfl, rfl⟩ rfl (fun r1 J2 hw => ?_)
  exact r_retL hC hR ⟨rfl, rfl⟩ dX10_failedLong_8 hw
set_option maxRecDepth 100000 in
theorem c_X10_failedLong {l : Launch} {x : Gx} {g : Gm}  {x1 : Int32} {I : Mm} {Post : Int64 → Mm → Prop} (hG : shM g) (hw : wp_X10_failedLong  x1 I Post) : KL l x yX10_failedLong wsX10_failedLong rm_X10_failedLong g I [.ref (gA g 100), .int x1] (fun r u => u.1 = g ∧ Post r u.2) := KL_of (by decide) rfl rfl (Nat.le_of_ble_eq_true rfl) (fun f hC _ _ hR => t_X10_failedLong_0 hC hG hR hw)

/-! X10_noDesk -/
abbrev rm_X10_noDesk : Room := { frames := 1, cells := 0, slots := 0, locals := 25 }
theorem ci_X10_noDesk : CI yX10_noDesk wsX10_noDesk cX10_noDesk 2 (some .boolean) 1 := ⟨⟨_, rfl⟩, by decide, by decide, by decide +kernel⟩
def wp_X10_noDesk  (x1 : Int32) (I : Mm) (Post : Int32 → Mm → Prop) : Prop := wp_X10_in x1.toInt64 (0 : Int64) (((I 100 1).toInt64) - (1 : Int64)) I (fun r1 J2 => if r1 = 0 then (Post (1 : Int32) J2) else (Post (0 : Int32) J2))
set_option maxRecDepth 20000 in
theorem uw_X10_noDesk_10 : ∀ w ∈ u_ws RX10 TX10 30, w ∈ wsX10_noDesk := by decide +kernel
set_option maxRecDepth 20000 in
theorem ffg_X10_noDesk_68 : ∀ k ∈ ([10] : List Nat), FF wsX10_noDesk RX10 68 k 1 ∧ fR k 1 = false := List.forall_mem_cons.mpr ⟨⟨⟨RX10, TX10, 30, "PageDesksModel", rfl, rfl, by decide, by decide, uw_X10_noDesk_10, (List.mem_of_getElem? (i := 1) rfl), Or.inl rfl⟩, rfl⟩, fun _ h => absurd h List.not_mem_nil⟩
set_option maxRecDepth 100000 in
set_option maxHeartbeats 4000000 in
theorem t_X10_noDesk_0 {f : Fx} {g : Gm}  {Post : Int32 → Mm → Prop} {x1 : Int32} {I : Mm} (hC : Cx f cX10_noDesk 2 RX10 wsX10_noDesk rm_X10_noDesk) (hG : shM g) (hR : RtZ f cX10_noDesk (fun r u => u.1 = g ∧ Post r u.2)) (hw : wp_X10_noDesk  x1 I Post) : PW f 0 0 g I 0 [(0, .ref (gA g 100)), (1, .int x1)] [] := by
  unfold wp_X10_noDesk at hw
  refine r_iload_n hC dX10_noDesk_0 rfl rfl (j := 1) rfl ?_
  refine r_i2l hC dX10_noDesk_1 rfl ?_
  refine r_lconst hC (v := (0 : Int64)) dX10_noDesk_2 rfl (by decide) ?_
  refine r_aload_n hC dX10_noDesk_3 rfl rfl (j := 0) rfl ?_
  refine r_getI hC dX10_noDesk_4 rfl hG.o.1 hG.o.2 ffg_X10_noDesk_68 ?_
  refine r_i2l hC dX10_noDesk_7 rfl ?_
  refine r_lconst hC (v := (1 : Int64)) dX10_noDesk_8 rfl (by decide) ?_
  refine r_lsub hC dX10_noDesk_9 rfl ?_
  refine r_callI hC (a_S hC (c_X10_in  hw) ci_X10_in gX10_noDesk_X10_in ⟨Nat.le_of_ble_eq_true rfl, Nat.le_of_ble_eq_true rfl⟩ ⟨Nat.le_of_ble_eq_true rfl, Nat.le_of_ble_eq_true rfl⟩ rfl rfl (Nat.le_of_ble_eq_true rfl) dX10_noDesk_10) ⟨rfl, rfl⟩ rfl (fun r1 J2 hw => ?_)
  refine r_if_ne hC (tgt := 20) dX10_noDesk_13 rfl (by decide) hw (fun hw => ?_) (fun hw => ?_)
  · refine r_iconst hC (v := (0 : Int32)) dX10_noDesk_20 rfl (by decide) ?_
    exact r_retZ hC hR ⟨rfl, rfl⟩ dX10_noDesk_21 (by decide) hw
  · refine r_iconst hC (v := (1 : Int32)) dX10_noDesk_16 rfl (by decide) ?_
    refine r_goto hC (tgt := 21) dX10_noDesk_17 (by decide) ?_
    exact r_retZ hC hR ⟨rfl, rfl⟩ dX10_noDesk_21 (by decide) hw
set_option maxRecDepth 100000 in
theorem c_X10_noDesk {l : Launch} {x : Gx} {g : Gm}  {x1 : Int32} {I : Mm} {Post : Int32 → Mm → Prop} (hG : shM g) (hw : wp_X10_noDesk  x1 I Post) : KI l x yX10_noDesk wsX10_noDesk rm_X10_noDesk g I [.ref (gA g 100), .int x1] (fun r u => u.1 = g ∧ Post r u.2) := KZ_of (by decide) rfl rfl (Nat.le_of_ble_eq_true rfl) (fun f hC _ _ hR => t_X10_noDesk_0 hC hG hR hw)

/-! X10_noAsk -/
abbrev rm_X10_noAsk : Room := { frames := 1, cells := 0, slots := 0, locals := 25 }
theorem ci_X10_noAsk : CI yX10_noAsk wsX10_noAsk cX10_noAsk 2 (some .boolean) 1 := ⟨⟨_, rfl⟩, by decide, by decide, by decide +kernel⟩
def wp_X10_noAsk  (x1 : Int32) (I : Mm) (Post : Int32 → Mm → Prop) : Prop := wp_X10_in x1.toInt64 (0 : Int64) (((I 100 2).toInt64) - (1 : Int64)) I (fun r1 J2 => if r1 = 0 then (Post (1 : Int32) J2) else (Post (0 : Int32) J2))
set_option maxRecDepth 20000 in
theorem uw_X10_noAsk_10 : ∀ w ∈ u_ws RX10 TX10 30, w ∈ wsX10_noAsk := by decide +kernel
set_option maxRecDepth 20000 in
theorem ffg_X10_noAsk_75 : ∀ k ∈ ([10] : List Nat), FF wsX10_noAsk RX10 75 k 2 ∧ fR k 2 = false := List.forall_mem_cons.mpr ⟨⟨⟨RX10, TX10, 30, "PageDesksModel", rfl, rfl, by decide, by decide, uw_X10_noAsk_10, (List.mem_of_getElem? (i := 1) rfl), Or.inl rfl⟩, rfl⟩, fun _ h => absurd h List.not_mem_nil⟩
set_option maxRecDepth 100000 in
set_option maxHeartbeats 4000000 in
theorem t_X10_noAsk_0 {f : Fx} {g : Gm}  {Post : Int32 → Mm → Prop} {x1 : Int32} {I : Mm} (hC : Cx f cX10_noAsk 2 RX10 wsX10_noAsk rm_X10_noAsk) (hG : shM g) (hR : RtZ f cX10_noAsk (fun r u => u.1 = g ∧ Post r u.2)) (hw : wp_X10_noAsk  x1 I Post) : PW f 0 0 g I 0 [(0, .ref (gA g 100)), (1, .int x1)] [] := by
  unfold wp_X10_noAsk at hw
  refine r_iload_n hC dX10_noAsk_0 rfl rfl (j := 1) rfl ?_
  refine r_i2l hC dX10_noAsk_1 rfl ?_
  refine r_lconst hC (v := (0 : Int64)) dX10_noAsk_2 rfl (by decide) ?_
  refine r_aload_n hC dX10_noAsk_3 rfl rfl (j := 0) rfl ?_
  refine r_getI hC dX10_noAsk_4 rfl hG.o.1 hG.o.2 ffg_X10_noAsk_75 ?_
  refine r_i2l hC dX10_noAsk_7 rfl ?_
  refine r_lconst hC (v := (1 : Int64)) dX10_noAsk_8 rfl (by decide) ?_
  refine r_lsub hC dX10_noAsk_9 rfl ?_
  refine r_callI hC (a_S hC (c_X10_in  hw) ci_X10_in gX10_noAsk_X10_in ⟨Nat.le_of_ble_eq_true rfl, Nat.le_of_ble_eq_true rfl⟩ ⟨Nat.le_of_ble_eq_true rfl, Nat.le_of_ble_eq_true rfl⟩ rfl rfl (Nat.le_of_ble_eq_true rfl) dX10_noAsk_10) ⟨rfl, rfl⟩ rfl (fun r1 J2 hw => ?_)
  refine r_if_ne hC (tgt := 20) dX10_noAsk_13 rfl (by decide) hw (fun hw => ?_) (fun hw => ?_)
  · refine r_iconst hC (v := (0 : Int32)) dX10_noAsk_20 rfl (by decide) ?_
    exact r_retZ hC hR ⟨rfl, rfl⟩ dX10_noAsk_21 (by decide) hw
  · refine r_iconst hC (v := (1 : Int32)) dX10_noAsk_16 rfl (by decide) ?_
    refine r_goto hC (tgt := 21) dX10_noAsk_17 (by decide) ?_
    exact r_retZ hC hR ⟨rfl, rfl⟩ dX10_noAsk_21 (by decide) hw
set_option maxRecDepth 100000 in
theorem c_X10_noAsk {l : Launch} {x : Gx} {g : Gm}  {x1 : Int32} {I : Mm} {Post : Int32 → Mm → Prop} (hG : shM g) (hw : wp_X10_noAsk  x1 I Post) : KI l x yX10_noAsk wsX10_noAsk rm_X10_noAsk g I [.ref (gA g 100), .int x1] (fun r u => u.1 = g ∧ Post r u.2) := KZ_of (by decide) rfl rfl (Nat.le_of_ble_eq_true rfl) (fun f hC _ _ hR => t_X10_noAsk_0 hC hG hR hw)

/-! X10_isPage -/
abbrev rm_X10_isPage : Room := { frames := 1, cells := 0, slots := 0, locals := 25 }
theorem ci_X10_isPage : CI yX10_isPage wsX10_isPage cX10_isPage 1 (some .boolean) 1 := ⟨⟨_, rfl⟩, by decide, by decide, by decide +kernel⟩
def wp_X10_isPage  (x0 : Int32) (I : Mm) (Post : Int32 → Mm → Prop) : Prop := wp_X10_in x0.toInt64 (0 : Int64) (7 : Int64) I (fun r1 J2 => (r1 = 0 ∨ r1 = 1) ∧ Post r1 J2)

set_option maxRecDepth 100000 in
set_option maxHeartbeats 4000000 in
theorem t_X10_isPage_0 {f : Fx} {g : Gm}  {Post : Int32 → Mm → Prop} {x0 : Int32} {I : Mm} (hC : Cx f cX10_isPage 1 RX10 wsX10_isPage rm_X10_isPage)  (hR : RtZ f cX10_isPage (fun r u => u.1 = g ∧ Post r u.2)) (hw : wp_X10_isPage  x0 I Post) : PW f 0 0 g I 0 [(0, .int x0)] [] := by
  unfold wp_X10_isPage at hw
  refine r_iload_n hC dX10_isPage_0 rfl rfl (j := 0) rfl ?_
  refine r_i2l hC dX10_isPage_1 rfl ?_
  refine r_lconst hC (v := (0 : Int64)) dX10_isPage_2 rfl (by decide) ?_
  refine r_ldc2 hC (v := (7 : Int64)) dX10_isPage_3 rfl (List.mem_of_getElem? (i := 1) rfl) ?_
  refine r_callI hC (a_S hC (c_X10_in  hw) ci_X10_in gX10_isPage_X10_in ⟨Nat.le_of_ble_eq_true rfl, Nat.le_of_ble_eq_true rfl⟩ ⟨Nat.le_of_ble_eq_true rfl, Nat.le_of_ble_eq_true rfl⟩ rfl rfl (Nat.le_of_ble_eq_true rfl) dX10_isPage_6) ⟨rfl, rfl⟩ rfl (fun r1 J2 hw => ?_)
  exact r_retZ hC hR ⟨rfl, rfl⟩ dX10_isPage_9 (zb_of hw.1) hw.2
set_option maxRecDepth 100000 in
theorem c_X10_isPage {l : Launch} {x : Gx} {g : Gm}  {x0 : Int32} {I : Mm} {Post : Int32 → Mm → Prop}  (hw : wp_X10_isPage  x0 I Post) : KI l x yX10_isPage wsX10_isPage rm_X10_isPage g I [.int x0] (fun r u => u.1 = g ∧ Post r u.2) := KZ_of (by decide) rfl rfl (Nat.le_of_ble_eq_true rfl) (fun f hC _ _ hR => t_X10_isPage_0 hC  hR hw)

/-! X10_codeAt -/
abbrev rm_X10_codeAt : Room := { frames := 0, cells := 0, slots := 0, locals := 0 }
theorem ci_X10_codeAt : CI yX10_codeAt wsX10_codeAt cX10_codeAt 3 (some .int) 2 := ⟨⟨_, rfl⟩, by decide, by decide, by decide +kernel⟩
def wp_X10_codeAt  (x1 : Int32) (x2 : Int32) (I : Mm) (Post : Int32 → Mm → Prop) : Prop := if x2 ≤ (I 100 7) then (Post (-9 : Int32) I) else (vp_in (x1 + (I 100 7)) 240 ∧ (Post (I 127 (x1 + (I 100 7)).toNatClampNeg) I))
set_option maxRecDepth 20000 in
theorem uw_X10_codeAt_10 : ∀ w ∈ u_ws RX10 TX10 30, w ∈ wsX10_codeAt := by decide +kernel
set_option maxRecDepth 20000 in
theorem ffg_X10_codeAt_80 : ∀ k ∈ ([10] : List Nat), FF wsX10_codeAt RX10 80 k 7 ∧ fR k 7 = false := List.forall_mem_cons.mpr ⟨⟨⟨RX10, TX10, 30, "PageDesksModel", rfl, rfl, by decide, by decide, uw_X10_codeAt_10, (List.mem_of_getElem? (i := 1) rfl), Or.inl rfl⟩, rfl⟩, fun _ h => absurd h List.not_mem_nil⟩
set_option maxRecDepth 20000 in
theorem ffg_X10_codeAt_52 : ∀ k ∈ ([10] : List Nat), FF wsX10_codeAt RX10 52 k 27 ∧ fR k 27 = true := List.forall_mem_cons.mpr ⟨⟨⟨RX10, TX10, 30, "PageDesksModel", rfl, rfl, by decide, by decide, uw_X10_codeAt_10, (List.mem_of_getElem? (i := 2) rfl), Or.inl rfl⟩, rfl⟩, fun _ h => absurd h List.not_mem_nil⟩
set_option maxRecDepth 100000 in
set_option maxHeartbeats 4000000 in
theorem t_X10_codeAt_0 {f : Fx} {g : Gm}  {Post : Int32 → Mm → Prop} {x1 : Int32} {x2 : Int32} {I : Mm} (hC : Cx f cX10_codeAt 3 RX10 wsX10_codeAt rm_X10_codeAt) (hG : shM g) (hR : RtI f cX10_codeAt (fun r u => u.1 = g ∧ Post r u.2)) (hw : wp_X10_codeAt  x1 x2 I Post) : PW f 0 0 g I 0 [(0, .ref (gA g 100)), (1, .int x1), (2, .int x2)] [] := by
  unfold wp_X10_codeAt at hw
  refine r_aload_n hC dX10_codeAt_0 rfl rfl (j := 0) rfl ?_
  refine r_getI hC dX10_codeAt_1 rfl hG.o.1 hG.o.2 ffg_X10_codeAt_80 ?_
  refine r_iload_n hC dX10_codeAt_4 rfl rfl (j := 2) rfl ?_
  refine r_icmp_ge hC (tgt := 22) dX10_codeAt_5 rfl (by decide) hw (fun hw => ?_) (fun hw => ?_)
  · refine r_bipush hC (v := (-9 : Int32)) dX10_codeAt_22 rfl (by decide) ?_
    exact r_retI hC hR ⟨rfl, rfl⟩ dX10_codeAt_24 hw
  · refine r_aload_n hC dX10_codeAt_8 rfl rfl (j := 0) rfl ?_
    refine r_getR hC dX10_codeAt_9 rfl hG.o.1 hG.o.2 ffg_X10_codeAt_52 hG.a27.2 ?_
    refine r_iload_n hC dX10_codeAt_12 rfl rfl (j := 1) rfl ?_
    refine r_aload_n hC dX10_codeAt_13 rfl rfl (j := 0) rfl ?_
    refine r_getI hC dX10_codeAt_14 rfl hG.o.1 hG.o.2 ffg_X10_codeAt_80 ?_
    refine r_iadd hC dX10_codeAt_17 rfl ?_
    obtain ⟨hi, hw⟩ := hw
    refine r_iald hC dX10_codeAt_18 rfl (hG.a27.1).1 (hG.a27.1).2.1 (by rw [(hG.a27.1).2.2]; exact hi) ?_
    refine r_goto hC (tgt := 24) dX10_codeAt_19 (by decide) ?_
    exact r_retI hC hR ⟨rfl, rfl⟩ dX10_codeAt_24 hw
set_option maxRecDepth 100000 in
theorem c_X10_codeAt {l : Launch} {x : Gx} {g : Gm}  {x1 : Int32} {x2 : Int32} {I : Mm} {Post : Int32 → Mm → Prop} (hG : shM g) (hw : wp_X10_codeAt  x1 x2 I Post) : KI l x yX10_codeAt wsX10_codeAt rm_X10_codeAt g I [.ref (gA g 100), .int x1, .int x2] (fun r u => u.1 = g ∧ Post r u.2) := KI_of (by decide) rfl rfl (Nat.le_of_ble_eq_true rfl) (fun f hC _ _ hR => t_X10_codeAt_0 hC hG hR hw)

/-! X10_readsDesk -/
abbrev rm_X10_readsDesk : Room := { frames := 1, cells := 0, slots := 0, locals := 25 }
theorem ci_X10_readsDesk : CI yX10_readsDesk wsX10_readsDesk cX10_readsDesk 5 (some .boolean) 2 := ⟨⟨_, rfl⟩, by decide, by decide, by decide +kernel⟩
def wp_X10_readsDesk_133   (Post : Int32 → Mm → Prop) (x4 : Int32) (s0 : Int32) (s1 : Int32) (I : Mm) : Prop := vp_in s1 4 ∧ (vp_in ((up2 I 110 s1.toNatClampNeg s0) 100 8) 4 ∧ (Post (1 : Int32) (up2 (up2 (up2 I 110 s1.toNatClampNeg s0) 111 ((up2 I 110 s1.toNatClampNeg s0) 100 8).toNatClampNeg x4) 100 8 (((up2 (up2 I 110 s1.toNatClampNeg s0) 111 ((up2 I 110 s1.toNatClampNeg s0) 100 8).toNatClampNeg x4) 100 8) + (1 : Int32)))))
def wp_X10_readsDesk_58   (Post : Int32 → Mm → Prop) (x1 : Int32) (x2 : Int32) (x3 : Int32) (I : Mm) : Prop := wp_X10_codeAt x1 x2 (up2 I 100 7 ((I 100 7) + (1 : Int32))) (fun r5 J6 => wp_X10_in ((r5 - (48 : Int32)).toInt64) (1 : Int64) (5 : Int64) J6 (fun r7 J8 => if r7 = 0 then (Post (0 : Int32) J8) else (if x3 = (113 : Int32) then (wp_X10_readsDesk_133  Post (r5 - (48 : Int32)) (0 : Int32) ((up2 J8 100 7 ((J8 100 7) + (1 : Int32))) 100 8) (up2 J8 100 7 ((J8 100 7) + (1 : Int32)))) else (if x3 = (99 : Int32) then (wp_X10_readsDesk_133  Post (r5 - (48 : Int32)) (1 : Int32) ((up2 J8 100 7 ((J8 100 7) + (1 : Int32))) 100 8) (up2 J8 100 7 ((J8 100 7) + (1 : Int32)))) else (wp_X10_readsDesk_133  Post (r5 - (48 : Int32)) (2 : Int32) ((up2 J8 100 7 ((J8 100 7) + (1 : Int32))) 100 8) (up2 J8 100 7 ((J8 100 7) + (1 : Int32))))))))
def wp_X10_readsDesk  (x1 : Int32) (x2 : Int32) (I : Mm) (Post : Int32 → Mm → Prop) : Prop := if (I 100 8) = (4 : Int32) then (Post (0 : Int32) I) else (wp_X10_codeAt x1 x2 I (fun r1 J2 => if r1 = (59 : Int32) then (wp_X10_codeAt x1 x2 (up2 J2 100 7 ((J2 100 7) + (1 : Int32))) (fun r3 J4 => if r3 = (113 : Int32) then (wp_X10_readsDesk_58  Post x1 x2 r3 J4) else (if r3 = (99 : Int32) then (wp_X10_readsDesk_58  Post x1 x2 r3 J4) else (if r3 = (114 : Int32) then (wp_X10_readsDesk_58  Post x1 x2 r3 J4) else (Post (0 : Int32) J4))))) else (Post (0 : Int32) J2)))
set_option maxRecDepth 20000 in
theorem uw_X10_readsDesk_10 : ∀ w ∈ u_ws RX10 TX10 30, w ∈ wsX10_readsDesk := by decide +kernel
set_option maxRecDepth 20000 in
theorem ffg_X10_readsDesk_83 : ∀ k ∈ ([10] : List Nat), FF wsX10_readsDesk RX10 83 k 8 ∧ fR k 8 = false := List.forall_mem_cons.mpr ⟨⟨⟨RX10, TX10, 30, "PageDesksModel", rfl, rfl, by decide, by decide, uw_X10_readsDesk_10, (List.mem_of_getElem? (i := 1) rfl), Or.inl rfl⟩, rfl⟩, fun _ h => absurd h List.not_mem_nil⟩
set_option maxRecDepth 20000 in
theorem ffg_X10_readsDesk_80 : ∀ k ∈ ([10] : List Nat), FF wsX10_readsDesk RX10 80 k 7 ∧ fR k 7 = false := List.forall_mem_cons.mpr ⟨⟨⟨RX10, TX10, 30, "PageDesksModel", rfl, rfl, by decide, by decide, uw_X10_readsDesk_10, (List.mem_of_getElem? (i := 2) rfl), Or.inl rfl⟩, rfl⟩, fun _ h => absurd h List.not_mem_nil⟩
set_option maxRecDepth 20000 in
theorem ffp_X10_readsDesk_80 : ∀ k ∈ ([10] : List Nat), FF wsX10_readsDesk RX10 80 k 7 ∧ fR k 7 = false ∧ FP k 7 := List.forall_mem_cons.mpr ⟨⟨⟨RX10, TX10, 30, "PageDesksModel", rfl, rfl, by decide, by decide, uw_X10_readsDesk_10, (List.mem_of_getElem? (i := 2) rfl), Or.inl rfl⟩, rfl, ⟨RX10, TX10, 30, tyX10, rfl, tyX10_ok, nmX10, rfl, rfl⟩⟩, fun _ h => absurd h List.not_mem_nil⟩
set_option maxRecDepth 20000 in
theorem ffg_X10_readsDesk_19 : ∀ k ∈ ([10] : List Nat), FF wsX10_readsDesk RX10 19 k 10 ∧ fR k 10 = true := List.forall_mem_cons.mpr ⟨⟨⟨RX10, TX10, 30, "PageDesksModel", rfl, rfl, by decide, by decide, uw_X10_readsDesk_10, (List.mem_of_getElem? (i := 4) rfl), Or.inl rfl⟩, rfl⟩, fun _ h => absurd h List.not_mem_nil⟩
set_option maxRecDepth 20000 in
theorem ffg_X10_readsDesk_22 : ∀ k ∈ ([10] : List Nat), FF wsX10_readsDesk RX10 22 k 11 ∧ fR k 11 = true := List.forall_mem_cons.mpr ⟨⟨⟨RX10, TX10, 30, "PageDesksModel", rfl, rfl, by decide, by decide, uw_X10_readsDesk_10, (List.mem_of_getElem? (i := 5) rfl), Or.inl rfl⟩, rfl⟩, fun _ h => absurd h List.not_mem_nil⟩
set_option maxRecDepth 20000 in
theorem ffp_X10_readsDesk_83 : ∀ k ∈ ([10] : List Nat), FF wsX10_readsDesk RX10 83 k 8 ∧ fR k 8 = false ∧ FP k 8 := List.forall_mem_cons.mpr ⟨⟨⟨RX10, TX10, 30, "PageDesksModel", rfl, rfl, by decide, by decide, uw_X10_readsDesk_10, (List.mem_of_getElem? (i := 1) rfl), Or.inl rfl⟩, rfl, ⟨RX10, TX10, 30, tyX10, rfl, tyX10_ok, nmX10, rfl, rfl⟩⟩, fun _ h => absurd h List.not_mem_nil⟩
set_option maxRecDepth 100000 in
set_option maxHeartbeats 4000000 in
theorem t_X10_readsDesk_133 {f : Fx} {g : Gm}  {Post : Int32 → Mm → Prop}  (hC : Cx f cX10_readsDesk 5 RX10 wsX10_readsDesk rm_X10_readsDesk) (hG : shM g) (hR : RtZ f cX10_readsDesk (fun r u => u.1 = g ∧ Post r u.2))  : ∀ (x4 : Int32) (s0 : Int32) (s1 : Int32) (I : Mm) , wp_X10_readsDesk_133   Post x4 s0 s1 I → PW f 0 0 g I 133 [(0, .ref (gA g 100)), (4, .int x4)] [.int s0, .int s1, .ref (gA g 110)] := by
  intro x4 s0 s1 I  hw
  unfold wp_X10_readsDesk_133 at hw
  obtain ⟨hi, hw⟩ := hw
  refine r_iast hC dX10_readsDesk_133 rfl (hG.a10.1).1 (hG.a10.1).2.1 (by rw [(hG.a10.1).2.2]; exact hi) ?_
  refine r_aload_n hC dX10_readsDesk_134 rfl rfl (j := 0) rfl ?_
  refine r_getR hC dX10_readsDesk_135 rfl hG.o.1 hG.o.2 ffg_X10_readsDesk_22 hG.a11.2 ?_
  refine r_aload_n hC dX10_readsDesk_138 rfl rfl (j := 0) rfl ?_
  refine r_getI hC dX10_readsDesk_139 rfl hG.o.1 hG.o.2 ffg_X10_readsDesk_83 ?_
  refine r_iload hC dX10_readsDesk_142 rfl (j := 1) rfl ?_
  obtain ⟨hi, hw⟩ := hw
  refine r_iast hC dX10_readsDesk_144 rfl (hG.a11.1).1 (hG.a11.1).2.1 (by rw [(hG.a11.1).2.2]; exact hi) ?_
  refine r_aload_n hC dX10_readsDesk_145 rfl rfl (j := 0) rfl ?_
  refine r_dup hC dX10_readsDesk_146 rfl rfl ?_
  refine r_getI hC dX10_readsDesk_147 rfl hG.o.1 hG.o.2 ffg_X10_readsDesk_83 ?_
  refine r_iconst hC (v := (1 : Int32)) dX10_readsDesk_150 rfl (by decide) ?_
  refine r_iadd hC dX10_readsDesk_151 rfl ?_
  refine r_putI hC dX10_readsDesk_152 rfl hG.o.1 hG.o.2 ffp_X10_readsDesk_83 ?_
  refine r_iconst hC (v := (1 : Int32)) dX10_readsDesk_155 rfl (by decide) ?_
  exact r_retZ hC hR ⟨rfl, rfl⟩ dX10_readsDesk_156 (by decide) hw
set_option maxRecDepth 100000 in
set_option maxHeartbeats 4000000 in
theorem t_X10_readsDesk_58 {f : Fx} {g : Gm}  {Post : Int32 → Mm → Prop}  (hC : Cx f cX10_readsDesk 5 RX10 wsX10_readsDesk rm_X10_readsDesk) (hG : shM g) (hR : RtZ f cX10_readsDesk (fun r u => u.1 = g ∧ Post r u.2))  : ∀ (x1 : Int32) (x2 : Int32) (x3 : Int32) (I : Mm) , wp_X10_readsDesk_58   Post x1 x2 x3 I → PW f 0 0 g I 58 [(0, .ref (gA g 100)), (1, .int x1), (2, .int x2), (3, .int x3)] [] := by
  intro x1 x2 x3 I  hw
  unfold wp_X10_readsDesk_58 at hw
  refine r_aload_n hC dX10_readsDesk_58 rfl rfl (j := 0) rfl ?_
  refine r_dup hC dX10_readsDesk_59 rfl rfl ?_
  refine r_getI hC dX10_readsDesk_60 rfl hG.o.1 hG.o.2 ffg_X10_readsDesk_80 ?_
  refine r_iconst hC (v := (1 : Int32)) dX10_readsDesk_63 rfl (by decide) ?_
  refine r_iadd hC dX10_readsDesk_64 rfl ?_
  refine r_putI hC dX10_readsDesk_65 rfl hG.o.1 hG.o.2 ffp_X10_readsDesk_80 ?_
  refine r_aload_n hC dX10_readsDesk_68 rfl rfl (j := 0) rfl ?_
  refine r_iload_n hC dX10_readsDesk_69 rfl rfl (j := 1) rfl ?_
  refine r_iload_n hC dX10_readsDesk_70 rfl rfl (j := 2) rfl ?_
  refine r_callI hC (a_V hC (k := 10) (c_X10_codeAt hG hw) ci_X10_codeAt gX10_readsDesk_X10_codeAt rfl ⟨Nat.le_of_ble_eq_true rfl, Nat.le_of_ble_eq_true rfl⟩ ⟨Nat.le_of_ble_eq_true rfl, Nat.le_of_ble_eq_true rfl⟩ rfl (by decide) hG.o.1 (List.mem_singleton.mp hG.o.2) rfl rfl (Nat.le_of_ble_eq_true rfl) dX10_readsDesk_71) ⟨rfl, rfl⟩ rfl (fun r5 J6 hw => ?_)
  refine r_bipush hC (v := (48 : Int32)) dX10_readsDesk_74 rfl (by decide) ?_
  refine r_isub hC dX10_readsDesk_76 rfl ?_
  refine r_istore hC (lv' := [(4, .int (r5 - (48 : Int32))), (0, .ref (gA g 100)), (1, .int x1), (2, .int x2), (3, .int x3)]) dX10_readsDesk_77 rfl (by decide) rfl ?_
  refine r_iload hC dX10_readsDesk_79 rfl (j := 0) rfl ?_
  refine r_i2l hC dX10_readsDesk_81 rfl ?_
  refine r_lconst hC (v := (1 : Int64)) dX10_readsDesk_82 rfl (by decide) ?_
  refine r_ldc2 hC (v := (5 : Int64)) dX10_readsDesk_83 rfl (List.mem_of_getElem? (i := 3) rfl) ?_
  refine r_callI hC (a_S hC (c_X10_in  hw) ci_X10_in gX10_readsDesk_X10_in ⟨Nat.le_of_ble_eq_true rfl, Nat.le_of_ble_eq_true rfl⟩ ⟨Nat.le_of_ble_eq_true rfl, Nat.le_of_ble_eq_true rfl⟩ rfl rfl (Nat.le_of_ble_eq_true rfl) dX10_readsDesk_86) ⟨rfl, rfl⟩ rfl (fun r7 J8 hw => ?_)
  refine r_if_ne hC (tgt := 94) dX10_readsDesk_89 rfl (by decide) hw (fun hw => ?_) (fun hw => ?_)
  · refine r_aload_n hC dX10_readsDesk_94 rfl rfl (j := 1) rfl ?_
    refine r_dup hC dX10_readsDesk_95 rfl rfl ?_
    refine r_getI hC dX10_readsDesk_96 rfl hG.o.1 hG.o.2 ffg_X10_readsDesk_80 ?_
    refine r_iconst hC (v := (1 : Int32)) dX10_readsDesk_99 rfl (by decide) ?_
    refine r_iadd hC dX10_readsDesk_100 rfl ?_
    refine r_putI hC dX10_readsDesk_101 rfl hG.o.1 hG.o.2 ffp_X10_readsDesk_80 ?_
    refine r_aload_n hC dX10_readsDesk_104 rfl rfl (j := 1) rfl ?_
    refine r_getR hC dX10_readsDesk_105 rfl hG.o.1 hG.o.2 ffg_X10_readsDesk_19 hG.a10.2 ?_
    refine r_aload_n hC dX10_readsDesk_108 rfl rfl (j := 1) rfl ?_
    refine r_getI hC dX10_readsDesk_109 rfl hG.o.1 hG.o.2 ffg_X10_readsDesk_83 ?_
    refine r_iload_n hC dX10_readsDesk_112 rfl rfl (j := 4) rfl ?_
    refine r_bipush hC (v := (113 : Int32)) dX10_readsDesk_113 rfl (by decide) ?_
    refine r_icmp_ne hC (tgt := 122) dX10_readsDesk_115 rfl (by decide) hw (fun hw => ?_) (fun hw => ?_)
    · refine r_iload_n hC dX10_readsDesk_122 rfl rfl (j := 4) rfl ?_
      refine r_bipush hC (v := (99 : Int32)) dX10_readsDesk_123 rfl (by decide) ?_
      refine r_icmp_ne hC (tgt := 132) dX10_readsDesk_125 rfl (by decide) hw (fun hw => ?_) (fun hw => ?_)
      · refine r_iconst hC (v := (2 : Int32)) dX10_readsDesk_132 rfl (by decide) ?_
        exact r_sub (lv' := [(0, .ref (gA g 100)), (4, .int (r5 - (48 : Int32)))]) [1, 0] rfl (t_X10_readsDesk_133 hC hG hR _ _ _ _ hw)
      · refine r_iconst hC (v := (1 : Int32)) dX10_readsDesk_128 rfl (by decide) ?_
        refine r_goto hC (tgt := 133) dX10_readsDesk_129 (by decide) ?_
        exact r_sub (lv' := [(0, .ref (gA g 100)), (4, .int (r5 - (48 : Int32)))]) [1, 0] rfl (t_X10_readsDesk_133 hC hG hR _ _ _ _ hw)
    · refine r_iconst hC (v := (0 : Int32)) dX10_readsDesk_118 rfl (by decide) ?_
      refine r_goto hC (tgt := 133) dX10_readsDesk_119 (by decide) ?_
      exact r_sub (lv' := [(0, .ref (gA g 100)), (4, .int (r5 - (48 : Int32)))]) [1, 0] rfl (t_X10_readsDesk_133 hC hG hR _ _ _ _ hw)
  · refine r_iconst hC (v := (0 : Int32)) dX10_readsDesk_92 rfl (by decide) ?_
    exact r_retZ hC hR ⟨rfl, rfl⟩ dX10_readsDesk_93 (by decide) hw
set_option maxRecDepth 100000 in
set_option maxHeartbeats 4000000 in
theorem t_X10_readsDesk_0 {f : Fx} {g : Gm}  {Post : Int32 → Mm → Prop} {x1 : Int32} {x2 : Int32} {I : Mm} (hC : Cx f cX10_readsDesk 5 RX10 wsX10_readsDesk rm_X10_readsDesk) (hG : shM g) (hR : RtZ f cX10_readsDesk (fun r u => u.1 = g ∧ Post r u.2)) (hw : wp_X10_readsDesk  x1 x2 I Post) : PW f 0 0 g I 0 [(0, .ref (gA g 100)), (1, .int x1), (2, .int x2)] [] := by
  unfold wp_X10_readsDesk at hw
  refine r_aload_n hC dX10_readsDesk_0 rfl rfl (j := 0) rfl ?_
  refine r_getI hC dX10_readsDesk_1 rfl hG.o.1 hG.o.2 ffg_X10_readsDesk_83 ?_
  refine r_iconst hC (v := (4 : Int32)) dX10_readsDesk_4 rfl (by decide) ?_
  refine r_icmp_eq hC (tgt := 19) dX10_readsDesk_5 rfl (by decide) hw (fun hw => ?_) (fun hw => ?_)
  · refine r_iconst hC (v := (0 : Int32)) dX10_readsDesk_19 rfl (by decide) ?_
    exact r_retZ hC hR ⟨rfl, rfl⟩ dX10_readsDesk_20 (by decide) hw
  · refine r_aload_n hC dX10_readsDesk_8 rfl rfl (j := 0) rfl ?_
    refine r_iload_n hC dX10_readsDesk_9 rfl rfl (j := 1) rfl ?_
    refine r_iload_n hC dX10_readsDesk_10 rfl rfl (j := 2) rfl ?_
    refine r_callI hC (a_V hC (k := 10) (c_X10_codeAt hG hw) ci_X10_codeAt gX10_readsDesk_X10_codeAt rfl ⟨Nat.le_of_ble_eq_true rfl, Nat.le_of_ble_eq_true rfl⟩ ⟨Nat.le_of_ble_eq_true rfl, Nat.le_of_ble_eq_true rfl⟩ rfl (by decide) hG.o.1 (List.mem_singleton.mp hG.o.2) rfl rfl (Nat.le_of_ble_eq_true rfl) dX10_readsDesk_11) ⟨rfl, rfl⟩ rfl (fun r1 J2 hw => ?_)
    refine r_bipush hC (v := (59 : Int32)) dX10_readsDesk_14 rfl (by decide) ?_
    refine r_icmp_eq hC (tgt := 21) dX10_readsDesk_16 rfl (by decide) hw (fun hw => ?_) (fun hw => ?_)
    · refine r_aload_n hC dX10_readsDesk_21 rfl rfl (j := 0) rfl ?_
      refine r_dup hC dX10_readsDesk_22 rfl rfl ?_
      refine r_getI hC dX10_readsDesk_23 rfl hG.o.1 hG.o.2 ffg_X10_readsDesk_80 ?_
      refine r_iconst hC (v := (1 : Int32)) dX10_readsDesk_26 rfl (by decide) ?_
      refine r_iadd hC dX10_readsDesk_27 rfl ?_
      refine r_putI hC dX10_readsDesk_28 rfl hG.o.1 hG.o.2 ffp_X10_readsDesk_80 ?_
      refine r_aload_n hC dX10_readsDesk_31 rfl rfl (j := 0) rfl ?_
      refine r_iload_n hC dX10_readsDesk_32 rfl rfl (j := 1) rfl ?_
      refine r_iload_n hC dX10_readsDesk_33 rfl rfl (j := 2) rfl ?_
      refine r_callI hC (a_V hC (k := 10) (c_X10_codeAt hG hw) ci_X10_codeAt gX10_readsDesk_X10_codeAt rfl ⟨Nat.le_of_ble_eq_true rfl, Nat.le_of_ble_eq_true rfl⟩ ⟨Nat.le_of_ble_eq_true rfl, Nat.le_of_ble_eq_true rfl⟩ rfl (by decide) hG.o.1 (List.mem_singleton.mp hG.o.2) rfl rfl (Nat.le_of_ble_eq_true rfl) dX10_readsDesk_34) ⟨rfl, rfl⟩ rfl (fun r3 J4 hw => ?_)
      refine r_istore_n hC (lv' := [(3, .int r3), (0, .ref (gA g 100)), (1, .int x1), (2, .int x2)]) dX10_readsDesk_37 rfl rfl (by decide) rfl ?_
      refine r_iload_n hC dX10_readsDesk_38 rfl rfl (j := 0) rfl ?_
      refine r_bipush hC (v := (113 : Int32)) dX10_readsDesk_39 rfl (by decide) ?_
      refine r_icmp_eq hC (tgt := 58) dX10_readsDesk_41 rfl (by decide) hw (fun hw => ?_) (fun hw => ?_)
      · exact r_sub (lv' := [(0, .ref (gA g 100)), (1, .int x1), (2, .int x2), (3, .int r3)]) [1, 2, 3, 0] rfl (t_X10_readsDesk_58 hC hG hR _ _ _ _ hw)
      · refine r_iload_n hC dX10_readsDesk_44 rfl rfl (j := 0) rfl ?_
        refine r_bipush hC (v := (99 : Int32)) dX10_readsDesk_45 rfl (by decide) ?_
        refine r_icmp_eq hC (tgt := 58) dX10_readsDesk_47 rfl (by decide) hw (fun hw => ?_) (fun hw => ?_)
        · exact r_sub (lv' := [(0, .ref (gA g 100)), (1, .int x1), (2, .int x2), (3, .int r3)]) [1, 2, 3, 0] rfl (t_X10_readsDesk_58 hC hG hR _ _ _ _ hw)
        · refine r_iload_n hC dX10_readsDesk_50 rfl rfl (j := 0) rfl ?_
          refine r_bipush hC (v := (114 : Int32)) dX10_readsDesk_51 rfl (by decide) ?_
          refine r_icmp_eq hC (tgt := 58) dX10_readsDesk_53 rfl (by decide) hw (fun hw => ?_) (fun hw => ?_)
          · exact r_sub (lv' := [(0, .ref (gA g 100)), (1, .int x1), (2, .int x2), (3, .int r3)]) [1, 2, 3, 0] rfl (t_X10_readsDesk_58 hC hG hR _ _ _ _ hw)
          · refine r_iconst hC (v := (0 : Int32)) dX10_readsDesk_56 rfl (by decide) ?_
            exact r_retZ hC hR ⟨rfl, rfl⟩ dX10_readsDesk_57 (by decide) hw
    · refine r_iconst hC (v := (0 : Int32)) dX10_readsDesk_19 rfl (by decide) ?_
      exact r_retZ hC hR ⟨rfl, rfl⟩ dX10_readsDesk_20 (by decide) hw
set_option maxRecDepth 100000 in
theorem c_X10_readsDesk {l : Launch} {x : Gx} {g : Gm}  {x1 : Int32} {x2 : Int32} {I : Mm} {Post : Int32 → Mm → Prop} (hG : shM g) (hw : wp_X10_readsDesk  x1 x2 I Post) : KI l x yX10_readsDesk wsX10_readsDesk rm_X10_readsDesk g I [.ref (gA g 100), .int x1, .int x2] (fun r u => u.1 = g ∧ Post r u.2) := KZ_of (by decide) rfl rfl (Nat.le_of_ble_eq_true rfl) (fun f hC _ _ hR => t_X10_readsDesk_0 hC hG hR hw)

/-! X10_readsAsk -/
abbrev rm_X10_readsAsk : Room := { frames := 2, cells := 0, slots := 0, locals := 45 }
theorem ci_X10_readsAsk : CI yX10_readsAsk wsX10_readsAsk cX10_readsAsk 4 (some .boolean) 2 := ⟨⟨_, rfl⟩, by decide, by decide, by decide +kernel⟩
def wp_X10_readsAsk  (x1 : Int32) (x2 : Int32) (I : Mm) (Post : Int32 → Mm → Prop) : Prop := wp_X10_codeAt x1 x2 I (fun r1 J2 => if (J2 100 9) = (24 : Int32) then (Post (0 : Int32) J2) else (wp_X10_isPage (r1 - (97 : Int32)) J2 (fun r3 J4 => if r3 = 0 then (Post (0 : Int32) J4) else (vp_in (J4 100 9) 24 ∧ (Post (1 : Int32) (up2 (up2 (up2 J4 112 (J4 100 9).toNatClampNeg (r1 - (97 : Int32))) 100 9 (((up2 J4 112 (J4 100 9).toNatClampNeg (r1 - (97 : Int32))) 100 9) + (1 : Int32))) 100 7 (((up2 (up2 J4 112 (J4 100 9).toNatClampNeg (r1 - (97 : Int32))) 100 9 (((up2 J4 112 (J4 100 9).toNatClampNeg (r1 - (97 : Int32))) 100 9) + (1 : Int32))) 100 7) + (1 : Int32))))))))
set_option maxRecDepth 20000 in
theorem uw_X10_readsAsk_10 : ∀ w ∈ u_ws RX10 TX10 30, w ∈ wsX10_readsAsk := by decide +kernel
set_option maxRecDepth 20000 in
theorem ffg_X10_readsAsk_92 : ∀ k ∈ ([10] : List Nat), FF wsX10_readsAsk RX10 92 k 9 ∧ fR k 9 = false := List.forall_mem_cons.mpr ⟨⟨⟨RX10, TX10, 30, "PageDesksModel", rfl, rfl, by decide, by decide, uw_X10_readsAsk_10, (List.mem_of_getElem? (i := 1) rfl), Or.inl rfl⟩, rfl⟩, fun _ h => absurd h List.not_mem_nil⟩
set_option maxRecDepth 20000 in
theorem ffg_X10_readsAsk_25 : ∀ k ∈ ([10] : List Nat), FF wsX10_readsAsk RX10 25 k 12 ∧ fR k 12 = true := List.forall_mem_cons.mpr ⟨⟨⟨RX10, TX10, 30, "PageDesksModel", rfl, rfl, by decide, by decide, uw_X10_readsAsk_10, (List.mem_of_getElem? (i := 2) rfl), Or.inl rfl⟩, rfl⟩, fun _ h => absurd h List.not_mem_nil⟩
set_option maxRecDepth 20000 in
theorem ffp_X10_readsAsk_92 : ∀ k ∈ ([10] : List Nat), FF wsX10_readsAsk RX10 92 k 9 ∧ fR k 9 = false ∧ FP k 9 := List.forall_mem_cons.mpr ⟨⟨⟨RX10, TX10, 30, "PageDesksModel", rfl, rfl, by decide, by decide, uw_X10_readsAsk_10, (List.mem_of_getElem? (i := 1) rfl), Or.inl rfl⟩, rfl, ⟨RX10, TX10, 30, tyX10, rfl, tyX10_ok, nmX10, rfl, rfl⟩⟩, fun _ h => absurd h List.not_mem_nil⟩
set_option maxRecDepth 20000 in
theorem ffg_X10_readsAsk_80 : ∀ k ∈ ([10] : List Nat), FF wsX10_readsAsk RX10 80 k 7 ∧ fR k 7 = false := List.forall_mem_cons.mpr ⟨⟨⟨RX10, TX10, 30, "PageDesksModel", rfl, rfl, by decide, by decide, uw_X10_readsAsk_10, (List.mem_of_getElem? (i := 3) rfl), Or.inl rfl⟩, rfl⟩, fun _ h => absurd h List.not_mem_nil⟩
set_option maxRecDepth 20000 in
theorem ffp_X10_readsAsk_80 : ∀ k ∈ ([10] : List Nat), FF wsX10_readsAsk RX10 80 k 7 ∧ fR k 7 = false ∧ FP k 7 := List.forall_mem_cons.mpr ⟨⟨⟨RX10, TX10, 30, "PageDesksModel", rfl, rfl, by decide, by decide, uw_X10_readsAsk_10, (List.mem_of_getElem? (i := 3) rfl), Or.inl rfl⟩, rfl, ⟨RX10, TX10, 30, tyX10, rfl, tyX10_ok, nmX10, rfl, rfl⟩⟩, fun _ h => absurd h List.not_mem_nil⟩
set_option maxRecDepth 100000 in
set_option maxHeartbeats 4000000 in
theorem t_X10_readsAsk_0 {f : Fx} {g : Gm}  {Post : Int32 → Mm → Prop} {x1 : Int32} {x2 : Int32} {I : Mm} (hC : Cx f cX10_readsAsk 4 RX10 wsX10_readsAsk rm_X10_readsAsk) (hG : shM g) (hR : RtZ f cX10_readsAsk (fun r u => u.1 = g ∧ Post r u.2)) (hw : wp_X10_readsAsk  x1 x2 I Post) : PW f 0 0 g I 0 [(0, .ref (gA g 100)), (1, .int x1), (2, .int x2)] [] := by
  unfold wp_X10_readsAsk at hw
  refine r_aload_n hC dX10_readsAsk_0 rfl rfl (j := 0) rfl ?_
  refine r_iload_n hC dX10_readsAsk_1 rfl rfl (j := 1) rfl ?_
  refine r_iload_n hC dX10_readsAsk_2 rfl rfl (j := 2) rfl ?_
  refine r_callI hC (a_V hC (k := 10) (c_X10_codeAt hG hw) ci_X10_codeAt gX10_readsAsk_X10_codeAt rfl ⟨Nat.le_of_ble_eq_true rfl, Nat.le_of_ble_eq_true rfl⟩ ⟨Nat.le_of_ble_eq_true rfl, Nat.le_of_ble_eq_true rfl⟩ rfl (by decide) hG.o.1 (List.mem_singleton.mp hG.o.2) rfl rfl (Nat.le_of_ble_eq_true rfl) dX10_readsAsk_3) ⟨rfl, rfl⟩ rfl (fun r1 J2 hw => ?_)
  refine r_bipush hC (v := (97 : Int32)) dX10_readsAsk_6 rfl (by decide) ?_
  refine r_isub hC dX10_readsAsk_8 rfl ?_
  refine r_istore_n hC (lv' := [(3, .int (r1 - (97 : Int32))), (0, .ref (gA g 100)), (1, .int x1), (2, .int x2)]) dX10_readsAsk_9 rfl rfl (by decide) rfl ?_
  refine r_aload_n hC dX10_readsAsk_10 rfl rfl (j := 1) rfl ?_
  refine r_getI hC dX10_readsAsk_11 rfl hG.o.1 hG.o.2 ffg_X10_readsAsk_92 ?_
  refine r_bipush hC (v := (24 : Int32)) dX10_readsAsk_14 rfl (by decide) ?_
  refine r_icmp_eq hC (tgt := 26) dX10_readsAsk_16 rfl (by decide) hw (fun hw => ?_) (fun hw => ?_)
  · refine r_iconst hC (v := (0 : Int32)) dX10_readsAsk_26 rfl (by decide) ?_
    exact r_retZ hC hR ⟨rfl, rfl⟩ dX10_readsAsk_27 (by decide) hw
  · refine r_iload_n hC dX10_readsAsk_19 rfl rfl (j := 0) rfl ?_
    refine r_callI hC (a_S hC (c_X10_isPage  hw) ci_X10_isPage gX10_readsAsk_X10_isPage ⟨Nat.le_of_ble_eq_true rfl, Nat.le_of_ble_eq_true rfl⟩ ⟨Nat.le_of_ble_eq_true rfl, Nat.le_of_ble_eq_true rfl⟩ rfl rfl (Nat.le_of_ble_eq_true rfl) dX10_readsAsk_20) ⟨rfl, rfl⟩ rfl (fun r3 J4 hw => ?_)
    refine r_if_ne hC (tgt := 28) dX10_readsAsk_23 rfl (by decide) hw (fun hw => ?_) (fun hw => ?_)
    · refine r_aload_n hC dX10_readsAsk_28 rfl rfl (j := 1) rfl ?_
      refine r_getR hC dX10_readsAsk_29 rfl hG.o.1 hG.o.2 ffg_X10_readsAsk_25 hG.a12.2 ?_
      refine r_aload_n hC dX10_readsAsk_32 rfl rfl (j := 1) rfl ?_
      refine r_getI hC dX10_readsAsk_33 rfl hG.o.1 hG.o.2 ffg_X10_readsAsk_92 ?_
      refine r_iload_n hC dX10_readsAsk_36 rfl rfl (j := 0) rfl ?_
      obtain ⟨hi, hw⟩ := hw
      refine r_iast hC dX10_readsAsk_37 rfl (hG.a12.1).1 (hG.a12.1).2.1 (by rw [(hG.a12.1).2.2]; exact hi) ?_
      refine r_aload_n hC dX10_readsAsk_38 rfl rfl (j := 1) rfl ?_
      refine r_dup hC dX10_readsAsk_39 rfl rfl ?_
      refine r_getI hC dX10_readsAsk_40 rfl hG.o.1 hG.o.2 ffg_X10_readsAsk_92 ?_
      refine r_iconst hC (v := (1 : Int32)) dX10_readsAsk_43 rfl (by decide) ?_
      refine r_iadd hC dX10_readsAsk_44 rfl ?_
      refine r_putI hC dX10_readsAsk_45 rfl hG.o.1 hG.o.2 ffp_X10_readsAsk_92 ?_
      refine r_aload_n hC dX10_readsAsk_48 rfl rfl (j := 1) rfl ?_
      refine r_dup hC dX10_readsAsk_49 rfl rfl ?_
      refine r_getI hC dX10_readsAsk_50 rfl hG.o.1 hG.o.2 ffg_X10_readsAsk_80 ?_
      refine r_iconst hC (v := (1 : Int32)) dX10_readsAsk_53 rfl (by decide) ?_
      refine r_iadd hC dX10_readsAsk_54 rfl ?_
      refine r_putI hC dX10_readsAsk_55 rfl hG.o.1 hG.o.2 ffp_X10_readsAsk_80 ?_
      refine r_iconst hC (v := (1 : Int32)) dX10_readsAsk_58 rfl (by decide) ?_
      exact r_retZ hC hR ⟨rfl, rfl⟩ dX10_readsAsk_59 (by decide) hw
    · refine r_iconst hC (v := (0 : Int32)) dX10_readsAsk_26 rfl (by decide) ?_
      exact r_retZ hC hR ⟨rfl, rfl⟩ dX10_readsAsk_27 (by decide) hw
set_option maxRecDepth 100000 in
theorem c_X10_readsAsk {l : Launch} {x : Gx} {g : Gm}  {x1 : Int32} {x2 : Int32} {I : Mm} {Post : Int32 → Mm → Prop} (hG : shM g) (hw : wp_X10_readsAsk  x1 x2 I Post) : KI l x yX10_readsAsk wsX10_readsAsk rm_X10_readsAsk g I [.ref (gA g 100), .int x1, .int x2] (fun r u => u.1 = g ∧ Post r u.2) := KZ_of (by decide) rfl rfl (Nat.le_of_ble_eq_true rfl) (fun f hC _ _ hR => t_X10_readsAsk_0 hC hG hR hw)

/-! X10_readsRoom -/
abbrev rm_X10_readsRoom : Room := { frames := 3, cells := 0, slots := 0, locals := 68 }
theorem ci_X10_readsRoom : CI yX10_readsRoom wsX10_readsRoom cX10_readsRoom 4 (some .boolean) 2 := ⟨⟨_, rfl⟩, by decide, by decide, by decide +kernel⟩
def wp_X10_readsRoom_63  (Kb : Int32 → Int32 → Int32 → Mm → Prop) (K73 : Int32 → Int32 → Int32 → Mm → Prop) (Post : Int32 → Mm → Prop) (x1 : Int32) (x2 : Int32) (I : Mm) : Prop := wp_X10_readsDesk x1 x2 I (fun r5 J6 => Kb x1 x2 r5 J6)
def wp_X10_readsRoom_40  (K73 : Int32 → Int32 → Int32 → Mm → Prop) (Post : Int32 → Mm → Prop) : Nat → Int32 → Int32 → Int32 → Mm → Prop
  | 0, _, _, _, _ => False
  | nn40 + 1, x1, x2, x3, I => if x3 = 0 then (K73 x1 x2 x3 I) else (if (I 100 8) < (1 : Int32) then (wp_X10_readsRoom_63 (fun x1 x2 x3 I => wp_X10_readsRoom_40 K73 Post nn40 x1 x2 x3 I) K73 Post x1 x2 I) else (wp_X10_codeAt x1 x2 I (fun r3 J4 => if r3 = (44 : Int32) then (K73 x1 x2 x3 J4) else (wp_X10_readsRoom_63 (fun x1 x2 x3 I => wp_X10_readsRoom_40 K73 Post nn40 x1 x2 x3 I) K73 Post x1 x2 J4))))
def wp_X10_readsRoom_111  (Kb : Int32 → Int32 → Int32 → Mm → Prop) (Post : Int32 → Mm → Prop) (x1 : Int32) (x2 : Int32) (I : Mm) : Prop := wp_X10_readsAsk x1 x2 I (fun r7 J8 => Kb x1 x2 r7 J8)
def wp_X10_readsRoom_91   (Post : Int32 → Mm → Prop) : Nat → Int32 → Int32 → Int32 → Mm → Prop
  | 0, _, _, _, _ => False
  | nn91 + 1, x1, x2, x3, I => if x3 = 0 then ((x3 = 0 ∨ x3 = 1) ∧ Post x3 I) else (if (I 100 9) < (1 : Int32) then (wp_X10_readsRoom_111 (fun x1 x2 x3 I => wp_X10_readsRoom_91  Post nn91 x1 x2 x3 I) Post x1 x2 I) else (if x2 ≤ (I 100 7) then ((x3 = 0 ∨ x3 = 1) ∧ Post x3 I) else (wp_X10_readsRoom_111 (fun x1 x2 x3 I => wp_X10_readsRoom_91  Post nn91 x1 x2 x3 I) Post x1 x2 I)))
def wp_X10_readsRoom_87   (Post : Int32 → Mm → Prop) (x1 : Int32) (x2 : Int32) (x3 : Int32) (s0 : Int32) (s1 : Int32) (I : Mm) : Prop := ∃ nn91, wp_X10_readsRoom_91  Post nn91 x1 x2 x3 (up2 I 100 7 (s1 + s0))
def wp_X10_readsRoom_73   (Post : Int32 → Mm → Prop) (x1 : Int32) (x2 : Int32) (x3 : Int32) (I : Mm) : Prop := if x3 = 0 then (wp_X10_readsRoom_87  Post x1 x2 x3 (0 : Int32) (I 100 7) I) else (wp_X10_readsRoom_87  Post x1 x2 x3 (1 : Int32) (I 100 7) I)
def wp_X10_readsRoom  (x1 : Int32) (x2 : Int32) (I : Mm) (Post : Int32 → Mm → Prop) : Prop := wp_X10_codeAt x1 x2 (up2 (up2 (up2 I 100 7 (0 : Int32)) 100 8 (0 : Int32)) 100 9 (0 : Int32)) (fun r1 J2 => if r1 = (100 : Int32) then (∃ nn40, wp_X10_readsRoom_40 (fun x1 x2 x3 I => wp_X10_readsRoom_73  Post x1 x2 x3 I) Post nn40 x1 x2 (1 : Int32) (up2 J2 100 7 ((J2 100 7) + (1 : Int32)))) else (Post (0 : Int32) J2))
set_option maxRecDepth 20000 in
theorem uw_X10_readsRoom_10 : ∀ w ∈ u_ws RX10 TX10 30, w ∈ wsX10_readsRoom := by decide +kernel
set_option maxRecDepth 20000 in
theorem ffp_X10_readsRoom_80 : ∀ k ∈ ([10] : List Nat), FF wsX10_readsRoom RX10 80 k 7 ∧ fR k 7 = false ∧ FP k 7 := List.forall_mem_cons.mpr ⟨⟨⟨RX10, TX10, 30, "PageDesksModel", rfl, rfl, by decide, by decide, uw_X10_readsRoom_10, (List.mem_of_getElem? (i := 1) rfl), Or.inl rfl⟩, rfl, ⟨RX10, TX10, 30, tyX10, rfl, tyX10_ok, nmX10, rfl, rfl⟩⟩, fun _ h => absurd h List.not_mem_nil⟩
set_option maxRecDepth 20000 in
theorem ffp_X10_readsRoom_83 : ∀ k ∈ ([10] : List Nat), FF wsX10_readsRoom RX10 83 k 8 ∧ fR k 8 = false ∧ FP k 8 := List.forall_mem_cons.mpr ⟨⟨⟨RX10, TX10, 30, "PageDesksModel", rfl, rfl, by decide, by decide, uw_X10_readsRoom_10, (List.mem_of_getElem? (i := 2) rfl), Or.inl rfl⟩, rfl, ⟨RX10, TX10, 30, tyX10, rfl, tyX10_ok, nmX10, rfl, rfl⟩⟩, fun _ h => absurd h List.not_mem_nil⟩
set_option maxRecDepth 20000 in
theorem ffp_X10_readsRoom_92 : ∀ k ∈ ([10] : List Nat), FF wsX10_readsRoom RX10 92 k 9 ∧ fR k 9 = false ∧ FP k 9 := List.forall_mem_cons.mpr ⟨⟨⟨RX10, TX10, 30, "PageDesksModel", rfl, rfl, by decide, by decide, uw_X10_readsRoom_10, (List.mem_of_getElem? (i := 3) rfl), Or.inl rfl⟩, rfl, ⟨RX10, TX10, 30, tyX10, rfl, tyX10_ok, nmX10, rfl, rfl⟩⟩, fun _ h => absurd h List.not_mem_nil⟩
set_option maxRecDepth 20000 in
theorem ffg_X10_readsRoom_80 : ∀ k ∈ ([10] : List Nat), FF wsX10_readsRoom RX10 80 k 7 ∧ fR k 7 = false := List.forall_mem_cons.mpr ⟨⟨⟨RX10, TX10, 30, "PageDesksModel", rfl, rfl, by decide, by decide, uw_X10_readsRoom_10, (List.mem_of_getElem? (i := 1) rfl), Or.inl rfl⟩, rfl⟩, fun _ h => absurd h List.not_mem_nil⟩
set_option maxRecDepth 20000 in
theorem ffg_X10_readsRoom_83 : ∀ k ∈ ([10] : List Nat), FF wsX10_readsRoom RX10 83 k 8 ∧ fR k 8 = false := List.forall_mem_cons.mpr ⟨⟨⟨RX10, TX10, 30, "PageDesksModel", rfl, rfl, by decide, by decide, uw_X10_readsRoom_10, (List.mem_of_getElem? (i := 2) rfl), Or.inl rfl⟩, rfl⟩, fun _ h => absurd h List.not_mem_nil⟩
set_option maxRecDepth 20000 in
theorem ffg_X10_readsRoom_92 : ∀ k ∈ ([10] : List Nat), FF wsX10_readsRoom RX10 92 k 9 ∧ fR k 9 = false := List.forall_mem_cons.mpr ⟨⟨⟨RX10, TX10, 30, "PageDesksModel", rfl, rfl, by decide, by decide, uw_X10_readsRoom_10, (List.mem_of_getElem? (i := 3) rfl), Or.inl rfl⟩, rfl⟩, fun _ h => absurd h List.not_mem_nil⟩
set_option maxRecDepth 100000 in
set_option maxHeartbeats 4000000 in
theorem t_X10_readsRoom_63 {f : Fx} {g : Gm}  {Post : Int32 → Mm → Prop} {Kb : Int32 → Int32 → Int32 → Mm → Prop} {K73 : Int32 → Int32 → Int32 → Mm → Prop} (hC : Cx f cX10_readsRoom 4 RX10 wsX10_readsRoom rm_X10_readsRoom) (hG : shM g) (hR : RtZ f cX10_readsRoom (fun r u => u.1 = g ∧ Post r u.2)) (hKb : ∀ (x1 : Int32) (x2 : Int32) (x3 : Int32) (I : Mm) , Kb x1 x2 x3 I → PW f 0 0 g I 40 [(0, .ref (gA g 100)), (1, .int x1), (2, .int x2), (3, .int x3)] []) (hK73 : ∀ (x1 : Int32) (x2 : Int32) (x3 : Int32) (I : Mm) , K73 x1 x2 x3 I → PW f 0 0 g I 73 [(0, .ref (gA g 100)), (1, .int x1), (2, .int x2), (3, .int x3)] []) : ∀ (x1 : Int32) (x2 : Int32) (I : Mm) , wp_X10_readsRoom_63  Kb K73 Post x1 x2 I → PW f 0 0 g I 63 [(0, .ref (gA g 100)), (1, .int x1), (2, .int x2)] [] := by
  intro x1 x2 I  hw
  unfold wp_X10_readsRoom_63 at hw
  refine r_aload_n hC dX10_readsRoom_63 rfl rfl (j := 0) rfl ?_
  refine r_iload_n hC dX10_readsRoom_64 rfl rfl (j := 1) rfl ?_
  refine r_iload_n hC dX10_readsRoom_65 rfl rfl (j := 2) rfl ?_
  refine r_callI hC (a_V hC (k := 10) (c_X10_readsDesk hG hw) ci_X10_readsDesk gX10_readsRoom_X10_readsDesk rfl ⟨Nat.le_of_ble_eq_true rfl, Nat.le_of_ble_eq_true rfl⟩ ⟨Nat.le_of_ble_eq_true rfl, Nat.le_of_ble_eq_true rfl⟩ rfl (by decide) hG.o.1 (List.mem_singleton.mp hG.o.2) rfl rfl (Nat.le_of_ble_eq_true rfl) dX10_readsRoom_66) ⟨rfl, rfl⟩ rfl (fun r5 J6 hw => ?_)
  refine r_istore_n hC (lv' := [(3, .int r5), (0, .ref (gA g 100)), (1, .int x1), (2, .int x2)]) dX10_readsRoom_69 rfl rfl (by decide) rfl ?_
  refine r_goto hC (tgt := 40) dX10_readsRoom_70 (by decide) ?_
  exact r_sub (lv' := [(0, .ref (gA g 100)), (1, .int x1), (2, .int x2), (3, .int r5)]) [1, 2, 3, 0] rfl (hKb _ _ _ _ hw)
set_option maxRecDepth 100000 in
set_option maxHeartbeats 4000000 in
theorem t_X10_readsRoom_40 {f : Fx} {g : Gm}  {Post : Int32 → Mm → Prop} {K73 : Int32 → Int32 → Int32 → Mm → Prop} (hC : Cx f cX10_readsRoom 4 RX10 wsX10_readsRoom rm_X10_readsRoom) (hG : shM g) (hR : RtZ f cX10_readsRoom (fun r u => u.1 = g ∧ Post r u.2)) (hK73 : ∀ (x1 : Int32) (x2 : Int32) (x3 : Int32) (I : Mm) , K73 x1 x2 x3 I → PW f 0 0 g I 73 [(0, .ref (gA g 100)), (1, .int x1), (2, .int x2), (3, .int x3)] []) : ∀ (nn40 : Nat) (x1 : Int32) (x2 : Int32) (x3 : Int32) (I : Mm) , wp_X10_readsRoom_40  K73 Post nn40 x1 x2 x3 I → PW f 0 0 g I 40 [(0, .ref (gA g 100)), (1, .int x1), (2, .int x2), (3, .int x3)] [] := by
  intro nn40
  induction nn40 with
  | zero =>
    intro x1 x2 x3 I  hw
    exact absurd hw id
  | succ nn40 ih =>
    intro x1 x2 x3 I  hw
    unfold wp_X10_readsRoom_40 at hw
    refine r_iload_n hC dX10_readsRoom_40 rfl rfl (j := 3) rfl ?_
    refine r_if_eq hC (tgt := 73) dX10_readsRoom_41 rfl (by decide) hw (fun hw => ?_) (fun hw => ?_)
    · exact r_sub (lv' := [(0, .ref (gA g 100)), (1, .int x1), (2, .int x2), (3, .int x3)]) [0, 1, 2, 3] rfl (hK73 _ _ _ _ hw)
    · refine r_aload_n hC dX10_readsRoom_44 rfl rfl (j := 0) rfl ?_
      refine r_getI hC dX10_readsRoom_45 rfl hG.o.1 hG.o.2 ffg_X10_readsRoom_83 ?_
      refine r_iconst hC (v := (1 : Int32)) dX10_readsRoom_48 rfl (by decide) ?_
      refine r_icmp_lt hC (tgt := 63) dX10_readsRoom_49 rfl (by decide) hw (fun hw => ?_) (fun hw => ?_)
      · exact r_sub (lv' := [(0, .ref (gA g 100)), (1, .int x1), (2, .int x2)]) [0, 1, 2] rfl (t_X10_readsRoom_63 hC hG hR (fun x1 x2 x3 I  hw => ih x1 x2 x3 I  hw) hK73 _ _ _ hw)
      · refine r_aload_n hC dX10_readsRoom_52 rfl rfl (j := 0) rfl ?_
        refine r_iload_n hC dX10_readsRoom_53 rfl rfl (j := 1) rfl ?_
        refine r_iload_n hC dX10_readsRoom_54 rfl rfl (j := 2) rfl ?_
        refine r_callI hC (a_V hC (k := 10) (c_X10_codeAt hG hw) ci_X10_codeAt gX10_readsRoom_X10_codeAt rfl ⟨Nat.le_of_ble_eq_true rfl, Nat.le_of_ble_eq_true rfl⟩ ⟨Nat.le_of_ble_eq_true rfl, Nat.le_of_ble_eq_true rfl⟩ rfl (by decide) hG.o.1 (List.mem_singleton.mp hG.o.2) rfl rfl (Nat.le_of_ble_eq_true rfl) dX10_readsRoom_55) ⟨rfl, rfl⟩ rfl (fun r3 J4 hw => ?_)
        refine r_bipush hC (v := (44 : Int32)) dX10_readsRoom_58 rfl (by decide) ?_
        refine r_icmp_eq hC (tgt := 73) dX10_readsRoom_60 rfl (by decide) hw (fun hw => ?_) (fun hw => ?_)
        · exact r_sub (lv' := [(0, .ref (gA g 100)), (1, .int x1), (2, .int x2), (3, .int x3)]) [0, 1, 2, 3] rfl (hK73 _ _ _ _ hw)
        · exact r_sub (lv' := [(0, .ref (gA g 100)), (1, .int x1), (2, .int x2)]) [0, 1, 2] rfl (t_X10_readsRoom_63 hC hG hR (fun x1 x2 x3 I  hw => ih x1 x2 x3 I  hw) hK73 _ _ _ hw)
set_option maxRecDepth 100000 in
set_option maxHeartbeats 4000000 in
theorem t_X10_readsRoom_111 {f : Fx} {g : Gm}  {Post : Int32 → Mm → Prop} {Kb : Int32 → Int32 → Int32 → Mm → Prop} (hC : Cx f cX10_readsRoom 4 RX10 wsX10_readsRoom rm_X10_readsRoom) (hG : shM g) (hR : RtZ f cX10_readsRoom (fun r u => u.1 = g ∧ Post r u.2)) (hKb : ∀ (x1 : Int32) (x2 : Int32) (x3 : Int32) (I : Mm) , Kb x1 x2 x3 I → PW f 0 0 g I 91 [(0, .ref (gA g 100)), (1, .int x1), (2, .int x2), (3, .int x3)] []) : ∀ (x1 : Int32) (x2 : Int32) (I : Mm) , wp_X10_readsRoom_111  Kb Post x1 x2 I → PW f 0 0 g I 111 [(0, .ref (gA g 100)), (1, .int x1), (2, .int x2)] [] := by
  intro x1 x2 I  hw
  unfold wp_X10_readsRoom_111 at hw
  refine r_aload_n hC dX10_readsRoom_111 rfl rfl (j := 0) rfl ?_
  refine r_iload_n hC dX10_readsRoom_112 rfl rfl (j := 1) rfl ?_
  refine r_iload_n hC dX10_readsRoom_113 rfl rfl (j := 2) rfl ?_
  refine r_callI hC (a_V hC (k := 10) (c_X10_readsAsk hG hw) ci_X10_readsAsk gX10_readsRoom_X10_readsAsk rfl ⟨Nat.le_of_ble_eq_true rfl, Nat.le_of_ble_eq_true rfl⟩ ⟨Nat.le_of_ble_eq_true rfl, Nat.le_of_ble_eq_true rfl⟩ rfl (by decide) hG.o.1 (List.mem_singleton.mp hG.o.2) rfl rfl (Nat.le_of_ble_eq_true rfl) dX10_readsRoom_114) ⟨rfl, rfl⟩ rfl (fun r7 J8 hw => ?_)
  refine r_istore_n hC (lv' := [(3, .int r7), (0, .ref (gA g 100)), (1, .int x1), (2, .int x2)]) dX10_readsRoom_117 rfl rfl (by decide) rfl ?_
  refine r_goto hC (tgt := 91) dX10_readsRoom_118 (by decide) ?_
  exact r_sub (lv' := [(0, .ref (gA g 100)), (1, .int x1), (2, .int x2), (3, .int r7)]) [1, 2, 3, 0] rfl (hKb _ _ _ _ hw)
set_option maxRecDepth 100000 in
set_option maxHeartbeats 4000000 in
theorem t_X10_readsRoom_91 {f : Fx} {g : Gm}  {Post : Int32 → Mm → Prop}  (hC : Cx f cX10_readsRoom 4 RX10 wsX10_readsRoom rm_X10_readsRoom) (hG : shM g) (hR : RtZ f cX10_readsRoom (fun r u => u.1 = g ∧ Post r u.2))  : ∀ (nn91 : Nat) (x1 : Int32) (x2 : Int32) (x3 : Int32) (I : Mm) , wp_X10_readsRoom_91   Post nn91 x1 x2 x3 I → PW f 0 0 g I 91 [(0, .ref (gA g 100)), (1, .int x1), (2, .int x2), (3, .int x3)] [] := by
  intro nn91
  induction nn91 with
  | zero =>
    intro x1 x2 x3 I  hw
    exact absurd hw id
  | succ nn91 ih =>
    intro x1 x2 x3 I  hw
    unfold wp_X10_readsRoom_91 at hw
    refine r_iload_n hC dX10_readsRoom_91 rfl rfl (j := 3) rfl ?_
    refine r_if_eq hC (tgt := 121) dX10_readsRoom_92 rfl (by decide) hw (fun hw => ?_) (fun hw => ?_)
    · refine r_iload_n hC dX10_readsRoom_121 rfl rfl (j := 3) rfl ?_
      exact r_retZ hC hR ⟨rfl, rfl⟩ dX10_readsRoom_122 (zb_of hw.1) hw.2
    · refine r_aload_n hC dX10_readsRoom_95 rfl rfl (j := 0) rfl ?_
      refine r_getI hC dX10_readsRoom_96 rfl hG.o.1 hG.o.2 ffg_X10_readsRoom_92 ?_
      refine r_iconst hC (v := (1 : Int32)) dX10_readsRoom_99 rfl (by decide) ?_
      refine r_icmp_lt hC (tgt := 111) dX10_readsRoom_100 rfl (by decide) hw (fun hw => ?_) (fun hw => ?_)
      · exact r_sub (lv' := [(0, .ref (gA g 100)), (1, .int x1), (2, .int x2)]) [0, 1, 2] rfl (t_X10_readsRoom_111 hC hG hR (fun x1 x2 x3 I  hw => ih x1 x2 x3 I  hw) _ _ _ hw)
      · refine r_aload_n hC dX10_readsRoom_103 rfl rfl (j := 0) rfl ?_
        refine r_getI hC dX10_readsRoom_104 rfl hG.o.1 hG.o.2 ffg_X10_readsRoom_80 ?_
        refine r_iload_n hC dX10_readsRoom_107 rfl rfl (j := 2) rfl ?_
        refine r_icmp_ge hC (tgt := 121) dX10_readsRoom_108 rfl (by decide) hw (fun hw => ?_) (fun hw => ?_)
        · refine r_iload_n hC dX10_readsRoom_121 rfl rfl (j := 3) rfl ?_
          exact r_retZ hC hR ⟨rfl, rfl⟩ dX10_readsRoom_122 (zb_of hw.1) hw.2
        · exact r_sub (lv' := [(0, .ref (gA g 100)), (1, .int x1), (2, .int x2)]) [0, 1, 2] rfl (t_X10_readsRoom_111 hC hG hR (fun x1 x2 x3 I  hw => ih x1 x2 x3 I  hw) _ _ _ hw)
set_option maxRecDepth 100000 in
set_option maxHeartbeats 4000000 in
theorem t_X10_readsRoom_87 {f : Fx} {g : Gm}  {Post : Int32 → Mm → Prop}  (hC : Cx f cX10_readsRoom 4 RX10 wsX10_readsRoom rm_X10_readsRoom) (hG : shM g) (hR : RtZ f cX10_readsRoom (fun r u => u.1 = g ∧ Post r u.2))  : ∀ (x1 : Int32) (x2 : Int32) (x3 : Int32) (s0 : Int32) (s1 : Int32) (I : Mm) , wp_X10_readsRoom_87   Post x1 x2 x3 s0 s1 I → PW f 0 0 g I 87 [(0, .ref (gA g 100)), (1, .int x1), (2, .int x2), (3, .int x3)] [.int s0, .int s1, .ref (gA g 100)] := by
  intro x1 x2 x3 s0 s1 I  hw
  unfold wp_X10_readsRoom_87 at hw
  refine r_iadd hC dX10_readsRoom_87 rfl ?_
  refine r_putI hC dX10_readsRoom_88 rfl hG.o.1 hG.o.2 ffp_X10_readsRoom_80 ?_
  obtain ⟨nn91, hw⟩ := hw
  exact r_sub (lv' := [(0, .ref (gA g 100)), (1, .int x1), (2, .int x2), (3, .int x3)]) [0, 1, 2, 3] rfl ((t_X10_readsRoom_91 hC hG hR nn91 _ _ _ _ hw))
set_option maxRecDepth 100000 in
set_option maxHeartbeats 4000000 in
theorem t_X10_readsRoom_73 {f : Fx} {g : Gm}  {Post : Int32 → Mm → Prop}  (hC : Cx f cX10_readsRoom 4 RX10 wsX10_readsRoom rm_X10_readsRoom) (hG : shM g) (hR : RtZ f cX10_readsRoom (fun r u => u.1 = g ∧ Post r u.2))  : ∀ (x1 : Int32) (x2 : Int32) (x3 : Int32) (I : Mm) , wp_X10_readsRoom_73   Post x1 x2 x3 I → PW f 0 0 g I 73 [(0, .ref (gA g 100)), (1, .int x1), (2, .int x2), (3, .int x3)] [] := by
  intro x1 x2 x3 I  hw
  unfold wp_X10_readsRoom_73 at hw
  refine r_aload_n hC dX10_readsRoom_73 rfl rfl (j := 0) rfl ?_
  refine r_dup hC dX10_readsRoom_74 rfl rfl ?_
  refine r_getI hC dX10_readsRoom_75 rfl hG.o.1 hG.o.2 ffg_X10_readsRoom_80 ?_
  refine r_iload_n hC dX10_readsRoom_78 rfl rfl (j := 3) rfl ?_
  refine r_if_eq hC (tgt := 86) dX10_readsRoom_79 rfl (by decide) hw (fun hw => ?_) (fun hw => ?_)
  · refine r_iconst hC (v := (0 : Int32)) dX10_readsRoom_86 rfl (by decide) ?_
    exact r_sub (lv' := [(0, .ref (gA g 100)), (1, .int x1), (2, .int x2), (3, .int x3)]) [0, 1, 2, 3] rfl (t_X10_readsRoom_87 hC hG hR _ _ _ _ _ _ hw)
  · refine r_iconst hC (v := (1 : Int32)) dX10_readsRoom_82 rfl (by decide) ?_
    refine r_goto hC (tgt := 87) dX10_readsRoom_83 (by decide) ?_
    exact r_sub (lv' := [(0, .ref (gA g 100)), (1, .int x1), (2, .int x2), (3, .int x3)]) [0, 1, 2, 3] rfl (t_X10_readsRoom_87 hC hG hR _ _ _ _ _ _ hw)
set_option maxRecDepth 100000 in
set_option maxHeartbeats 4000000 in
theorem t_X10_readsRoom_0 {f : Fx} {g : Gm}  {Post : Int32 → Mm → Prop} {x1 : Int32} {x2 : Int32} {I : Mm} (hC : Cx f cX10_readsRoom 4 RX10 wsX10_readsRoom rm_X10_readsRoom) (hG : shM g) (hR : RtZ f cX10_readsRoom (fun r u => u.1 = g ∧ Post r u.2)) (hw : wp_X10_readsRoom  x1 x2 I Post) : PW f 0 0 g I 0 [(0, .ref (gA g 100)), (1, .int x1), (2, .int x2)] [] := by
  unfold wp_X10_readsRoom at hw
  refine r_aload_n hC dX10_readsRoom_0 rfl rfl (j := 0) rfl ?_
  refine r_iconst hC (v := (0 : Int32)) dX10_readsRoom_1 rfl (by decide) ?_
  refine r_putI hC dX10_readsRoom_2 rfl hG.o.1 hG.o.2 ffp_X10_readsRoom_80 ?_
  refine r_aload_n hC dX10_readsRoom_5 rfl rfl (j := 0) rfl ?_
  refine r_iconst hC (v := (0 : Int32)) dX10_readsRoom_6 rfl (by decide) ?_
  refine r_putI hC dX10_readsRoom_7 rfl hG.o.1 hG.o.2 ffp_X10_readsRoom_83 ?_
  refine r_aload_n hC dX10_readsRoom_10 rfl rfl (j := 0) rfl ?_
  refine r_iconst hC (v := (0 : Int32)) dX10_readsRoom_11 rfl (by decide) ?_
  refine r_putI hC dX10_readsRoom_12 rfl hG.o.1 hG.o.2 ffp_X10_readsRoom_92 ?_
  refine r_aload_n hC dX10_readsRoom_15 rfl rfl (j := 0) rfl ?_
  refine r_iload_n hC dX10_readsRoom_16 rfl rfl (j := 1) rfl ?_
  refine r_iload_n hC dX10_readsRoom_17 rfl rfl (j := 2) rfl ?_
  refine r_callI hC (a_V hC (k := 10) (c_X10_codeAt hG hw) ci_X10_codeAt gX10_readsRoom_X10_codeAt rfl ⟨Nat.le_of_ble_eq_true rfl, Nat.le_of_ble_eq_true rfl⟩ ⟨Nat.le_of_ble_eq_true rfl, Nat.le_of_ble_eq_true rfl⟩ rfl (by decide) hG.o.1 (List.mem_singleton.mp hG.o.2) rfl rfl (Nat.le_of_ble_eq_true rfl) dX10_readsRoom_18) ⟨rfl, rfl⟩ rfl (fun r1 J2 hw => ?_)
  refine r_bipush hC (v := (100 : Int32)) dX10_readsRoom_21 rfl (by decide) ?_
  refine r_icmp_eq hC (tgt := 28) dX10_readsRoom_23 rfl (by decide) hw (fun hw => ?_) (fun hw => ?_)
  · refine r_aload_n hC dX10_readsRoom_28 rfl rfl (j := 0) rfl ?_
    refine r_dup hC dX10_readsRoom_29 rfl rfl ?_
    refine r_getI hC dX10_readsRoom_30 rfl hG.o.1 hG.o.2 ffg_X10_readsRoom_80 ?_
    refine r_iconst hC (v := (1 : Int32)) dX10_readsRoom_33 rfl (by decide) ?_
    refine r_iadd hC dX10_readsRoom_34 rfl ?_
    refine r_putI hC dX10_readsRoom_35 rfl hG.o.1 hG.o.2 ffp_X10_readsRoom_80 ?_
    refine r_iconst hC (v := (1 : Int32)) dX10_readsRoom_38 rfl (by decide) ?_
    refine r_istore_n hC (lv' := [(3, .int (1 : Int32)), (0, .ref (gA g 100)), (1, .int x1), (2, .int x2)]) dX10_readsRoom_39 rfl rfl (by decide) rfl ?_
    obtain ⟨nn40, hw⟩ := hw
    exact r_sub (lv' := [(0, .ref (gA g 100)), (1, .int x1), (2, .int x2), (3, .int (1 : Int32))]) [1, 2, 3, 0] rfl ((t_X10_readsRoom_40 hC hG hR (fun x1 x2 x3 I  hw => t_X10_readsRoom_73 hC hG hR _ _ _ _ hw) nn40 _ _ _ _ hw))
  · refine r_iconst hC (v := (0 : Int32)) dX10_readsRoom_26 rfl (by decide) ?_
    exact r_retZ hC hR ⟨rfl, rfl⟩ dX10_readsRoom_27 (by decide) hw
set_option maxRecDepth 100000 in
theorem c_X10_readsRoom {l : Launch} {x : Gx} {g : Gm}  {x1 : Int32} {x2 : Int32} {I : Mm} {Post : Int32 → Mm → Prop} (hG : shM g) (hw : wp_X10_readsRoom  x1 x2 I Post) : KI l x yX10_readsRoom wsX10_readsRoom rm_X10_readsRoom g I [.ref (gA g 100), .int x1, .int x2] (fun r u => u.1 = g ∧ Post r u.2) := KZ_of (by decide) rfl rfl (Nat.le_of_ble_eq_true rfl) (fun f hC _ _ hR => t_X10_readsRoom_0 hC hG hR hw)

/-! X10_isBeyond -/
abbrev rm_X10_isBeyond : Room := { frames := 0, cells := 0, slots := 0, locals := 0 }
theorem ci_X10_isBeyond : CI yX10_isBeyond wsX10_isBeyond cX10_isBeyond 4 (some .boolean) 3 := ⟨⟨_, rfl⟩, by decide, by decide, by decide +kernel⟩
def wp_X10_isBeyond  (x0 : Int32) (y1 : Int64) (x3 : Int32) (I : Mm) (Post : Int32 → Mm → Prop) : Prop := if x0 < 0 then (Post (1 : Int32) I) else (if (lg_cmp y1 (0 : Int64)) < 0 then (Post (1 : Int32) I) else (if (lg_cmp (x0.toInt64 + y1) x3.toInt64) ≤ 0 then (Post (0 : Int32) I) else (Post (1 : Int32) I)))

set_option maxRecDepth 100000 in
set_option maxHeartbeats 4000000 in
theorem t_X10_isBeyond_0 {f : Fx} {g : Gm}  {Post : Int32 → Mm → Prop} {x0 : Int32} {y1 : Int64} {x3 : Int32} {I : Mm} (hC : Cx f cX10_isBeyond 4 RX10 wsX10_isBeyond rm_X10_isBeyond)  (hR : RtZ f cX10_isBeyond (fun r u => u.1 = g ∧ Post r u.2)) (hw : wp_X10_isBeyond  x0 y1 x3 I Post) : PW f 0 0 g I 0 [(0, .int x0), (1, .long y1), (3, .int x3)] [] := by
  unfold wp_X10_isBeyond at hw
  refine r_iload_n hC dX10_isBeyond_0 rfl rfl (j := 0) rfl ?_
  refine r_if_lt hC (tgt := 20) dX10_isBeyond_1 rfl (by decide) hw (fun hw => ?_) (fun hw => ?_)
  · refine r_iconst hC (v := (1 : Int32)) dX10_isBeyond_20 rfl (by decide) ?_
    refine r_goto hC (tgt := 25) dX10_isBeyond_21 (by decide) ?_
    exact r_retZ hC hR ⟨rfl, rfl⟩ dX10_isBeyond_25 (by decide) hw
  · refine r_lload_n hC dX10_isBeyond_4 rfl rfl (j := 1) rfl ?_
    refine r_lconst hC (v := (0 : Int64)) dX10_isBeyond_5 rfl (by decide) ?_
    refine r_lcmp hC dX10_isBeyond_6 rfl ?_
    refine r_if_lt hC (tgt := 20) dX10_isBeyond_7 rfl (by decide) hw (fun hw => ?_) (fun hw => ?_)
    · refine r_iconst hC (v := (1 : Int32)) dX10_isBeyond_20 rfl (by decide) ?_
      refine r_goto hC (tgt := 25) dX10_isBeyond_21 (by decide) ?_
      exact r_retZ hC hR ⟨rfl, rfl⟩ dX10_isBeyond_25 (by decide) hw
    · refine r_iload_n hC dX10_isBeyond_10 rfl rfl (j := 0) rfl ?_
      refine r_i2l hC dX10_isBeyond_11 rfl ?_
      refine r_lload_n hC dX10_isBeyond_12 rfl rfl (j := 1) rfl ?_
      refine r_ladd hC dX10_isBeyond_13 rfl ?_
      refine r_iload_n hC dX10_isBeyond_14 rfl rfl (j := 2) rfl ?_
      refine r_i2l hC dX10_isBeyond_15 rfl ?_
      refine r_lcmp hC dX10_isBeyond_16 rfl ?_
      refine r_if_le hC (tgt := 24) dX10_isBeyond_17 rfl (by decide) hw (fun hw => ?_) (fun hw => ?_)
      · refine r_iconst hC (v := (0 : Int32)) dX10_isBeyond_24 rfl (by decide) ?_
        exact r_retZ hC hR ⟨rfl, rfl⟩ dX10_isBeyond_25 (by decide) hw
      · refine r_iconst hC (v := (1 : Int32)) dX10_isBeyond_20 rfl (by decide) ?_
        refine r_goto hC (tgt := 25) dX10_isBeyond_21 (by decide) ?_
        exact r_retZ hC hR ⟨rfl, rfl⟩ dX10_isBeyond_25 (by decide) hw
set_option maxRecDepth 100000 in
theorem c_X10_isBeyond {l : Launch} {x : Gx} {g : Gm}  {x0 : Int32} {y1 : Int64} {x3 : Int32} {I : Mm} {Post : Int32 → Mm → Prop}  (hw : wp_X10_isBeyond  x0 y1 x3 I Post) : KI l x yX10_isBeyond wsX10_isBeyond rm_X10_isBeyond g I [.int x0, .long y1, .int x3] (fun r u => u.1 = g ∧ Post r u.2) := KZ_of (by decide) rfl rfl (Nat.le_of_ble_eq_true rfl) (fun f hC _ _ hR => t_X10_isBeyond_0 hC  hR hw)

/-! X10_cellsBarred -/
abbrev rm_X10_cellsBarred : Room := { frames := 1, cells := 0, slots := 0, locals := 23 }
theorem ci_X10_cellsBarred : CI yX10_cellsBarred wsX10_cellsBarred cX10_cellsBarred 6 (some .int) 4 := ⟨⟨_, rfl⟩, by decide, by decide, by decide +kernel⟩
def wp_X10_cellsBarred_25   (Post : Int32 → Mm → Prop) (x1 : Int32) (x3 : Int32) (y4 : Int64) (I : Mm) : Prop := vp_in x1 4 ∧ (if 0 ≤ (I 125 x1.toNatClampNeg) then (if 0 ≤ (lg_cmp y4 (0 : Int64)) then (vp_in x1 4 ∧ (wp_X10_isBeyond x3 y4 (I 125 x1.toNatClampNeg) I (fun r3 J4 => if r3 = 0 then (Post (0 : Int32) J4) else (wp_X10_failed (3 : Int32) J4 (fun r5 J6 => Post r5 J6))))) else (wp_X10_failed (4 : Int32) I (fun r7 J8 => Post r7 J8))) else (wp_X10_failed (1 : Int32) I (fun r9 J10 => Post r9 J10)))
def wp_X10_cellsBarred  (x1 : Int32) (x2 : Int32) (x3 : Int32) (y4 : Int64) (I : Mm) (Post : Int32 → Mm → Prop) : Prop := vp_in x1 4 ∧ (if (I 125 x1.toNatClampNeg) < 0 then (wp_X10_cellsBarred_25  Post x1 x3 y4 I) else (vp_in x1 4 ∧ (if (I 126 x1.toNatClampNeg) = x2 then (wp_X10_cellsBarred_25  Post x1 x3 y4 I) else (wp_X10_failed (2 : Int32) I (fun r1 J2 => Post r1 J2)))))
set_option maxRecDepth 20000 in
theorem uw_X10_cellsBarred_10 : ∀ w ∈ u_ws RX10 TX10 30, w ∈ wsX10_cellsBarred := by decide +kernel
set_option maxRecDepth 20000 in
theorem ffg_X10_cellsBarred_46 : ∀ k ∈ ([10] : List Nat), FF wsX10_cellsBarred RX10 46 k 25 ∧ fR k 25 = true := List.forall_mem_cons.mpr ⟨⟨⟨RX10, TX10, 30, "PageDesksModel", rfl, rfl, by decide, by decide, uw_X10_cellsBarred_10, (List.mem_of_getElem? (i := 1) rfl), Or.inl rfl⟩, rfl⟩, fun _ h => absurd h List.not_mem_nil⟩
set_option maxRecDepth 20000 in
theorem ffg_X10_cellsBarred_49 : ∀ k ∈ ([10] : List Nat), FF wsX10_cellsBarred RX10 49 k 26 ∧ fR k 26 = true := List.forall_mem_cons.mpr ⟨⟨⟨RX10, TX10, 30, "PageDesksModel", rfl, rfl, by decide, by decide, uw_X10_cellsBarred_10, (List.mem_of_getElem? (i := 2) rfl), Or.inl rfl⟩, rfl⟩, fun _ h => absurd h List.not_mem_nil⟩
set_option maxRecDepth 100000 in
set_option maxHeartbeats 4000000 in
theorem t_X10_cellsBarred_25 {f : Fx} {g : Gm}  {Post : Int32 → Mm → Prop}  (hC : Cx f cX10_cellsBarred 6 RX10 wsX10_cellsBarred rm_X10_cellsBarred) (hG : shM g) (hR : RtI f cX10_cellsBarred (fun r u => u.1 = g ∧ Post r u.2))  : ∀ (x1 : Int32) (x3 : Int32) (y4 : Int64) (I : Mm) , wp_X10_cellsBarred_25   Post x1 x3 y4 I → PW f 0 0 g I 25 [(0, .ref (gA g 100)), (1, .int x1), (3, .int x3), (4, .long y4)] [] := by
  intro x1 x3 y4 I  hw
  unfold wp_X10_cellsBarred_25 at hw
  refine r_aload_n hC dX10_cellsBarred_25 rfl rfl (j := 0) rfl ?_
  refine r_getR hC dX10_cellsBarred_26 rfl hG.o.1 hG.o.2 ffg_X10_cellsBarred_46 hG.a25.2 ?_
  refine r_iload_n hC dX10_cellsBarred_29 rfl rfl (j := 1) rfl ?_
  obtain ⟨hi, hw⟩ := hw
  refine r_iald hC dX10_cellsBarred_30 rfl (hG.a25.1).1 (hG.a25.1).2.1 (by rw [(hG.a25.1).2.2]; exact hi) ?_
  refine r_if_ge hC (tgt := 40) dX10_cellsBarred_31 rfl (by decide) hw (fun hw => ?_) (fun hw => ?_)
  · refine r_lload hC dX10_cellsBarred_40 rfl (j := 3) rfl ?_
    refine r_lconst hC (v := (0 : Int64)) dX10_cellsBarred_42 rfl (by decide) ?_
    refine r_lcmp hC dX10_cellsBarred_43 rfl ?_
    refine r_if_ge hC (tgt := 53) dX10_cellsBarred_44 rfl (by decide) hw (fun hw => ?_) (fun hw => ?_)
    · refine r_iload_n hC dX10_cellsBarred_53 rfl rfl (j := 2) rfl ?_
      refine r_lload hC dX10_cellsBarred_54 rfl (j := 3) rfl ?_
      refine r_aload_n hC dX10_cellsBarred_56 rfl rfl (j := 0) rfl ?_
      refine r_getR hC dX10_cellsBarred_57 rfl hG.o.1 hG.o.2 ffg_X10_cellsBarred_46 hG.a25.2 ?_
      refine r_iload_n hC dX10_cellsBarred_60 rfl rfl (j := 1) rfl ?_
      obtain ⟨hi, hw⟩ := hw
      refine r_iald hC dX10_cellsBarred_61 rfl (hG.a25.1).1 (hG.a25.1).2.1 (by rw [(hG.a25.1).2.2]; exact hi) ?_
      refine r_callI hC (a_S hC (c_X10_isBeyond  hw) ci_X10_isBeyond gX10_cellsBarred_X10_isBeyond ⟨Nat.le_of_ble_eq_true rfl, Nat.le_of_ble_eq_true rfl⟩ ⟨Nat.le_of_ble_eq_true rfl, Nat.le_of_ble_eq_true rfl⟩ rfl rfl (Nat.le_of_ble_eq_true rfl) dX10_cellsBarred_62) ⟨rfl, rfl⟩ rfl (fun r3 J4 hw => ?_)
      refine r_if_eq hC (tgt := 76) dX10_cellsBarred_65 rfl (by decide) hw (fun hw => ?_) (fun hw => ?_)
      · refine r_iconst hC (v := (0 : Int32)) dX10_cellsBarred_76 rfl (by decide) ?_
        exact r_retI hC hR ⟨rfl, rfl⟩ dX10_cellsBarred_77 hw
      · refine r_aload_n hC dX10_cellsBarred_68 rfl rfl (j := 0) rfl ?_
        refine r_iconst hC (v := (3 : Int32)) dX10_cellsBarred_69 rfl (by decide) ?_
        refine r_callI hC (a_V hC (k := 10) (c_X10_failed hG hw) ci_X10_failed gX10_cellsBarred_X10_failed rfl ⟨Nat.le_of_ble_eq_true rfl, Nat.le_of_ble_eq_true rfl⟩ ⟨Nat.le_of_ble_eq_true rfl, Nat.le_of_ble_eq_true rfl⟩ rfl (by decide) hG.o.1 (List.mem_singleton.mp hG.o.2) rfl rfl (Nat.le_of_ble_eq_true rfl) dX10_cellsBarred_70) ⟨rfl, rfl⟩ rfl (fun r5 J6 hw => ?_)
        refine r_goto hC (tgt := 77) dX10_cellsBarred_73 (by decide) ?_
        exact r_retI hC hR ⟨rfl, rfl⟩ dX10_cellsBarred_77 hw
    · refine r_aload_n hC dX10_cellsBarred_47 rfl rfl (j := 0) rfl ?_
      refine r_iconst hC (v := (4 : Int32)) dX10_cellsBarred_48 rfl (by decide) ?_
      refine r_callI hC (a_V hC (k := 10) (c_X10_failed hG hw) ci_X10_failed gX10_cellsBarred_X10_failed rfl ⟨Nat.le_of_ble_eq_true rfl, Nat.le_of_ble_eq_true rfl⟩ ⟨Nat.le_of_ble_eq_true rfl, Nat.le_of_ble_eq_true rfl⟩ rfl (by decide) hG.o.1 (List.mem_singleton.mp hG.o.2) rfl rfl (Nat.le_of_ble_eq_true rfl) dX10_cellsBarred_49) ⟨rfl, rfl⟩ rfl (fun r7 J8 hw => ?_)
      exact r_retI hC hR ⟨rfl, rfl⟩ dX10_cellsBarred_52 hw
  · refine r_aload_n hC dX10_cellsBarred_34 rfl rfl (j := 0) rfl ?_
    refine r_iconst hC (v := (1 : Int32)) dX10_cellsBarred_35 rfl (by decide) ?_
    refine r_callI hC (a_V hC (k := 10) (c_X10_failed hG hw) ci_X10_failed gX10_cellsBarred_X10_failed rfl ⟨Nat.le_of_ble_eq_true rfl, Nat.le_of_ble_eq_true rfl⟩ ⟨Nat.le_of_ble_eq_true rfl, Nat.le_of_ble_eq_true rfl⟩ rfl (by decide) hG.o.1 (List.mem_singleton.mp hG.o.2) rfl rfl (Nat.le_of_ble_eq_true rfl) dX10_cellsBarred_36) ⟨rfl, rfl⟩ rfl (fun r9 J10 hw => ?_)
    exact r_retI hC hR ⟨rfl, rfl⟩ dX10_cellsBarred_39 hw
set_option maxRecDepth 100000 in
set_option maxHeartbeats 4000000 in
theorem t_X10_cellsBarred_0 {f : Fx} {g : Gm}  {Post : Int32 → Mm → Prop} {x1 : Int32} {x2 : Int32} {x3 : Int32} {y4 : Int64} {I : Mm} (hC : Cx f cX10_cellsBarred 6 RX10 wsX10_cellsBarred rm_X10_cellsBarred) (hG : shM g) (hR : RtI f cX10_cellsBarred (fun r u => u.1 = g ∧ Post r u.2)) (hw : wp_X10_cellsBarred  x1 x2 x3 y4 I Post) : PW f 0 0 g I 0 [(0, .ref (gA g 100)), (1, .int x1), (2, .int x2), (3, .int x3), (4, .long y4)] [] := by
  unfold wp_X10_cellsBarred at hw
  refine r_aload_n hC dX10_cellsBarred_0 rfl rfl (j := 0) rfl ?_
  refine r_getR hC dX10_cellsBarred_1 rfl hG.o.1 hG.o.2 ffg_X10_cellsBarred_46 hG.a25.2 ?_
  refine r_iload_n hC dX10_cellsBarred_4 rfl rfl (j := 1) rfl ?_
  obtain ⟨hi, hw⟩ := hw
  refine r_iald hC dX10_cellsBarred_5 rfl (hG.a25.1).1 (hG.a25.1).2.1 (by rw [(hG.a25.1).2.2]; exact hi) ?_
  refine r_if_lt hC (tgt := 25) dX10_cellsBarred_6 rfl (by decide) hw (fun hw => ?_) (fun hw => ?_)
  · exact r_sub (lv' := [(0, .ref (gA g 100)), (1, .int x1), (3, .int x3), (4, .long y4)]) [0, 1, 3, 4] rfl (t_X10_cellsBarred_25 hC hG hR _ _ _ _ hw)
  · refine r_aload_n hC dX10_cellsBarred_9 rfl rfl (j := 0) rfl ?_
    refine r_getR hC dX10_cellsBarred_10 rfl hG.o.1 hG.o.2 ffg_X10_cellsBarred_49 hG.a26.2 ?_
    refine r_iload_n hC dX10_cellsBarred_13 rfl rfl (j := 1) rfl ?_
    obtain ⟨hi, hw⟩ := hw
    refine r_iald hC dX10_cellsBarred_14 rfl (hG.a26.1).1 (hG.a26.1).2.1 (by rw [(hG.a26.1).2.2]; exact hi) ?_
    refine r_iload_n hC dX10_cellsBarred_15 rfl rfl (j := 2) rfl ?_
    refine r_icmp_eq hC (tgt := 25) dX10_cellsBarred_16 rfl (by decide) hw (fun hw => ?_) (fun hw => ?_)
    · exact r_sub (lv' := [(0, .ref (gA g 100)), (1, .int x1), (3, .int x3), (4, .long y4)]) [0, 1, 3, 4] rfl (t_X10_cellsBarred_25 hC hG hR _ _ _ _ hw)
    · refine r_aload_n hC dX10_cellsBarred_19 rfl rfl (j := 0) rfl ?_
      refine r_iconst hC (v := (2 : Int32)) dX10_cellsBarred_20 rfl (by decide) ?_
      refine r_callI hC (a_V hC (k := 10) (c_X10_failed hG hw) ci_X10_failed gX10_cellsBarred_X10_failed rfl ⟨Nat.le_of_ble_eq_true rfl, Nat.le_of_ble_eq_true rfl⟩ ⟨Nat.le_of_ble_eq_true rfl, Nat.le_of_ble_eq_true rfl⟩ rfl (by decide) hG.o.1 (List.mem_singleton.mp hG.o.2) rfl rfl (Nat.le_of_ble_eq_true rfl) dX10_cellsBarred_21) ⟨rfl, rfl⟩ rfl (fun r1 J2 hw => ?_)
      exact r_retI hC hR ⟨rfl, rfl⟩ dX10_cellsBarred_24 hw
set_option maxRecDepth 100000 in
theorem c_X10_cellsBarred {l : Launch} {x : Gx} {g : Gm}  {x1 : Int32} {x2 : Int32} {x3 : Int32} {y4 : Int64} {I : Mm} {Post : Int32 → Mm → Prop} (hG : shM g) (hw : wp_X10_cellsBarred  x1 x2 x3 y4 I Post) : KI l x yX10_cellsBarred wsX10_cellsBarred rm_X10_cellsBarred g I [.ref (gA g 100), .int x1, .int x2, .int x3, .long y4] (fun r u => u.1 = g ∧ Post r u.2) := KI_of (by decide) rfl rfl (Nat.le_of_ble_eq_true rfl) (fun f hC _ _ hR => t_X10_cellsBarred_0 hC hG hR hw)

/-! X10_noSheet -/
abbrev rm_X10_noSheet : Room := { frames := 1, cells := 0, slots := 0, locals := 25 }
theorem ci_X10_noSheet : CI yX10_noSheet wsX10_noSheet cX10_noSheet 1 (some .boolean) 1 := ⟨⟨_, rfl⟩, by decide, by decide, by decide +kernel⟩
def wp_X10_noSheet  (x0 : Int32) (I : Mm) (Post : Int32 → Mm → Prop) : Prop := wp_X10_in x0.toInt64 (0 : Int64) (3 : Int64) I (fun r1 J2 => if r1 = 0 then (Post (1 : Int32) J2) else (Post (0 : Int32) J2))

set_option maxRecDepth 100000 in
set_option maxHeartbeats 4000000 in
theorem t_X10_noSheet_0 {f : Fx} {g : Gm}  {Post : Int32 → Mm → Prop} {x0 : Int32} {I : Mm} (hC : Cx f cX10_noSheet 1 RX10 wsX10_noSheet rm_X10_noSheet)  (hR : RtZ f cX10_noSheet (fun r u => u.1 = g ∧ Post r u.2)) (hw : wp_X10_noSheet  x0 I Post) : PW f 0 0 g I 0 [(0, .int x0)] [] := by
  unfold wp_X10_noSheet at hw
  refine r_iload_n hC dX10_noSheet_0 rfl rfl (j := 0) rfl ?_
  refine r_i2l hC dX10_noSheet_1 rfl ?_
  refine r_lconst hC (v := (0 : Int64)) dX10_noSheet_2 rfl (by decide) ?_
  refine r_ldc2 hC (v := (3 : Int64)) dX10_noSheet_3 rfl (List.mem_of_getElem? (i := 1) rfl) ?_
  refine r_callI hC (a_S hC (c_X10_in  hw) ci_X10_in gX10_noSheet_X10_in ⟨Nat.le_of_ble_eq_true rfl, Nat.le_of_ble_eq_true rfl⟩ ⟨Nat.le_of_ble_eq_true rfl, Nat.le_of_ble_eq_true rfl⟩ rfl rfl (Nat.le_of_ble_eq_true rfl) dX10_noSheet_6) ⟨rfl, rfl⟩ rfl (fun r1 J2 hw => ?_)
  refine r_if_ne hC (tgt := 16) dX10_noSheet_9 rfl (by decide) hw (fun hw => ?_) (fun hw => ?_)
  · refine r_iconst hC (v := (0 : Int32)) dX10_noSheet_16 rfl (by decide) ?_
    exact r_retZ hC hR ⟨rfl, rfl⟩ dX10_noSheet_17 (by decide) hw
  · refine r_iconst hC (v := (1 : Int32)) dX10_noSheet_12 rfl (by decide) ?_
    refine r_goto hC (tgt := 17) dX10_noSheet_13 (by decide) ?_
    exact r_retZ hC hR ⟨rfl, rfl⟩ dX10_noSheet_17 (by decide) hw
set_option maxRecDepth 100000 in
theorem c_X10_noSheet {l : Launch} {x : Gx} {g : Gm}  {x0 : Int32} {I : Mm} {Post : Int32 → Mm → Prop}  (hw : wp_X10_noSheet  x0 I Post) : KI l x yX10_noSheet wsX10_noSheet rm_X10_noSheet g I [.int x0] (fun r u => u.1 = g ∧ Post r u.2) := KZ_of (by decide) rfl rfl (Nat.le_of_ble_eq_true rfl) (fun f hC _ _ hR => t_X10_noSheet_0 hC  hR hw)

/-! X10_room -/
abbrev rm_X10_room : Room := { frames := 4, cells := 0, slots := 0, locals := 91 }
theorem ci_X10_room : CI yX10_room wsX10_room cX10_room 7 (some .int) 4 := ⟨⟨_, rfl⟩, by decide, by decide, by decide +kernel⟩
def wp_X10_room_103  (K146 : Mm → Prop) (Post : Int32 → Mm → Prop) : Nat → Int32 → Mm → Prop
  | 0, _, _ => False
  | nn103 + 1, x6, I => if (I 100 1) ≤ x6 then (K146  I) else (vp_in x6 4 ∧ (vp_in x6 4 ∧ (vp_in x6 4 ∧ (vp_in x6 4 ∧ (wp_X10_room_103 K146 Post nn103 (x6 + 1) (up2 (up2 I 104 x6.toNatClampNeg (I 110 x6.toNatClampNeg)) 105 x6.toNatClampNeg ((up2 I 104 x6.toNatClampNeg (I 110 x6.toNatClampNeg)) 111 x6.toNatClampNeg)))))))
def wp_X10_room_149  (K178 : Mm → Prop) (Post : Int32 → Mm → Prop) : Nat → Int32 → Mm → Prop
  | 0, _, _ => False
  | nn149 + 1, x6, I => if (I 100 2) ≤ x6 then (K178  I) else (vp_in x6 24 ∧ (vp_in x6 24 ∧ (wp_X10_room_149 K178 Post nn149 (x6 + 1) (up2 I 106 x6.toNatClampNeg (I 112 x6.toNatClampNeg)))))
def wp_X10_room_178   (Post : Int32 → Mm → Prop)  (I : Mm) : Prop := wp_X10_refused ((up2 I 100 21 (0 : Int32)) 100 1) (up2 I 100 21 (0 : Int32)) (fun r15 J16 => Post r15 J16)
def wp_X10_room_146   (Post : Int32 → Mm → Prop)  (I : Mm) : Prop := ∃ nn149, wp_X10_room_149 (fun I => wp_X10_room_178  Post  I) Post nn149 (0 : Int32) I
def wp_X10_room  (x1 : Int32) (x2 : Int32) (x3 : Int32) (x4 : Int32) (I : Mm) (Post : Int32 → Mm → Prop) : Prop := wp_X10_noSheet x1 I (fun r1 J2 => if r1 = 0 then (wp_X10_in x2.toInt64 (0 : Int64) (2 : Int64) J2 (fun r3 J4 => if r3 = 0 then (wp_X10_refused (-2 : Int32) J4 (fun r11 J12 => Post r11 J12)) else (wp_X10_cellsBarred x1 x2 x3 x4.toInt64 J4 (fun r5 J6 => if 0 ≤ r5 then (wp_X10_readsRoom (((60 : Int32) * x1) + x3) x4 J6 (fun r7 J8 => if r7 = 0 then (wp_X10_refused ((-100 : Int32) - (J8 100 7)) J8 (fun r9 J10 => Post r9 J10)) else (∃ nn103, wp_X10_room_103 (fun I => wp_X10_room_146  Post  I) Post nn103 (0 : Int32) (up2 (up2 (up2 J8 100 1 (J8 100 8)) 100 2 ((up2 J8 100 1 (J8 100 8)) 100 9)) 100 3 (0 : Int32))))) else (Post r5 J6))))) else (wp_X10_refused (-1 : Int32) J2 (fun r13 J14 => Post r13 J14)))
set_option maxRecDepth 20000 in
theorem uw_X10_room_10 : ∀ w ∈ u_ws RX10 TX10 30, w ∈ wsX10_room := by decide +kernel
set_option maxRecDepth 20000 in
theorem ffg_X10_room_83 : ∀ k ∈ ([10] : List Nat), FF wsX10_room RX10 83 k 8 ∧ fR k 8 = false := List.forall_mem_cons.mpr ⟨⟨⟨RX10, TX10, 30, "PageDesksModel", rfl, rfl, by decide, by decide, uw_X10_room_10, (List.mem_of_getElem? (i := 3) rfl), Or.inl rfl⟩, rfl⟩, fun _ h => absurd h List.not_mem_nil⟩
set_option maxRecDepth 20000 in
theorem ffp_X10_room_68 : ∀ k ∈ ([10] : List Nat), FF wsX10_room RX10 68 k 1 ∧ fR k 1 = false ∧ FP k 1 := List.forall_mem_cons.mpr ⟨⟨⟨RX10, TX10, 30, "PageDesksModel", rfl, rfl, by decide, by decide, uw_X10_room_10, (List.mem_of_getElem? (i := 4) rfl), Or.inl rfl⟩, rfl, ⟨RX10, TX10, 30, tyX10, rfl, tyX10_ok, nmX10, rfl, rfl⟩⟩, fun _ h => absurd h List.not_mem_nil⟩
set_option maxRecDepth 20000 in
theorem ffg_X10_room_92 : ∀ k ∈ ([10] : List Nat), FF wsX10_room RX10 92 k 9 ∧ fR k 9 = false := List.forall_mem_cons.mpr ⟨⟨⟨RX10, TX10, 30, "PageDesksModel", rfl, rfl, by decide, by decide, uw_X10_room_10, (List.mem_of_getElem? (i := 5) rfl), Or.inl rfl⟩, rfl⟩, fun _ h => absurd h List.not_mem_nil⟩
set_option maxRecDepth 20000 in
theorem ffp_X10_room_75 : ∀ k ∈ ([10] : List Nat), FF wsX10_room RX10 75 k 2 ∧ fR k 2 = false ∧ FP k 2 := List.forall_mem_cons.mpr ⟨⟨⟨RX10, TX10, 30, "PageDesksModel", rfl, rfl, by decide, by decide, uw_X10_room_10, (List.mem_of_getElem? (i := 6) rfl), Or.inl rfl⟩, rfl, ⟨RX10, TX10, 30, tyX10, rfl, tyX10_ok, nmX10, rfl, rfl⟩⟩, fun _ h => absurd h List.not_mem_nil⟩
set_option maxRecDepth 20000 in
theorem ffp_X10_room_129 : ∀ k ∈ ([10] : List Nat), FF wsX10_room RX10 129 k 3 ∧ fR k 3 = false ∧ FP k 3 := List.forall_mem_cons.mpr ⟨⟨⟨RX10, TX10, 30, "PageDesksModel", rfl, rfl, by decide, by decide, uw_X10_room_10, (List.mem_of_getElem? (i := 7) rfl), Or.inl rfl⟩, rfl, ⟨RX10, TX10, 30, tyX10, rfl, tyX10_ok, nmX10, rfl, rfl⟩⟩, fun _ h => absurd h List.not_mem_nil⟩
set_option maxRecDepth 20000 in
theorem ffg_X10_room_80 : ∀ k ∈ ([10] : List Nat), FF wsX10_room RX10 80 k 7 ∧ fR k 7 = false := List.forall_mem_cons.mpr ⟨⟨⟨RX10, TX10, 30, "PageDesksModel", rfl, rfl, by decide, by decide, uw_X10_room_10, (List.mem_of_getElem? (i := 2) rfl), Or.inl rfl⟩, rfl⟩, fun _ h => absurd h List.not_mem_nil⟩
set_option maxRecDepth 20000 in
theorem ffg_X10_room_68 : ∀ k ∈ ([10] : List Nat), FF wsX10_room RX10 68 k 1 ∧ fR k 1 = false := List.forall_mem_cons.mpr ⟨⟨⟨RX10, TX10, 30, "PageDesksModel", rfl, rfl, by decide, by decide, uw_X10_room_10, (List.mem_of_getElem? (i := 4) rfl), Or.inl rfl⟩, rfl⟩, fun _ h => absurd h List.not_mem_nil⟩
set_option maxRecDepth 20000 in
theorem ffg_X10_room_7 : ∀ k ∈ ([10] : List Nat), FF wsX10_room RX10 7 k 4 ∧ fR k 4 = true := List.forall_mem_cons.mpr ⟨⟨⟨RX10, TX10, 30, "PageDesksModel", rfl, rfl, by decide, by decide, uw_X10_room_10, (List.mem_of_getElem? (i := 8) rfl), Or.inl rfl⟩, rfl⟩, fun _ h => absurd h List.not_mem_nil⟩
set_option maxRecDepth 20000 in
theorem ffg_X10_room_19 : ∀ k ∈ ([10] : List Nat), FF wsX10_room RX10 19 k 10 ∧ fR k 10 = true := List.forall_mem_cons.mpr ⟨⟨⟨RX10, TX10, 30, "PageDesksModel", rfl, rfl, by decide, by decide, uw_X10_room_10, (List.mem_of_getElem? (i := 9) rfl), Or.inl rfl⟩, rfl⟩, fun _ h => absurd h List.not_mem_nil⟩
set_option maxRecDepth 20000 in
theorem ffg_X10_room_13 : ∀ k ∈ ([10] : List Nat), FF wsX10_room RX10 13 k 5 ∧ fR k 5 = true := List.forall_mem_cons.mpr ⟨⟨⟨RX10, TX10, 30, "PageDesksModel", rfl, rfl, by decide, by decide, uw_X10_room_10, (List.mem_of_getElem? (i := 10) rfl), Or.inl rfl⟩, rfl⟩, fun _ h => absurd h List.not_mem_nil⟩
set_option maxRecDepth 20000 in
theorem ffg_X10_room_22 : ∀ k ∈ ([10] : List Nat), FF wsX10_room RX10 22 k 11 ∧ fR k 11 = true := List.forall_mem_cons.mpr ⟨⟨⟨RX10, TX10, 30, "PageDesksModel", rfl, rfl, by decide, by decide, uw_X10_room_10, (List.mem_of_getElem? (i := 11) rfl), Or.inl rfl⟩, rfl⟩, fun _ h => absurd h List.not_mem_nil⟩
set_option maxRecDepth 20000 in
theorem ffp_X10_room_132 : ∀ k ∈ ([10] : List Nat), FF wsX10_room RX10 132 k 21 ∧ fR k 21 = false ∧ FP k 21 := List.forall_mem_cons.mpr ⟨⟨⟨RX10, TX10, 30, "PageDesksModel", rfl, rfl, by decide, by decide, uw_X10_room_10, (List.mem_of_getElem? (i := 14) rfl), Or.inl rfl⟩, rfl, ⟨RX10, TX10, 30, tyX10, rfl, tyX10_ok, nmX10, rfl, rfl⟩⟩, fun _ h => absurd h List.not_mem_nil⟩
set_option maxRecDepth 20000 in
theorem ffg_X10_room_75 : ∀ k ∈ ([10] : List Nat), FF wsX10_room RX10 75 k 2 ∧ fR k 2 = false := List.forall_mem_cons.mpr ⟨⟨⟨RX10, TX10, 30, "PageDesksModel", rfl, rfl, by decide, by decide, uw_X10_room_10, (List.mem_of_getElem? (i := 6) rfl), Or.inl rfl⟩, rfl⟩, fun _ h => absurd h List.not_mem_nil⟩
set_option maxRecDepth 20000 in
theorem ffg_X10_room_16 : ∀ k ∈ ([10] : List Nat), FF wsX10_room RX10 16 k 6 ∧ fR k 6 = true := List.forall_mem_cons.mpr ⟨⟨⟨RX10, TX10, 30, "PageDesksModel", rfl, rfl, by decide, by decide, uw_X10_room_10, (List.mem_of_getElem? (i := 12) rfl), Or.inl rfl⟩, rfl⟩, fun _ h => absurd h List.not_mem_nil⟩
set_option maxRecDepth 20000 in
theorem ffg_X10_room_25 : ∀ k ∈ ([10] : List Nat), FF wsX10_room RX10 25 k 12 ∧ fR k 12 = true := List.forall_mem_cons.mpr ⟨⟨⟨RX10, TX10, 30, "PageDesksModel", rfl, rfl, by decide, by decide, uw_X10_room_10, (List.mem_of_getElem? (i := 13) rfl), Or.inl rfl⟩, rfl⟩, fun _ h => absurd h List.not_mem_nil⟩
set_option maxRecDepth 100000 in
set_option maxHeartbeats 4000000 in
theorem t_X10_room_103 {f : Fx} {g : Gm}  {Post : Int32 → Mm → Prop} {K146 : Mm → Prop} (hC : Cx f cX10_room 7 RX10 wsX10_room rm_X10_room) (hG : shM g) (hR : RtI f cX10_room (fun r u => u.1 = g ∧ Post r u.2)) (hK146 : ∀  (I : Mm) , K146  I → PW f 0 0 g I 146 [(0, .ref (gA g 100))] []) : ∀ (nn103 : Nat) (x6 : Int32) (I : Mm) , wp_X10_room_103  K146 Post nn103 x6 I → PW f 0 0 g I 103 [(0, .ref (gA g 100)), (6, .int x6)] [] := by
  intro nn103
  induction nn103 with
  | zero =>
    intro x6 I  hw
    exact absurd hw id
  | succ nn103 ih =>
    intro x6 I  hw
    unfold wp_X10_room_103 at hw
    refine r_iload hC dX10_room_103 rfl (j := 1) rfl ?_
    refine r_aload_n hC dX10_room_105 rfl rfl (j := 0) rfl ?_
    refine r_getI hC dX10_room_106 rfl hG.o.1 hG.o.2 ffg_X10_room_68 ?_
    refine r_icmp_ge hC (tgt := 146) dX10_room_109 rfl (by decide) hw (fun hw => ?_) (fun hw => ?_)
    · exact r_sub (lv' := [(0, .ref (gA g 100))]) [0] rfl (hK146 _ hw)
    · refine r_aload_n hC dX10_room_112 rfl rfl (j := 0) rfl ?_
      refine r_getR hC dX10_room_113 rfl hG.o.1 hG.o.2 ffg_X10_room_7 hG.a4.2 ?_
      refine r_iload hC dX10_room_116 rfl (j := 1) rfl ?_
      refine r_aload_n hC dX10_room_118 rfl rfl (j := 0) rfl ?_
      refine r_getR hC dX10_room_119 rfl hG.o.1 hG.o.2 ffg_X10_room_19 hG.a10.2 ?_
      refine r_iload hC dX10_room_122 rfl (j := 1) rfl ?_
      obtain ⟨hi, hw⟩ := hw
      refine r_iald hC dX10_room_124 rfl (hG.a10.1).1 (hG.a10.1).2.1 (by rw [(hG.a10.1).2.2]; exact hi) ?_
      obtain ⟨hi, hw⟩ := hw
      refine r_iast hC dX10_room_125 rfl (hG.a4.1).1 (hG.a4.1).2.1 (by rw [(hG.a4.1).2.2]; exact hi) ?_
      refine r_aload_n hC dX10_room_126 rfl rfl (j := 0) rfl ?_
      refine r_getR hC dX10_room_127 rfl hG.o.1 hG.o.2 ffg_X10_room_13 hG.a5.2 ?_
      refine r_iload hC dX10_room_130 rfl (j := 1) rfl ?_
      refine r_aload_n hC dX10_room_132 rfl rfl (j := 0) rfl ?_
      refine r_getR hC dX10_room_133 rfl hG.o.1 hG.o.2 ffg_X10_room_22 hG.a11.2 ?_
      refine r_iload hC dX10_room_136 rfl (j := 1) rfl ?_
      obtain ⟨hi, hw⟩ := hw
      refine r_iald hC dX10_room_138 rfl (hG.a11.1).1 (hG.a11.1).2.1 (by rw [(hG.a11.1).2.2]; exact hi) ?_
      obtain ⟨hi, hw⟩ := hw
      refine r_iast hC dX10_room_139 rfl (hG.a5.1).1 (hG.a5.1).2.1 (by rw [(hG.a5.1).2.2]; exact hi) ?_
      refine r_iinc hC (k := 1) (lv' := [(6, .int (x6 + 1)), (0, .ref (gA g 100))]) dX10_room_140 rfl (j := 1) rfl (by decide) (by decide) rfl ?_
      refine r_goto hC (tgt := 103) dX10_room_143 (by decide) ?_
      exact r_sub (lv' := [(0, .ref (gA g 100)), (6, .int (x6 + 1))]) [1, 0] rfl (ih _ _ hw)
set_option maxRecDepth 100000 in
set_option maxHeartbeats 4000000 in
theorem t_X10_room_149 {f : Fx} {g : Gm}  {Post : Int32 → Mm → Prop} {K178 : Mm → Prop} (hC : Cx f cX10_room 7 RX10 wsX10_room rm_X10_room) (hG : shM g) (hR : RtI f cX10_room (fun r u => u.1 = g ∧ Post r u.2)) (hK178 : ∀  (I : Mm) , K178  I → PW f 0 0 g I 178 [(0, .ref (gA g 100))] []) : ∀ (nn149 : Nat) (x6 : Int32) (I : Mm) , wp_X10_room_149  K178 Post nn149 x6 I → PW f 0 0 g I 149 [(0, .ref (gA g 100)), (6, .int x6)] [] := by
  intro nn149
  induction nn149 with
  | zero =>
    intro x6 I  hw
    exact absurd hw id
  | succ nn149 ih =>
    intro x6 I  hw
    unfold wp_X10_room_149 at hw
    refine r_iload hC dX10_room_149 rfl (j := 1) rfl ?_
    refine r_aload_n hC dX10_room_151 rfl rfl (j := 0) rfl ?_
    refine r_getI hC dX10_room_152 rfl hG.o.1 hG.o.2 ffg_X10_room_75 ?_
    refine r_icmp_ge hC (tgt := 178) dX10_room_155 rfl (by decide) hw (fun hw => ?_) (fun hw => ?_)
    · exact r_sub (lv' := [(0, .ref (gA g 100))]) [0] rfl (hK178 _ hw)
    · refine r_aload_n hC dX10_room_158 rfl rfl (j := 0) rfl ?_
      refine r_getR hC dX10_room_159 rfl hG.o.1 hG.o.2 ffg_X10_room_16 hG.a6.2 ?_
      refine r_iload hC dX10_room_162 rfl (j := 1) rfl ?_
      refine r_aload_n hC dX10_room_164 rfl rfl (j := 0) rfl ?_
      refine r_getR hC dX10_room_165 rfl hG.o.1 hG.o.2 ffg_X10_room_25 hG.a12.2 ?_
      refine r_iload hC dX10_room_168 rfl (j := 1) rfl ?_
      obtain ⟨hi, hw⟩ := hw
      refine r_iald hC dX10_room_170 rfl (hG.a12.1).1 (hG.a12.1).2.1 (by rw [(hG.a12.1).2.2]; exact hi) ?_
      obtain ⟨hi, hw⟩ := hw
      refine r_iast hC dX10_room_171 rfl (hG.a6.1).1 (hG.a6.1).2.1 (by rw [(hG.a6.1).2.2]; exact hi) ?_
      refine r_iinc hC (k := 1) (lv' := [(6, .int (x6 + 1)), (0, .ref (gA g 100))]) dX10_room_172 rfl (j := 1) rfl (by decide) (by decide) rfl ?_
      refine r_goto hC (tgt := 149) dX10_room_175 (by decide) ?_
      exact r_sub (lv' := [(0, .ref (gA g 100)), (6, .int (x6 + 1))]) [1, 0] rfl (ih _ _ hw)
set_option maxRecDepth 100000 in
set_option maxHeartbeats 4000000 in
theorem t_X10_room_178 {f : Fx} {g : Gm}  {Post : Int32 → Mm → Prop}  (hC : Cx f cX10_room 7 RX10 wsX10_room rm_X10_room) (hG : shM g) (hR : RtI f cX10_room (fun r u => u.1 = g ∧ Post r u.2))  : ∀  (I : Mm) , wp_X10_room_178   Post  I → PW f 0 0 g I 178 [(0, .ref (gA g 100))] [] := by
  intro  I  hw
  unfold wp_X10_room_178 at hw
  refine r_aload_n hC dX10_room_178 rfl rfl (j := 0) rfl ?_
  refine r_iconst hC (v := (0 : Int32)) dX10_room_179 rfl (by decide) ?_
  refine r_putI hC dX10_room_180 rfl hG.o.1 hG.o.2 ffp_X10_room_132 ?_
  refine r_aload_n hC dX10_room_183 rfl rfl (j := 0) rfl ?_
  refine r_aload_n hC dX10_room_184 rfl rfl (j := 0) rfl ?_
  refine r_getI hC dX10_room_185 rfl hG.o.1 hG.o.2 ffg_X10_room_68 ?_
  refine r_callI hC (a_V hC (k := 10) (c_X10_refused hG hw) ci_X10_refused gX10_room_X10_refused rfl ⟨Nat.le_of_ble_eq_true rfl, Nat.le_of_ble_eq_true rfl⟩ ⟨Nat.le_of_ble_eq_true rfl, Nat.le_of_ble_eq_true rfl⟩ rfl (by decide) hG.o.1 (List.mem_singleton.mp hG.o.2) rfl rfl (Nat.le_of_ble_eq_true rfl) dX10_room_188) ⟨rfl, rfl⟩ rfl (fun r15 J16 hw => ?_)
  exact r_retI hC hR ⟨rfl, rfl⟩ dX10_room_191 hw
set_option maxRecDepth 100000 in
set_option maxHeartbeats 4000000 in
theorem t_X10_room_146 {f : Fx} {g : Gm}  {Post : Int32 → Mm → Prop}  (hC : Cx f cX10_room 7 RX10 wsX10_room rm_X10_room) (hG : shM g) (hR : RtI f cX10_room (fun r u => u.1 = g ∧ Post r u.2))  : ∀  (I : Mm) , wp_X10_room_146   Post  I → PW f 0 0 g I 146 [(0, .ref (gA g 100))] [] := by
  intro  I  hw
  unfold wp_X10_room_146 at hw
  refine r_iconst hC (v := (0 : Int32)) dX10_room_146 rfl (by decide) ?_
  refine r_istore hC (lv' := [(6, .int (0 : Int32)), (0, .ref (gA g 100))]) dX10_room_147 rfl (by decide) rfl ?_
  obtain ⟨nn149, hw⟩ := hw
  exact r_sub (lv' := [(0, .ref (gA g 100)), (6, .int (0 : Int32))]) [1, 0] rfl ((t_X10_room_149 hC hG hR (fun  I  hw => t_X10_room_178 hC hG hR _ hw) nn149 _ _ hw))
set_option maxRecDepth 100000 in
set_option maxHeartbeats 4000000 in
theorem t_X10_room_0 {f : Fx} {g : Gm}  {Post : Int32 → Mm → Prop} {x1 : Int32} {x2 : Int32} {x3 : Int32} {x4 : Int32} {I : Mm} (hC : Cx f cX10_room 7 RX10 wsX10_room rm_X10_room) (hG : shM g) (hR : RtI f cX10_room (fun r u => u.1 = g ∧ Post r u.2)) (hw : wp_X10_room  x1 x2 x3 x4 I Post) : PW f 0 0 g I 0 [(0, .ref (gA g 100)), (1, .int x1), (2, .int x2), (3, .int x3), (4, .int x4)] [] := by
  unfold wp_X10_room at hw
  refine r_iload_n hC dX10_room_0 rfl rfl (j := 1) rfl ?_
  refine r_callI hC (a_S hC (c_X10_noSheet  hw) ci_X10_noSheet gX10_room_X10_noSheet ⟨Nat.le_of_ble_eq_true rfl, Nat.le_of_ble_eq_true rfl⟩ ⟨Nat.le_of_ble_eq_true rfl, Nat.le_of_ble_eq_true rfl⟩ rfl rfl (Nat.le_of_ble_eq_true rfl) dX10_room_1) ⟨rfl, rfl⟩ rfl (fun r1 J2 hw => ?_)
  refine r_if_eq hC (tgt := 13) dX10_room_4 rfl (by decide) hw (fun hw => ?_) (fun hw => ?_)
  · refine r_iload_n hC dX10_room_13 rfl rfl (j := 2) rfl ?_
    refine r_i2l hC dX10_room_14 rfl ?_
    refine r_lconst hC (v := (0 : Int64)) dX10_room_15 rfl (by decide) ?_
    refine r_ldc2 hC (v := (2 : Int64)) dX10_room_16 rfl (List.mem_of_getElem? (i := 1) rfl) ?_
    refine r_callI hC (a_S hC (c_X10_in  hw) ci_X10_in gX10_room_X10_in ⟨Nat.le_of_ble_eq_true rfl, Nat.le_of_ble_eq_true rfl⟩ ⟨Nat.le_of_ble_eq_true rfl, Nat.le_of_ble_eq_true rfl⟩ rfl rfl (Nat.le_of_ble_eq_true rfl) dX10_room_19) ⟨rfl, rfl⟩ rfl (fun r3 J4 hw => ?_)
    refine r_if_ne hC (tgt := 32) dX10_room_22 rfl (by decide) hw (fun hw => ?_) (fun hw => ?_)
    · refine r_aload_n hC dX10_room_32 rfl rfl (j := 0) rfl ?_
      refine r_iload_n hC dX10_room_33 rfl rfl (j := 1) rfl ?_
      refine r_iload_n hC dX10_room_34 rfl rfl (j := 2) rfl ?_
      refine r_iload_n hC dX10_room_35 rfl rfl (j := 3) rfl ?_
      refine r_iload hC dX10_room_36 rfl (j := 4) rfl ?_
      refine r_i2l hC dX10_room_38 rfl ?_
      refine r_callI hC (a_V hC (k := 10) (c_X10_cellsBarred hG hw) ci_X10_cellsBarred gX10_room_X10_cellsBarred rfl ⟨Nat.le_of_ble_eq_true rfl, Nat.le_of_ble_eq_true rfl⟩ ⟨Nat.le_of_ble_eq_true rfl, Nat.le_of_ble_eq_true rfl⟩ rfl (by decide) hG.o.1 (List.mem_singleton.mp hG.o.2) rfl rfl (Nat.le_of_ble_eq_true rfl) dX10_room_39) ⟨rfl, rfl⟩ rfl (fun r5 J6 hw => ?_)
      refine r_istore hC (lv' := [(5, .int r5), (0, .ref (gA g 100)), (1, .int x1), (2, .int x2), (3, .int x3), (4, .int x4)]) dX10_room_42 rfl (by decide) rfl ?_
      refine r_iload hC dX10_room_44 rfl (j := 0) rfl ?_
      refine r_if_ge hC (tgt := 52) dX10_room_46 rfl (by decide) hw (fun hw => ?_) (fun hw => ?_)
      · refine r_aload_n hC dX10_room_52 rfl rfl (j := 1) rfl ?_
        refine r_bipush hC (v := (60 : Int32)) dX10_room_53 rfl (by decide) ?_
        refine r_iload_n hC dX10_room_55 rfl rfl (j := 2) rfl ?_
        refine r_imul hC dX10_room_56 rfl ?_
        refine r_iload_n hC dX10_room_57 rfl rfl (j := 4) rfl ?_
        refine r_iadd hC dX10_room_58 rfl ?_
        refine r_iload hC dX10_room_59 rfl (j := 5) rfl ?_
        refine r_callI hC (a_V hC (k := 10) (c_X10_readsRoom hG hw) ci_X10_readsRoom gX10_room_X10_readsRoom rfl ⟨Nat.le_of_ble_eq_true rfl, Nat.le_of_ble_eq_true rfl⟩ ⟨Nat.le_of_ble_eq_true rfl, Nat.le_of_ble_eq_true rfl⟩ rfl (by decide) hG.o.1 (List.mem_singleton.mp hG.o.2) rfl rfl (Nat.le_of_ble_eq_true rfl) dX10_room_61) ⟨rfl, rfl⟩ rfl (fun r7 J8 hw => ?_)
        refine r_if_ne hC (tgt := 79) dX10_room_64 rfl (by decide) hw (fun hw => ?_) (fun hw => ?_)
        · refine r_aload_n hC dX10_room_79 rfl rfl (j := 1) rfl ?_
          refine r_aload_n hC dX10_room_80 rfl rfl (j := 1) rfl ?_
          refine r_getI hC dX10_room_81 rfl hG.o.1 hG.o.2 ffg_X10_room_83 ?_
          refine r_putI hC dX10_room_84 rfl hG.o.1 hG.o.2 ffp_X10_room_68 ?_
          refine r_aload_n hC dX10_room_87 rfl rfl (j := 1) rfl ?_
          refine r_aload_n hC dX10_room_88 rfl rfl (j := 1) rfl ?_
          refine r_getI hC dX10_room_89 rfl hG.o.1 hG.o.2 ffg_X10_room_92 ?_
          refine r_putI hC dX10_room_92 rfl hG.o.1 hG.o.2 ffp_X10_room_75 ?_
          refine r_aload_n hC dX10_room_95 rfl rfl (j := 1) rfl ?_
          refine r_iconst hC (v := (0 : Int32)) dX10_room_96 rfl (by decide) ?_
          refine r_putI hC dX10_room_97 rfl hG.o.1 hG.o.2 ffp_X10_room_129 ?_
          refine r_iconst hC (v := (0 : Int32)) dX10_room_100 rfl (by decide) ?_
          refine r_istore hC (lv' := [(6, .int (0 : Int32)), (5, .int r5), (0, .ref (gA g 100)), (1, .int x1), (2, .int x2), (3, .int x3), (4, .int x4)]) dX10_room_101 rfl (by decide) rfl ?_
          obtain ⟨nn103, hw⟩ := hw
          exact r_sub (lv' := [(0, .ref (gA g 100)), (6, .int (0 : Int32))]) [2, 0] rfl ((t_X10_room_103 hC hG hR (fun  I  hw => t_X10_room_146 hC hG hR _ hw) nn103 _ _ hw))
        · refine r_aload_n hC dX10_room_67 rfl rfl (j := 1) rfl ?_
          refine r_bipush hC (v := (-100 : Int32)) dX10_room_68 rfl (by decide) ?_
          refine r_aload_n hC dX10_room_70 rfl rfl (j := 1) rfl ?_
          refine r_getI hC dX10_room_71 rfl hG.o.1 hG.o.2 ffg_X10_room_80 ?_
          refine r_isub hC dX10_room_74 rfl ?_
          refine r_callI hC (a_V hC (k := 10) (c_X10_refused hG hw) ci_X10_refused gX10_room_X10_refused rfl ⟨Nat.le_of_ble_eq_true rfl, Nat.le_of_ble_eq_true rfl⟩ ⟨Nat.le_of_ble_eq_true rfl, Nat.le_of_ble_eq_true rfl⟩ rfl (by decide) hG.o.1 (List.mem_singleton.mp hG.o.2) rfl rfl (Nat.le_of_ble_eq_true rfl) dX10_room_75) ⟨rfl, rfl⟩ rfl (fun r9 J10 hw => ?_)
          exact r_retI hC hR ⟨rfl, rfl⟩ dX10_room_78 hw
      · refine r_iload hC dX10_room_49 rfl (j := 0) rfl ?_
        exact r_retI hC hR ⟨rfl, rfl⟩ dX10_room_51 hw
    · refine r_aload_n hC dX10_room_25 rfl rfl (j := 0) rfl ?_
      refine r_bipush hC (v := (-2 : Int32)) dX10_room_26 rfl (by decide) ?_
      refine r_callI hC (a_V hC (k := 10) (c_X10_refused hG hw) ci_X10_refused gX10_room_X10_refused rfl ⟨Nat.le_of_ble_eq_true rfl, Nat.le_of_ble_eq_true rfl⟩ ⟨Nat.le_of_ble_eq_true rfl, Nat.le_of_ble_eq_true rfl⟩ rfl (by decide) hG.o.1 (List.mem_singleton.mp hG.o.2) rfl rfl (Nat.le_of_ble_eq_true rfl) dX10_room_28) ⟨rfl, rfl⟩ rfl (fun r11 J12 hw => ?_)
      exact r_retI hC hR ⟨rfl, rfl⟩ dX10_room_31 hw
  · refine r_aload_n hC dX10_room_7 rfl rfl (j := 0) rfl ?_
    refine r_iconst hC (v := (-1 : Int32)) dX10_room_8 rfl (by decide) ?_
    refine r_callI hC (a_V hC (k := 10) (c_X10_refused hG hw) ci_X10_refused gX10_room_X10_refused rfl ⟨Nat.le_of_ble_eq_true rfl, Nat.le_of_ble_eq_true rfl⟩ ⟨Nat.le_of_ble_eq_true rfl, Nat.le_of_ble_eq_true rfl⟩ rfl (by decide) hG.o.1 (List.mem_singleton.mp hG.o.2) rfl rfl (Nat.le_of_ble_eq_true rfl) dX10_room_9) ⟨rfl, rfl⟩ rfl (fun r13 J14 hw => ?_)
    exact r_retI hC hR ⟨rfl, rfl⟩ dX10_room_12 hw
set_option maxRecDepth 100000 in
theorem c_X10_room {l : Launch} {x : Gx} {g : Gm}  {x1 : Int32} {x2 : Int32} {x3 : Int32} {x4 : Int32} {I : Mm} {Post : Int32 → Mm → Prop} (hG : shM g) (hw : wp_X10_room  x1 x2 x3 x4 I Post) : KI l x yX10_room wsX10_room rm_X10_room g I [.ref (gA g 100), .int x1, .int x2, .int x3, .int x4] (fun r u => u.1 = g ∧ Post r u.2) := KI_of (by decide) rfl rfl (Nat.le_of_ble_eq_true rfl) (fun f hC _ _ hR => t_X10_room_0 hC hG hR hw)
