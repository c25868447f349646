/-! X9_isDesk -/
abbrev rm_X9_isDesk : Room := { frames := 1, cells := 0, slots := 0, locals := 22 }
theorem ci_X9_isDesk : CI yX9_isDesk wsX9_isDesk cX9_isDesk 2 (some .boolean) 1 := ⟨⟨_, rfl⟩, by decide, by decide, by decide +kernel⟩
def wp_X9_isDesk (ki : Nat → Nat) (nd : Nat) (x1 : Int32) (I : Mm) (Post : Int32 → Mm → Prop) : Prop := wp_X9_isWithin x1 (0 : Int32) ((I 0 8) - (1 : Int32)) I (fun r1 J2 => (r1 = 0 ∨ r1 = 1) ∧ Post r1 J2)
set_option maxRecDepth 20000 in
theorem uw_X9_isDesk_9 : ∀ w ∈ u_ws RX9 TX9 11, w ∈ wsX9_isDesk := by decide +kernel
set_option maxRecDepth 20000 in
theorem ffg_X9_isDesk_99 : ∀ k ∈ ([9] : List Nat), FF wsX9_isDesk RX9 99 k 8 ∧ fR k 8 = false := List.forall_mem_cons.mpr ⟨⟨⟨RX9, TX9, 11, "PageDesks", rfl, rfl, by decide, by decide, uw_X9_isDesk_9, (List.mem_of_getElem? (i := 1) rfl), Or.inl rfl⟩, rfl⟩, fun _ h => absurd h List.not_mem_nil⟩
set_option maxRecDepth 100000 in
set_option maxHeartbeats 4000000 in
theorem t_X9_isDesk_0 {f : Fx} {g : Gm} {nd : Nat} {Post : Int32 → Mm → Prop} {x1 : Int32} {I : Mm} (hC : Cx f cX9_isDesk 2 RX9 wsX9_isDesk rm_X9_isDesk) (hG : shP g nd) (hR : RtZ f cX9_isDesk (fun r u => u.1 = g ∧ Post r u.2)) (hw : wp_X9_isDesk (gK g) nd x1 I Post) : PW f 0 0 g I 0 [(0, .ref (gA g 0)), (1, .int x1)] [] := by
  unfold wp_X9_isDesk at hw
  refine r_iload_n hC dX9_isDesk_0 rfl rfl (j := 1) rfl ?_
  refine r_iconst hC (v := (0 : Int32)) dX9_isDesk_1 rfl (by decide) ?_
  refine r_aload_n hC dX9_isDesk_2 rfl rfl (j := 0) rfl ?_
  refine r_getI hC dX9_isDesk_3 rfl hG.o.1 hG.o.2 ffg_X9_isDesk_99 ?_
  refine r_iconst hC (v := (1 : Int32)) dX9_isDesk_6 rfl (by decide) ?_
  refine r_isub hC dX9_isDesk_7 rfl ?_
  refine r_callI hC (a_S hC (c_X9_isWithin  hw) ci_X9_isWithin gX9_isDesk_X9_isWithin ⟨Nat.le_of_ble_eq_true rfl, Nat.le_of_ble_eq_true rfl⟩ ⟨Nat.le_of_ble_eq_true rfl, Nat.le_of_ble_eq_true rfl⟩ rfl rfl (Nat.le_of_ble_eq_true rfl) dX9_isDesk_8) ⟨rfl, rfl⟩ rfl (fun r1 J2 hw => ?_)
  exact r_retZ hC hR ⟨rfl, rfl⟩ dX9_isDesk_11 (zb_of hw.1) hw.2
set_option maxRecDepth 100000 in
theorem c_X9_isDesk {l : Launch} {x : Gx} {g : Gm} {nd : Nat} {x1 : Int32} {I : Mm} {Post : Int32 → Mm → Prop} (hG : shP g nd) (hw : wp_X9_isDesk (gK g) nd x1 I Post) : KI l x yX9_isDesk wsX9_isDesk rm_X9_isDesk g I [.ref (gA g 0), .int x1] (fun r u => u.1 = g ∧ Post r u.2) := KZ_of (by decide) rfl rfl (Nat.le_of_ble_eq_true rfl) (fun f hC _ _ hR => t_X9_isDesk_0 hC hG hR hw)

def wpv_kind (ki : Nat → Nat) (d : Nat)  (I : Mm) (Post : Int32 → Mm → Prop) : Prop := if ki d = 3 then wp_X3_kind ki d  I Post else if ki d = 0 then wp_X0_kind ki d  I Post else wp_X5_kind ki d  I Post
theorem wpv_kind_3 {ki : Nat → Nat} {d : Nat}  {I : Mm} {Post : Int32 → Mm → Prop} (h : ki d = 3) (hw : wpv_kind ki d  I Post) : wp_X3_kind ki d  I Post := by
  unfold wpv_kind at hw
  rw [if_pos h] at hw
  exact hw
theorem wpv_kind_0 {ki : Nat → Nat} {d : Nat}  {I : Mm} {Post : Int32 → Mm → Prop} (h : ki d = 0) (hw : wpv_kind ki d  I Post) : wp_X0_kind ki d  I Post := by
  unfold wpv_kind at hw
  rw [if_neg (by rw [h]; decide), if_pos h] at hw
  exact hw
theorem wpv_kind_5 {ki : Nat → Nat} {d : Nat}  {I : Mm} {Post : Int32 → Mm → Prop} (h : ki d = 5) (hw : wpv_kind ki d  I Post) : wp_X5_kind ki d  I Post := by
  unfold wpv_kind at hw
  rw [if_neg (by rw [h]; decide), if_neg (by rw [h]; decide)] at hw
  exact hw
/-! X9_ofDesk -/
abbrev rm_X9_ofDesk : Room := { frames := 3, cells := 0, slots := 0, locals := 62 }
theorem ci_X9_ofDesk : CI yX9_ofDesk wsX9_ofDesk cX9_ofDesk 4 (some .int) 2 := ⟨⟨_, rfl⟩, by decide, by decide, by decide +kernel⟩
def wp_X9_ofDesk (ki : Nat → Nat) (nd : Nat) (x1 : Int32) (x2 : Int32) (I : Mm) (Post : Int32 → Mm → Prop) : Prop := wp_X9_isDesk ki nd x1 I (fun r1 J2 => if r1 = 0 then (Post (-1 : Int32) J2) else (vp_in x1 nd ∧ (if x2 = 0 then (wpv_kind ki (40 + x1.toNatClampNeg) J2 (fun r4 J5 => Post r4 J5)) else (if x2 = 1 then (Post (J2 (40 + x1.toNatClampNeg) 1) J2) else (if x2 = 2 then (wp_X3_pages ki (40 + x1.toNatClampNeg) J2 (fun r6 J7 => Post r6 J7)) else (if x2 = 3 then (Post (J2 (40 + x1.toNatClampNeg) 4) J2) else (if x2 = 4 then (wp_X3_nextToGo ki (40 + x1.toNatClampNeg) J2 (fun r8 J9 => Post r8 J9)) else (if x2 = 5 then (Post (J2 (40 + x1.toNatClampNeg) 3) J2) else (Post (-2 : Int32) J2)))))))))
set_option maxRecDepth 20000 in
theorem uw_X9_ofDesk_9 : ∀ w ∈ u_ws RX9 TX9 11, w ∈ wsX9_ofDesk := by decide +kernel
set_option maxRecDepth 20000 in
theorem ffg_X9_ofDesk_26 : ∀ k ∈ ([9] : List Nat), FF wsX9_ofDesk RX9 26 k 2 ∧ fR k 2 = true := List.forall_mem_cons.mpr ⟨⟨⟨RX9, TX9, 11, "PageDesks", rfl, rfl, by decide, by decide, uw_X9_ofDesk_9, (List.mem_of_getElem? (i := 1) rfl), Or.inl rfl⟩, rfl⟩, fun _ h => absurd h List.not_mem_nil⟩
set_option maxRecDepth 20000 in
theorem uw_X9_ofDesk_0 : ∀ w ∈ u_ws RX0 TX0 5, w ∈ wsX9_ofDesk := by decide +kernel
set_option maxRecDepth 20000 in
theorem uw_X9_ofDesk_3 : ∀ w ∈ u_ws RX3 TX3 5, w ∈ wsX9_ofDesk := by decide +kernel
set_option maxRecDepth 20000 in
theorem uw_X9_ofDesk_5 : ∀ w ∈ u_ws RX5 TX5 5, w ∈ wsX9_ofDesk := by decide +kernel
set_option maxRecDepth 20000 in
theorem ffg_X9_ofDesk_109 : ∀ k ∈ ([0, 3, 5] : List Nat), FF wsX9_ofDesk RX9 109 k 1 ∧ fR k 1 = false := List.forall_mem_cons.mpr ⟨⟨⟨RX0, TX0, 5, "PageDesks$Queue", rfl, rfl, by decide, by decide, uw_X9_ofDesk_0, (List.mem_of_getElem? (i := 2) rfl), Or.inl rfl⟩, rfl⟩, List.forall_mem_cons.mpr ⟨⟨⟨RX3, TX3, 5, "PageDesks$Queue", rfl, rfl, by decide, by decide, uw_X9_ofDesk_3, (List.mem_of_getElem? (i := 2) rfl), Or.inl rfl⟩, rfl⟩, List.forall_mem_cons.mpr ⟨⟨⟨RX5, TX5, 5, "PageDesks$Queue", rfl, rfl, by decide, by decide, uw_X9_ofDesk_5, (List.mem_of_getElem? (i := 2) rfl), Or.inl rfl⟩, rfl⟩, fun _ h => absurd h List.not_mem_nil⟩⟩⟩
set_option maxRecDepth 20000 in
theorem ffg_X9_ofDesk_115 : ∀ k ∈ ([0, 3, 5] : List Nat), FF wsX9_ofDesk RX9 115 k 4 ∧ fR k 4 = false := List.forall_mem_cons.mpr ⟨⟨⟨RX0, TX0, 5, "PageDesks$Queue", rfl, rfl, by decide, by decide, uw_X9_ofDesk_0, (List.mem_of_getElem? (i := 3) rfl), Or.inl rfl⟩, rfl⟩, List.forall_mem_cons.mpr ⟨⟨⟨RX3, TX3, 5, "PageDesks$Queue", rfl, rfl, by decide, by decide, uw_X9_ofDesk_3, (List.mem_of_getElem? (i := 3) rfl), Or.inl rfl⟩, rfl⟩, List.forall_mem_cons.mpr ⟨⟨⟨RX5, TX5, 5, "PageDesks$Queue", rfl, rfl, by decide, by decide, uw_X9_ofDesk_5, (List.mem_of_getElem? (i := 3) rfl), Or.inl rfl⟩, rfl⟩, fun _ h => absurd h List.not_mem_nil⟩⟩⟩
set_option maxRecDepth 20000 in
theorem ffg_X9_ofDesk_121 : ∀ k ∈ ([0, 3, 5] : List Nat), FF wsX9_ofDesk RX9 121 k 3 ∧ fR k 3 = false := List.forall_mem_cons.mpr ⟨⟨⟨RX0, TX0, 5, "PageDesks$Queue", rfl, rfl, by decide, by decide, uw_X9_ofDesk_0, (List.mem_of_getElem? (i := 4) rfl), Or.inl rfl⟩, rfl⟩, List.forall_mem_cons.mpr ⟨⟨⟨RX3, TX3, 5, "PageDesks$Queue", rfl, rfl, by decide, by decide, uw_X9_ofDesk_3, (List.mem_of_getElem? (i := 4) rfl), Or.inl rfl⟩, rfl⟩, List.forall_mem_cons.mpr ⟨⟨⟨RX5, TX5, 5, "PageDesks$Queue", rfl, rfl, by decide, by decide, uw_X9_ofDesk_5, (List.mem_of_getElem? (i := 4) rfl), Or.inl rfl⟩, rfl⟩, fun _ h => absurd h List.not_mem_nil⟩⟩⟩
set_option maxRecDepth 100000 in
set_option maxHeartbeats 4000000 in
theorem t_X9_ofDesk_0 {f : Fx} {g : Gm} {nd : Nat} {Post : Int32 → Mm → Prop} {x1 : Int32} {x2 : Int32} {I : Mm} (hC : Cx f cX9_ofDesk 4 RX9 wsX9_ofDesk rm_X9_ofDesk) (hG : shP g nd) (hR : RtI f cX9_ofDesk (fun r u => u.1 = g ∧ Post r u.2)) (hw : wp_X9_ofDesk (gK g) nd x1 x2 I Post) : PW f 0 0 g I 0 [(0, .ref (gA g 0)), (1, .int x1), (2, .int x2)] [] := by
  unfold wp_X9_ofDesk at hw
  refine r_aload_n hC dX9_ofDesk_0 rfl rfl (j := 0) rfl ?_
  refine r_iload_n hC dX9_ofDesk_1 rfl rfl (j := 1) rfl ?_
  refine r_callI hC (a_V hC (k := 9) (c_X9_isDesk hG hw) ci_X9_isDesk gX9_ofDesk_X9_isDesk rfl ⟨Nat.le_of_ble_eq_true rfl, Nat.le_of_ble_eq_true rfl⟩ ⟨Nat.le_of_ble_eq_true rfl, Nat.le_of_ble_eq_true rfl⟩ rfl (by decide) hG.o.1 (List.mem_singleton.mp hG.o.2) rfl rfl (Nat.le_of_ble_eq_true rfl) dX9_ofDesk_2) ⟨rfl, rfl⟩ rfl (fun r1 J2 hw => ?_)
  refine r_if_ne hC (tgt := 10) dX9_ofDesk_5 rfl (by decide) hw (fun hw => ?_) (fun hw => ?_)
  · refine r_aload_n hC dX9_ofDesk_10 rfl rfl (j := 0) rfl ?_
    refine r_getR hC dX9_ofDesk_11 rfl hG.o.1 hG.o.2 ffg_X9_ofDesk_26 hG.r2 ?_
    refine r_iload_n hC dX9_ofDesk_14 rfl rfl (j := 1) rfl ?_
    obtain ⟨hi, hw⟩ := hw
    have hq3 := hG.desk hi
    refine r_aald hC dX9_ofDesk_15 rfl hq3.1.1 hq3.1.2.1 hq3.1.2.2 hq3.2.1 ?_
    refine r_astore_n hC (lv' := [(3, .ref (gA g (40 + x1.toNatClampNeg))), (0, .ref (gA g 0)), (1, .int x1), (2, .int x2)]) dX9_ofDesk_16 rfl rfl (by decide) rfl ?_
    refine r_iload_n hC dX9_ofDesk_17 rfl rfl (j := 3) rfl ?_
    by_cases h0 : x2 = 0
    · rw [if_pos h0] at hw
      refine r_tabIn hC (tgt := 56) dX9_ofDesk_18 h0 0 (by decide) (by decide) (by decide) rfl (by decide) ?_
      refine r_aload_n hC dX9_ofDesk_56 rfl rfl (j := 0) rfl ?_
      refine r_callI hC (rmc := rm_X3_kind) (a_K hq3.2.2 (fun h => a_O hC (k := 0) (rmc := rm_X0_kind) (c_X0_kind (shD.of hq3.2.2 h (by decide)) (wpv_kind_0 h hw)) ci_X0_kind gX9_ofDesk_X0_kind_u105X0 (List.mem_of_getElem? (i := 21) rfl) ⟨by decide, by decide⟩ rfl ⟨Nat.le_of_ble_eq_true rfl, Nat.le_of_ble_eq_true rfl⟩ ⟨Nat.le_of_ble_eq_true rfl, Nat.le_of_ble_eq_true rfl⟩ rfl (by decide) (hq3.2.2).1.1 h rfl rfl (Nat.le_of_ble_eq_true rfl) dX9_ofDesk_57) (fun h => a_V hC (k := 3) (c_X3_kind hq3.2.2 (wpv_kind_3 h hw)) ci_X3_kind gX9_ofDesk_X3_kind rfl ⟨Nat.le_of_ble_eq_true rfl, Nat.le_of_ble_eq_true rfl⟩ ⟨Nat.le_of_ble_eq_true rfl, Nat.le_of_ble_eq_true rfl⟩ rfl (by decide) (hq3.2.2).1.1 h rfl rfl (Nat.le_of_ble_eq_true rfl) dX9_ofDesk_57) (fun h => a_O hC (k := 5) (rmc := rm_X5_kind) (c_X5_kind (shD.of hq3.2.2 h (by decide)) (wpv_kind_5 h hw)) ci_X5_kind gX9_ofDesk_X5_kind_u105X5 (List.mem_of_getElem? (i := 21) rfl) ⟨by decide, by decide⟩ rfl ⟨Nat.le_of_ble_eq_true rfl, Nat.le_of_ble_eq_true rfl⟩ ⟨Nat.le_of_ble_eq_true rfl, Nat.le_of_ble_eq_true rfl⟩ rfl (by decide) (hq3.2.2).1.1 h rfl rfl (Nat.le_of_ble_eq_true rfl) dX9_ofDesk_57)) ⟨rfl, rfl⟩ rfl (fun r4 J5 hw => ?_)
      exact r_retI hC hR ⟨rfl, rfl⟩ dX9_ofDesk_60 hw
    · rw [if_neg h0] at hw
      by_cases h1 : x2 = 1
      · rw [if_pos h1] at hw
        refine r_tabIn hC (tgt := 61) dX9_ofDesk_18 h1 1 (by decide) (by decide) (by decide) rfl (by decide) ?_
        refine r_aload_n hC dX9_ofDesk_61 rfl rfl (j := 0) rfl ?_
        refine r_getI hC dX9_ofDesk_62 rfl (hq3.2.2).1.1 (hq3.2.2).1.2 ffg_X9_ofDesk_109 ?_
        exact r_retI hC hR ⟨rfl, rfl⟩ dX9_ofDesk_65 hw
      · rw [if_neg h1] at hw
        by_cases h2 : x2 = 2
        · rw [if_pos h2] at hw
          refine r_tabIn hC (tgt := 66) dX9_ofDesk_18 h2 2 (by decide) (by decide) (by decide) rfl (by decide) ?_
          refine r_aload_n hC dX9_ofDesk_66 rfl rfl (j := 0) rfl ?_
          refine r_callI hC (rmc := rm_X3_pages) (a_K hq3.2.2 (fun h => a_U hC (k := 0) (rmc := rm_X3_pages) (c_X3_pages hq3.2.2 hw) ci_X3_pages gX9_ofDesk_X3_pages_u112X0 rfl ⟨Nat.le_of_ble_eq_true rfl, Nat.le_of_ble_eq_true rfl⟩ ⟨Nat.le_of_ble_eq_true rfl, Nat.le_of_ble_eq_true rfl⟩ rfl (by decide) (hq3.2.2).1.1 h rfl rfl (Nat.le_of_ble_eq_true rfl) dX9_ofDesk_67) (fun h => a_V hC (k := 3) (c_X3_pages hq3.2.2 hw) ci_X3_pages gX9_ofDesk_X3_pages rfl ⟨Nat.le_of_ble_eq_true rfl, Nat.le_of_ble_eq_true rfl⟩ ⟨Nat.le_of_ble_eq_true rfl, Nat.le_of_ble_eq_true rfl⟩ rfl (by decide) (hq3.2.2).1.1 h rfl rfl (Nat.le_of_ble_eq_true rfl) dX9_ofDesk_67) (fun h => a_U hC (k := 5) (rmc := rm_X3_pages) (c_X3_pages hq3.2.2 hw) ci_X3_pages gX9_ofDesk_X3_pages_u112X5 rfl ⟨Nat.le_of_ble_eq_true rfl, Nat.le_of_ble_eq_true rfl⟩ ⟨Nat.le_of_ble_eq_true rfl, Nat.le_of_ble_eq_true rfl⟩ rfl (by decide) (hq3.2.2).1.1 h rfl rfl (Nat.le_of_ble_eq_true rfl) dX9_ofDesk_67)) ⟨rfl, rfl⟩ rfl (fun r6 J7 hw => ?_)
          exact r_retI hC hR ⟨rfl, rfl⟩ dX9_ofDesk_70 hw
        · rw [if_neg h2] at hw
          by_cases h3 : x2 = 3
          · rw [if_pos h3] at hw
            refine r_tabIn hC (tgt := 71) dX9_ofDesk_18 h3 3 (by decide) (by decide) (by decide) rfl (by decide) ?_
            refine r_aload_n hC dX9_ofDesk_71 rfl rfl (j := 0) rfl ?_
            refine r_getI hC dX9_ofDesk_72 rfl (hq3.2.2).1.1 (hq3.2.2).1.2 ffg_X9_ofDesk_115 ?_
            exact r_retI hC hR ⟨rfl, rfl⟩ dX9_ofDesk_75 hw
          · rw [if_neg h3] at hw
            by_cases h4 : x2 = 4
            · rw [if_pos h4] at hw
              refine r_tabIn hC (tgt := 76) dX9_ofDesk_18 h4 4 (by decide) (by decide) (by decide) rfl (by decide) ?_
              refine r_aload_n hC dX9_ofDesk_76 rfl rfl (j := 0) rfl ?_
              refine r_callI hC (rmc := rm_X3_nextToGo) (a_K hq3.2.2 (fun h => a_U hC (k := 0) (rmc := rm_X3_nextToGo) (c_X3_nextToGo hq3.2.2 hw) ci_X3_nextToGo gX9_ofDesk_X3_nextToGo_u118X0 rfl ⟨Nat.le_of_ble_eq_true rfl, Nat.le_of_ble_eq_true rfl⟩ ⟨Nat.le_of_ble_eq_true rfl, Nat.le_of_ble_eq_true rfl⟩ rfl (by decide) (hq3.2.2).1.1 h rfl rfl (Nat.le_of_ble_eq_true rfl) dX9_ofDesk_77) (fun h => a_V hC (k := 3) (c_X3_nextToGo hq3.2.2 hw) ci_X3_nextToGo gX9_ofDesk_X3_nextToGo rfl ⟨Nat.le_of_ble_eq_true rfl, Nat.le_of_ble_eq_true rfl⟩ ⟨Nat.le_of_ble_eq_true rfl, Nat.le_of_ble_eq_true rfl⟩ rfl (by decide) (hq3.2.2).1.1 h rfl rfl (Nat.le_of_ble_eq_true rfl) dX9_ofDesk_77) (fun h => a_U hC (k := 5) (rmc := rm_X3_nextToGo) (c_X3_nextToGo hq3.2.2 hw) ci_X3_nextToGo gX9_ofDesk_X3_nextToGo_u118X5 rfl ⟨Nat.le_of_ble_eq_true rfl, Nat.le_of_ble_eq_true rfl⟩ ⟨Nat.le_of_ble_eq_true rfl, Nat.le_of_ble_eq_true rfl⟩ rfl (by decide) (hq3.2.2).1.1 h rfl rfl (Nat.le_of_ble_eq_true rfl) dX9_ofDesk_77)) ⟨rfl, rfl⟩ rfl (fun r8 J9 hw => ?_)
              exact r_retI hC hR ⟨rfl, rfl⟩ dX9_ofDesk_80 hw
            · rw [if_neg h4] at hw
              by_cases h5 : x2 = 5
              · rw [if_pos h5] at hw
                refine r_tabIn hC (tgt := 81) dX9_ofDesk_18 h5 5 (by decide) (by decide) (by decide) rfl (by decide) ?_
                refine r_aload_n hC dX9_ofDesk_81 rfl rfl (j := 0) rfl ?_
                refine r_getI hC dX9_ofDesk_82 rfl (hq3.2.2).1.1 (hq3.2.2).1.2 ffg_X9_ofDesk_121 ?_
                exact r_retI hC hR ⟨rfl, rfl⟩ dX9_ofDesk_85 hw
              · rw [if_neg h5] at hw
                have e0 := lv_neT h0 (show (0 : Int32).toInt = 0 by decide)
                have e1 := lv_neT h1 (show (1 : Int32).toInt = 1 by decide)
                have e2 := lv_neT h2 (show (2 : Int32).toInt = 2 by decide)
                have e3 := lv_neT h3 (show (3 : Int32).toInt = 3 by decide)
                have e4 := lv_neT h4 (show (4 : Int32).toInt = 4 by decide)
                have e5 := lv_neT h5 (show (5 : Int32).toInt = 5 by decide)
                refine r_tabOut hC (tgt := 86) dX9_ofDesk_18 (by omega) (by decide) ?_
                refine r_bipush hC (v := (-2 : Int32)) dX9_ofDesk_86 rfl (by decide) ?_
                exact r_retI hC hR ⟨rfl, rfl⟩ dX9_ofDesk_88 hw
  · refine r_iconst hC (v := (-1 : Int32)) dX9_ofDesk_8 rfl (by decide) ?_
    exact r_retI hC hR ⟨rfl, rfl⟩ dX9_ofDesk_9 hw
set_option maxRecDepth 100000 in
theorem c_X9_ofDesk {l : Launch} {x : Gx} {g : Gm} {nd : Nat} {x1 : Int32} {x2 : Int32} {I : Mm} {Post : Int32 → Mm → Prop} (hG : shP g nd) (hw : wp_X9_ofDesk (gK g) nd x1 x2 I Post) : KI l x yX9_ofDesk wsX9_ofDesk rm_X9_ofDesk g I [.ref (gA g 0), .int x1, .int x2] (fun r u => u.1 = g ∧ Post r u.2) := KI_of (by decide) rfl rfl (Nat.le_of_ble_eq_true rfl) (fun f hC _ _ hR => t_X9_ofDesk_0 hC hG hR hw)

/-! X9_lies -/
abbrev rm_X9_lies : Room := { frames := 2, cells := 0, slots := 0, locals := 43 }
theorem ci_X9_lies : CI yX9_lies wsX9_lies cX9_lies 3 (some .int) 2 := ⟨⟨_, rfl⟩, by decide, by decide, by decide +kernel⟩
def wp_X9_lies (ki : Nat → Nat) (nd : Nat) (x1 : Int32) (x2 : Int32) (I : Mm) (Post : Int32 → Mm → Prop) : Prop := wp_X9_isDesk ki nd x1 I (fun r1 J2 => if r1 = 0 then (Post (-1 : Int32) J2) else (wp_X9_isWithin x2 (0 : Int32) (4 : Int32) J2 (fun r3 J4 => if r3 = 0 then (Post (-2 : Int32) J4) else (vp_in x1 nd ∧ (if (J4 (40 + x1.toNatClampNeg) 2) ≤ x2 then (Post (-9 : Int32) J4) else (vp_in x1 nd ∧ (vp_in x2 8 ∧ (Post (J4 ((40 + x1.toNatClampNeg) + 20) x2.toNatClampNeg) J4))))))))
set_option maxRecDepth 20000 in
theorem uw_X9_lies_9 : ∀ w ∈ u_ws RX9 TX9 11, w ∈ wsX9_lies := by decide +kernel
set_option maxRecDepth 20000 in
theorem ffg_X9_lies_26 : ∀ k ∈ ([9] : List Nat), FF wsX9_lies RX9 26 k 2 ∧ fR k 2 = true := List.forall_mem_cons.mpr ⟨⟨⟨RX9, TX9, 11, "PageDesks", rfl, rfl, by decide, by decide, uw_X9_lies_9, (List.mem_of_getElem? (i := 1) rfl), Or.inl rfl⟩, rfl⟩, fun _ h => absurd h List.not_mem_nil⟩
set_option maxRecDepth 20000 in
theorem uw_X9_lies_0 : ∀ w ∈ u_ws RX0 TX0 5, w ∈ wsX9_lies := by decide +kernel
set_option maxRecDepth 20000 in
theorem uw_X9_lies_3 : ∀ w ∈ u_ws RX3 TX3 5, w ∈ wsX9_lies := by decide +kernel
set_option maxRecDepth 20000 in
theorem uw_X9_lies_5 : ∀ w ∈ u_ws RX5 TX5 5, w ∈ wsX9_lies := by decide +kernel
set_option maxRecDepth 20000 in
theorem ffg_X9_lies_124 : ∀ k ∈ ([0, 3, 5] : List Nat), FF wsX9_lies RX9 124 k 2 ∧ fR k 2 = false := List.forall_mem_cons.mpr ⟨⟨⟨RX0, TX0, 5, "PageDesks$Queue", rfl, rfl, by decide, by decide, uw_X9_lies_0, (List.mem_of_getElem? (i := 2) rfl), Or.inl rfl⟩, rfl⟩, List.forall_mem_cons.mpr ⟨⟨⟨RX3, TX3, 5, "PageDesks$Queue", rfl, rfl, by decide, by decide, uw_X9_lies_3, (List.mem_of_getElem? (i := 2) rfl), Or.inl rfl⟩, rfl⟩, List.forall_mem_cons.mpr ⟨⟨⟨RX5, TX5, 5, "PageDesks$Queue", rfl, rfl, by decide, by decide, uw_X9_lies_5, (List.mem_of_getElem? (i := 2) rfl), Or.inl rfl⟩, rfl⟩, fun _ h => absurd h List.not_mem_nil⟩⟩⟩
set_option maxRecDepth 20000 in
theorem ffg_X9_lies_127 : ∀ k ∈ ([0, 3, 5] : List Nat), FF wsX9_lies RX9 127 k 0 ∧ fR k 0 = true := List.forall_mem_cons.mpr ⟨⟨⟨RX0, TX0, 5, "PageDesks$Queue", rfl, rfl, by decide, by decide, uw_X9_lies_0, (List.mem_of_getElem? (i := 3) rfl), Or.inl rfl⟩, rfl⟩, List.forall_mem_cons.mpr ⟨⟨⟨RX3, TX3, 5, "PageDesks$Queue", rfl, rfl, by decide, by decide, uw_X9_lies_3, (List.mem_of_getElem? (i := 3) rfl), Or.inl rfl⟩, rfl⟩, List.forall_mem_cons.mpr ⟨⟨⟨RX5, TX5, 5, "PageDesks$Queue", rfl, rfl, by decide, by decide, uw_X9_lies_5, (List.mem_of_getElem? (i := 3) rfl), Or.inl rfl⟩, rfl⟩, fun _ h => absurd h List.not_mem_nil⟩⟩⟩
set_option maxRecDepth 100000 in
set_option maxHeartbeats 4000000 in
theorem t_X9_lies_0 {f : Fx} {g : Gm} {nd : Nat} {Post : Int32 → Mm → Prop} {x1 : Int32} {x2 : Int32} {I : Mm} (hC : Cx f cX9_lies 3 RX9 wsX9_lies rm_X9_lies) (hG : shP g nd) (hR : RtI f cX9_lies (fun r u => u.1 = g ∧ Post r u.2)) (hw : wp_X9_lies (gK g) nd x1 x2 I Post) : PW f 0 0 g I 0 [(0, .ref (gA g 0)), (1, .int x1), (2, .int x2)] [] := by
  unfold wp_X9_lies at hw
  refine r_aload_n hC dX9_lies_0 rfl rfl (j := 0) rfl ?_
  refine r_iload_n hC dX9_lies_1 rfl rfl (j := 1) rfl ?_
  refine r_callI hC (a_V hC (k := 9) (c_X9_isDesk hG hw) ci_X9_isDesk gX9_lies_X9_isDesk rfl ⟨Nat.le_of_ble_eq_true rfl, Nat.le_of_ble_eq_true rfl⟩ ⟨Nat.le_of_ble_eq_true rfl, Nat.le_of_ble_eq_true rfl⟩ rfl (by decide) hG.o.1 (List.mem_singleton.mp hG.o.2) rfl rfl (Nat.le_of_ble_eq_true rfl) dX9_lies_2) ⟨rfl, rfl⟩ rfl (fun r1 J2 hw => ?_)
  refine r_if_ne hC (tgt := 10) dX9_lies_5 rfl (by decide) hw (fun hw => ?_) (fun hw => ?_)
  · refine r_iload_n hC dX9_lies_10 rfl rfl (j := 2) rfl ?_
    refine r_iconst hC (v := (0 : Int32)) dX9_lies_11 rfl (by decide) ?_
    refine r_iconst hC (v := (4 : Int32)) dX9_lies_12 rfl (by decide) ?_
    refine r_callI hC (a_S hC (c_X9_isWithin  hw) ci_X9_isWithin gX9_lies_X9_isWithin ⟨Nat.le_of_ble_eq_true rfl, Nat.le_of_ble_eq_true rfl⟩ ⟨Nat.le_of_ble_eq_true rfl, Nat.le_of_ble_eq_true rfl⟩ rfl rfl (Nat.le_of_ble_eq_true rfl) dX9_lies_13) ⟨rfl, rfl⟩ rfl (fun r3 J4 hw => ?_)
    refine r_if_ne hC (tgt := 22) dX9_lies_16 rfl (by decide) hw (fun hw => ?_) (fun hw => ?_)
    · refine r_iload_n hC dX9_lies_22 rfl rfl (j := 2) rfl ?_
      refine r_aload_n hC dX9_lies_23 rfl rfl (j := 0) rfl ?_
      refine r_getR hC dX9_lies_24 rfl hG.o.1 hG.o.2 ffg_X9_lies_26 hG.r2 ?_
      refine r_iload_n hC dX9_lies_27 rfl rfl (j := 1) rfl ?_
      obtain ⟨hi, hw⟩ := hw
      have hq5 := hG.desk hi
      refine r_aald hC dX9_lies_28 rfl hq5.1.1 hq5.1.2.1 hq5.1.2.2 hq5.2.1 ?_
      refine r_getI hC dX9_lies_29 rfl (hq5.2.2).1.1 (hq5.2.2).1.2 ffg_X9_lies_124 ?_
      refine r_icmp_ge hC (tgt := 49) dX9_lies_32 rfl (by decide) hw (fun hw => ?_) (fun hw => ?_)
      · refine r_bipush hC (v := (-9 : Int32)) dX9_lies_49 rfl (by decide) ?_
        exact r_retI hC hR ⟨rfl, rfl⟩ dX9_lies_51 hw
      · refine r_aload_n hC dX9_lies_35 rfl rfl (j := 0) rfl ?_
        refine r_getR hC dX9_lies_36 rfl hG.o.1 hG.o.2 ffg_X9_lies_26 hG.r2 ?_
        refine r_iload_n hC dX9_lies_39 rfl rfl (j := 1) rfl ?_
        obtain ⟨hi, hw⟩ := hw
        have hq6 := hG.desk hi
        refine r_aald hC dX9_lies_40 rfl hq6.1.1 hq6.1.2.1 hq6.1.2.2 hq6.2.1 ?_
        refine r_getR hC dX9_lies_41 rfl (hq6.2.2).1.1 (hq6.2.2).1.2 ffg_X9_lies_127 (hq6.2.2).2.2 ?_
        refine r_iload_n hC dX9_lies_44 rfl rfl (j := 2) rfl ?_
        obtain ⟨hi, hw⟩ := hw
        refine r_iald hC dX9_lies_45 rfl ((hq6.2.2).2.1).1 ((hq6.2.2).2.1).2.1 (by rw [((hq6.2.2).2.1).2.2]; exact hi) ?_
        refine r_goto hC (tgt := 51) dX9_lies_46 (by decide) ?_
        exact r_retI hC hR ⟨rfl, rfl⟩ dX9_lies_51 hw
    · refine r_bipush hC (v := (-2 : Int32)) dX9_lies_19 rfl (by decide) ?_
      exact r_retI hC hR ⟨rfl, rfl⟩ dX9_lies_21 hw
  · refine r_iconst hC (v := (-1 : Int32)) dX9_lies_8 rfl (by decide) ?_
    exact r_retI hC hR ⟨rfl, rfl⟩ dX9_lies_9 hw
set_option maxRecDepth 100000 in
theorem c_X9_lies {l : Launch} {x : Gx} {g : Gm} {nd : Nat} {x1 : Int32} {x2 : Int32} {I : Mm} {Post : Int32 → Mm → Prop} (hG : shP g nd) (hw : wp_X9_lies (gK g) nd x1 x2 I Post) : KI l x yX9_lies wsX9_lies rm_X9_lies g I [.ref (gA g 0), .int x1, .int x2] (fun r u => u.1 = g ∧ Post r u.2) := KI_of (by decide) rfl rfl (Nat.le_of_ble_eq_true rfl) (fun f hC _ _ hR => t_X9_lies_0 hC hG hR hw)

/-! X9_line -/
abbrev rm_X9_line : Room := { frames := 2, cells := 0, slots := 0, locals := 43 }
theorem ci_X9_line : CI yX9_line wsX9_line cX9_line 2 (some .int) 1 := ⟨⟨_, rfl⟩, by decide, by decide, by decide +kernel⟩
def wp_X9_line (ki : Nat → Nat) (nd : Nat) (x1 : Int32) (I : Mm) (Post : Int32 → Mm → Prop) : Prop := wp_X2_has x1 I (fun r1 J2 => if r1 = 0 then (Post (-1 : Int32) J2) else (vp_in x1 24 ∧ (Post (J2 9 x1.toNatClampNeg) J2)))
set_option maxRecDepth 20000 in
theorem uw_X9_line_9 : ∀ w ∈ u_ws RX9 TX9 11, w ∈ wsX9_line := by decide +kernel
set_option maxRecDepth 20000 in
theorem ffg_X9_line_36 : ∀ k ∈ ([9] : List Nat), FF wsX9_line RX9 36 k 4 ∧ fR k 4 = true := List.forall_mem_cons.mpr ⟨⟨⟨RX9, TX9, 11, "PageDesks", rfl, rfl, by decide, by decide, uw_X9_line_9, (List.mem_of_getElem? (i := 1) rfl), Or.inl rfl⟩, rfl⟩, fun _ h => absurd h List.not_mem_nil⟩
set_option maxRecDepth 20000 in
theorem uw_X9_line_2 : ∀ w ∈ u_ws RX2 TX2 2, w ∈ wsX9_line := by decide +kernel
set_option maxRecDepth 20000 in
theorem ffg_X9_line_133 : ∀ k ∈ ([2] : List Nat), FF wsX9_line RX9 133 k 0 ∧ fR k 0 = true := List.forall_mem_cons.mpr ⟨⟨⟨RX2, TX2, 2, "PageDesks$Line", rfl, rfl, by decide, by decide, uw_X9_line_2, (List.mem_of_getElem? (i := 2) rfl), Or.inl rfl⟩, rfl⟩, fun _ h => absurd h List.not_mem_nil⟩
set_option maxRecDepth 100000 in
set_option maxHeartbeats 4000000 in
theorem t_X9_line_0 {f : Fx} {g : Gm} {nd : Nat} {Post : Int32 → Mm → Prop} {x1 : Int32} {I : Mm} (hC : Cx f cX9_line 2 RX9 wsX9_line rm_X9_line) (hG : shP g nd) (hR : RtI f cX9_line (fun r u => u.1 = g ∧ Post r u.2)) (hw : wp_X9_line (gK g) nd x1 I Post) : PW f 0 0 g I 0 [(0, .ref (gA g 0)), (1, .int x1)] [] := by
  unfold wp_X9_line at hw
  refine r_aload_n hC dX9_line_0 rfl rfl (j := 0) rfl ?_
  refine r_getR hC dX9_line_1 rfl hG.o.1 hG.o.2 ffg_X9_line_36 hG.r4 ?_
  refine r_iload_n hC dX9_line_4 rfl rfl (j := 1) rfl ?_
  refine r_callI hC (a_V hC (k := 2) (c_X2_has hG.n hw) ci_X2_has gX9_line_X2_has rfl ⟨Nat.le_of_ble_eq_true rfl, Nat.le_of_ble_eq_true rfl⟩ ⟨Nat.le_of_ble_eq_true rfl, Nat.le_of_ble_eq_true rfl⟩ rfl (by decide) (hG.n).1.1 (List.mem_singleton.mp (hG.n).1.2) rfl rfl (Nat.le_of_ble_eq_true rfl) dX9_line_5) ⟨rfl, rfl⟩ rfl (fun r1 J2 hw => ?_)
  refine r_if_eq hC (tgt := 23) dX9_line_8 rfl (by decide) hw (fun hw => ?_) (fun hw => ?_)
  · refine r_iconst hC (v := (-1 : Int32)) dX9_line_23 rfl (by decide) ?_
    exact r_retI hC hR ⟨rfl, rfl⟩ dX9_line_24 hw
  · refine r_aload_n hC dX9_line_11 rfl rfl (j := 0) rfl ?_
    refine r_getR hC dX9_line_12 rfl hG.o.1 hG.o.2 ffg_X9_line_36 hG.r4 ?_
    refine r_getR hC dX9_line_15 rfl (hG.n).1.1 (hG.n).1.2 ffg_X9_line_133 (hG.n).2.2 ?_
    refine r_iload_n hC dX9_line_18 rfl rfl (j := 1) rfl ?_
    obtain ⟨hi, hw⟩ := hw
    refine r_iald hC dX9_line_19 rfl ((hG.n).2.1).1 ((hG.n).2.1).2.1 (by rw [((hG.n).2.1).2.2]; exact hi) ?_
    refine r_goto hC (tgt := 24) dX9_line_20 (by decide) ?_
    exact r_retI hC hR ⟨rfl, rfl⟩ dX9_line_24 hw
set_option maxRecDepth 100000 in
theorem c_X9_line {l : Launch} {x : Gx} {g : Gm} {nd : Nat} {x1 : Int32} {I : Mm} {Post : Int32 → Mm → Prop} (hG : shP g nd) (hw : wp_X9_line (gK g) nd x1 I Post) : KI l x yX9_line wsX9_line rm_X9_line g I [.ref (gA g 0), .int x1] (fun r u => u.1 = g ∧ Post r u.2) := KI_of (by decide) rfl rfl (Nat.le_of_ble_eq_true rfl) (fun f hC _ _ hR => t_X9_line_0 hC hG hR hw)

/-! X9_build -/
abbrev rm_X9_build : Room := { frames := 3, cells := 0, slots := 0, locals := 66 }
theorem ci_X9_build : CI yX9_build wsX9_build cX9_build 6 (some .int) 2 := ⟨⟨_, rfl⟩, by decide, by decide, by decide +kernel⟩
def wp_X9_build_43 (ki : Nat → Nat) (nd : Nat)  (Post : Int32 → Mm → Prop) : Nat → Nat → Int32 → Int32 → Mm → Prop
  | 0, _, _, _, _ => False
  | nn43 + 1, c3, x4, x5, I => if (I 0 9) ≤ x5 then (Post x4 I) else (vp_in x5 24 ∧ (wp_X3_serve ki c3 (I 9 x5.toNatClampNeg) I (fun r8 J9 => wp_X9_build_43 ki nd Post nn43 c3 x4 (x5 + 1) J9)))
def wp_X9_build (ki : Nat → Nat) (nd : Nat) (x1 : Int32) (x2 : Int32) (I : Mm) (Post : Int32 → Mm → Prop) : Prop := wp_X9_isDesk ki nd x1 I (fun r1 J2 => if r1 = 0 then (Post (-1 : Int32) J2) else (wp_X9_isWithin x2 (1 : Int32) (5 : Int32) J2 (fun r3 J4 => if r3 = 0 then (Post (-2 : Int32) J4) else (vp_in x1 nd ∧ (wp_X3_clear ki (40 + x1.toNatClampNeg) x2 J4 (fun J7 => ∃ nn43, wp_X9_build_43 ki nd Post nn43 (40 + x1.toNatClampNeg) (J4 (40 + x1.toNatClampNeg) 1) (0 : Int32) J7))))))
set_option maxRecDepth 20000 in
theorem uw_X9_build_9 : ∀ w ∈ u_ws RX9 TX9 11, w ∈ wsX9_build := by decide +kernel
set_option maxRecDepth 20000 in
theorem ffg_X9_build_26 : ∀ k ∈ ([9] : List Nat), FF wsX9_build RX9 26 k 2 ∧ fR k 2 = true := List.forall_mem_cons.mpr ⟨⟨⟨RX9, TX9, 11, "PageDesks", rfl, rfl, by decide, by decide, uw_X9_build_9, (List.mem_of_getElem? (i := 1) rfl), Or.inl rfl⟩, rfl⟩, fun _ h => absurd h List.not_mem_nil⟩
set_option maxRecDepth 20000 in
theorem uw_X9_build_0 : ∀ w ∈ u_ws RX0 TX0 5, w ∈ wsX9_build := by decide +kernel
set_option maxRecDepth 20000 in
theorem uw_X9_build_3 : ∀ w ∈ u_ws RX3 TX3 5, w ∈ wsX9_build := by decide +kernel
set_option maxRecDepth 20000 in
theorem uw_X9_build_5 : ∀ w ∈ u_ws RX5 TX5 5, w ∈ wsX9_build := by decide +kernel
set_option maxRecDepth 20000 in
theorem ffg_X9_build_109 : ∀ k ∈ ([0, 3, 5] : List Nat), FF wsX9_build RX9 109 k 1 ∧ fR k 1 = false := List.forall_mem_cons.mpr ⟨⟨⟨RX0, TX0, 5, "PageDesks$Queue", rfl, rfl, by decide, by decide, uw_X9_build_0, (List.mem_of_getElem? (i := 2) rfl), Or.inl rfl⟩, rfl⟩, List.forall_mem_cons.mpr ⟨⟨⟨RX3, TX3, 5, "PageDesks$Queue", rfl, rfl, by decide, by decide, uw_X9_build_3, (List.mem_of_getElem? (i := 2) rfl), Or.inl rfl⟩, rfl⟩, List.forall_mem_cons.mpr ⟨⟨⟨RX5, TX5, 5, "PageDesks$Queue", rfl, rfl, by decide, by decide, uw_X9_build_5, (List.mem_of_getElem? (i := 2) rfl), Or.inl rfl⟩, rfl⟩, fun _ h => absurd h List.not_mem_nil⟩⟩⟩
set_option maxRecDepth 20000 in
theorem ffg_X9_build_139 : ∀ k ∈ ([9] : List Nat), FF wsX9_build RX9 139 k 9 ∧ fR k 9 = false := List.forall_mem_cons.mpr ⟨⟨⟨RX9, TX9, 11, "PageDesks", rfl, rfl, by decide, by decide, uw_X9_build_9, (List.mem_of_getElem? (i := 3) rfl), Or.inl rfl⟩, rfl⟩, fun _ h => absurd h List.not_mem_nil⟩
set_option maxRecDepth 20000 in
theorem ffg_X9_build_36 : ∀ k ∈ ([9] : List Nat), FF wsX9_build RX9 36 k 4 ∧ fR k 4 = true := List.forall_mem_cons.mpr ⟨⟨⟨RX9, TX9, 11, "PageDesks", rfl, rfl, by decide, by decide, uw_X9_build_9, (List.mem_of_getElem? (i := 4) rfl), Or.inl rfl⟩, rfl⟩, fun _ h => absurd h List.not_mem_nil⟩
set_option maxRecDepth 20000 in
theorem uw_X9_build_2 : ∀ w ∈ u_ws RX2 TX2 2, w ∈ wsX9_build := by decide +kernel
set_option maxRecDepth 20000 in
theorem ffg_X9_build_133 : ∀ k ∈ ([2] : List Nat), FF wsX9_build RX9 133 k 0 ∧ fR k 0 = true := List.forall_mem_cons.mpr ⟨⟨⟨RX2, TX2, 2, "PageDesks$Line", rfl, rfl, by decide, by decide, uw_X9_build_2, (List.mem_of_getElem? (i := 5) rfl), Or.inl rfl⟩, rfl⟩, fun _ h => absurd h List.not_mem_nil⟩
set_option maxRecDepth 100000 in
set_option maxHeartbeats 4000000 in
theorem t_X9_build_43 {f : Fx} {g : Gm} {nd : Nat} {Post : Int32 → Mm → Prop}  (hC : Cx f cX9_build 6 RX9 wsX9_build rm_X9_build) (hG : shP g nd) (hR : RtI f cX9_build (fun r u => u.1 = g ∧ Post r u.2))  : ∀ (nn43 : Nat) (c3 : Nat) (x4 : Int32) (x5 : Int32) (I : Mm) (hc3 : shD g [0, 3, 5] c3), wp_X9_build_43 (gK g) nd  Post nn43 c3 x4 x5 I → PW f 0 0 g I 43 [(0, .ref (gA g 0)), (3, .ref (gA g c3)), (4, .int x4), (5, .int x5)] [] := by
  intro nn43
  induction nn43 with
  | zero =>
    intro c3 x4 x5 I hc3 hw
    exact absurd hw id
  | succ nn43 ih =>
    intro c3 x4 x5 I hc3 hw
    unfold wp_X9_build_43 at hw
    refine r_iload hC dX9_build_43 rfl (j := 3) rfl ?_
    refine r_aload_n hC dX9_build_45 rfl rfl (j := 0) rfl ?_
    refine r_getI hC dX9_build_46 rfl hG.o.1 hG.o.2 ffg_X9_build_139 ?_
    refine r_icmp_ge hC (tgt := 73) dX9_build_49 rfl (by decide) hw (fun hw => ?_) (fun hw => ?_)
    · refine r_iload hC dX9_build_73 rfl (j := 2) rfl ?_
      exact r_retI hC hR ⟨rfl, rfl⟩ dX9_build_75 hw
    · refine r_aload_n hC dX9_build_52 rfl rfl (j := 1) rfl ?_
      refine r_aload_n hC dX9_build_53 rfl rfl (j := 0) rfl ?_
      refine r_getR hC dX9_build_54 rfl hG.o.1 hG.o.2 ffg_X9_build_36 hG.r4 ?_
      refine r_getR hC dX9_build_57 rfl (hG.n).1.1 (hG.n).1.2 ffg_X9_build_133 (hG.n).2.2 ?_
      refine r_iload hC dX9_build_60 rfl (j := 3) rfl ?_
      obtain ⟨hi, hw⟩ := hw
      refine r_iald hC dX9_build_62 rfl ((hG.n).2.1).1 ((hG.n).2.1).2.1 (by rw [((hG.n).2.1).2.2]; exact hi) ?_
      refine r_callI hC (rmc := rm_X3_serve) (a_K hc3 (fun h => a_U hC (k := 0) (rmc := rm_X3_serve) (c_X3_serve hc3 hw) ci_X3_serve gX9_build_X3_serve_u142X0 rfl ⟨Nat.le_of_ble_eq_true rfl, Nat.le_of_ble_eq_true rfl⟩ ⟨Nat.le_of_ble_eq_true rfl, Nat.le_of_ble_eq_true rfl⟩ rfl (by decide) (hc3).1.1 h rfl rfl (Nat.le_of_ble_eq_true rfl) dX9_build_63) (fun h => a_V hC (k := 3) (c_X3_serve hc3 hw) ci_X3_serve gX9_build_X3_serve rfl ⟨Nat.le_of_ble_eq_true rfl, Nat.le_of_ble_eq_true rfl⟩ ⟨Nat.le_of_ble_eq_true rfl, Nat.le_of_ble_eq_true rfl⟩ rfl (by decide) (hc3).1.1 h rfl rfl (Nat.le_of_ble_eq_true rfl) dX9_build_63) (fun h => a_U hC (k := 5) (rmc := rm_X3_serve) (c_X3_serve hc3 hw) ci_X3_serve gX9_build_X3_serve_u142X5 rfl ⟨Nat.le_of_ble_eq_true rfl, Nat.le_of_ble_eq_true rfl⟩ ⟨Nat.le_of_ble_eq_true rfl, Nat.le_of_ble_eq_true rfl⟩ rfl (by decide) (hc3).1.1 h rfl rfl (Nat.le_of_ble_eq_true rfl) dX9_build_63)) ⟨rfl, rfl⟩ rfl (fun r8 J9 hw => ?_)
      refine r_pop hC dX9_build_66 rfl rfl ?_
      refine r_iinc hC (k := 1) (lv' := [(5, .int (x5 + 1)), (0, .ref (gA g 0)), (3, .ref (gA g c3)), (4, .int x4)]) dX9_build_67 rfl (j := 3) rfl (by decide) (by decide) rfl ?_
      refine r_goto hC (tgt := 43) dX9_build_70 (by decide) ?_
      exact r_sub (lv' := [(0, .ref (gA g 0)), (3, .ref (gA g c3)), (4, .int x4), (5, .int (x5 + 1))]) [1, 2, 3, 0] rfl (ih _ _ _ _ hc3 hw)
set_option maxRecDepth 100000 in
set_option maxHeartbeats 4000000 in
theorem t_X9_build_0 {f : Fx} {g : Gm} {nd : Nat} {Post : Int32 → Mm → Prop} {x1 : Int32} {x2 : Int32} {I : Mm} (hC : Cx f cX9_build 6 RX9 wsX9_build rm_X9_build) (hG : shP g nd) (hR : RtI f cX9_build (fun r u => u.1 = g ∧ Post r u.2)) (hw : wp_X9_build (gK g) nd x1 x2 I Post) : PW f 0 0 g I 0 [(0, .ref (gA g 0)), (1, .int x1), (2, .int x2)] [] := by
  unfold wp_X9_build at hw
  refine r_aload_n hC dX9_build_0 rfl rfl (j := 0) rfl ?_
  refine r_iload_n hC dX9_build_1 rfl rfl (j := 1) rfl ?_
  refine r_callI hC (a_V hC (k := 9) (c_X9_isDesk hG hw) ci_X9_isDesk gX9_build_X9_isDesk rfl ⟨Nat.le_of_ble_eq_true rfl, Nat.le_of_ble_eq_true rfl⟩ ⟨Nat.le_of_ble_eq_true rfl, Nat.le_of_ble_eq_true rfl⟩ rfl (by decide) hG.o.1 (List.mem_singleton.mp hG.o.2) rfl rfl (Nat.le_of_ble_eq_true rfl) dX9_build_2) ⟨rfl, rfl⟩ rfl (fun r1 J2 hw => ?_)
  refine r_if_ne hC (tgt := 10) dX9_build_5 rfl (by decide) hw (fun hw => ?_) (fun hw => ?_)
  · refine r_iload_n hC dX9_build_10 rfl rfl (j := 2) rfl ?_
    refine r_iconst hC (v := (1 : Int32)) dX9_build_11 rfl (by decide) ?_
    refine r_iconst hC (v := (5 : Int32)) dX9_build_12 rfl (by decide) ?_
    refine r_callI hC (a_S hC (c_X9_isWithin  hw) ci_X9_isWithin gX9_build_X9_isWithin ⟨Nat.le_of_ble_eq_true rfl, Nat.le_of_ble_eq_true rfl⟩ ⟨Nat.le_of_ble_eq_true rfl, Nat.le_of_ble_eq_true rfl⟩ rfl rfl (Nat.le_of_ble_eq_true rfl) dX9_build_13) ⟨rfl, rfl⟩ rfl (fun r3 J4 hw => ?_)
    refine r_if_ne hC (tgt := 22) dX9_build_16 rfl (by decide) hw (fun hw => ?_) (fun hw => ?_)
    · refine r_aload_n hC dX9_build_22 rfl rfl (j := 0) rfl ?_
      refine r_getR hC dX9_build_23 rfl hG.o.1 hG.o.2 ffg_X9_build_26 hG.r2 ?_
      refine r_iload_n hC dX9_build_26 rfl rfl (j := 1) rfl ?_
      obtain ⟨hi, hw⟩ := hw
      have hq5 := hG.desk hi
      refine r_aald hC dX9_build_27 rfl hq5.1.1 hq5.1.2.1 hq5.1.2.2 hq5.2.1 ?_
      refine r_astore_n hC (lv' := [(3, .ref (gA g (40 + x1.toNatClampNeg))), (0, .ref (gA g 0)), (1, .int x1), (2, .int x2)]) dX9_build_28 rfl rfl (by decide) rfl ?_
      refine r_aload_n hC dX9_build_29 rfl rfl (j := 0) rfl ?_
      refine r_getI hC dX9_build_30 rfl (hq5.2.2).1.1 (hq5.2.2).1.2 ffg_X9_build_109 ?_
      refine r_istore hC (lv' := [(4, .int (J4 (40 + x1.toNatClampNeg) 1)), (3, .ref (gA g (40 + x1.toNatClampNeg))), (0, .ref (gA g 0)), (1, .int x1), (2, .int x2)]) dX9_build_33 rfl (by decide) rfl ?_
      refine r_aload_n hC dX9_build_35 rfl rfl (j := 1) rfl ?_
      refine r_iload_n hC dX9_build_36 rfl rfl (j := 4) rfl ?_
      refine r_callV hC (rmc := rm_X3_clear) (a_K hq5.2.2 (fun h => a_U hC (k := 0) (rmc := rm_X3_clear) (c_X3_clear hq5.2.2 hw) ci_X3_clear gX9_build_X3_clear_u135X0 rfl ⟨Nat.le_of_ble_eq_true rfl, Nat.le_of_ble_eq_true rfl⟩ ⟨Nat.le_of_ble_eq_true rfl, Nat.le_of_ble_eq_true rfl⟩ rfl (by decide) (hq5.2.2).1.1 h rfl rfl (Nat.le_of_ble_eq_true rfl) dX9_build_37) (fun h => a_V hC (k := 3) (c_X3_clear hq5.2.2 hw) ci_X3_clear gX9_build_X3_clear rfl ⟨Nat.le_of_ble_eq_true rfl, Nat.le_of_ble_eq_true rfl⟩ ⟨Nat.le_of_ble_eq_true rfl, Nat.le_of_ble_eq_true rfl⟩ rfl (by decide) (hq5.2.2).1.1 h rfl rfl (Nat.le_of_ble_eq_true rfl) dX9_build_37) (fun h => a_U hC (k := 5) (rmc := rm_X3_clear) (c_X3_clear hq5.2.2 hw) ci_X3_clear gX9_build_X3_clear_u135X5 rfl ⟨Nat.le_of_ble_eq_true rfl, Nat.le_of_ble_eq_true rfl⟩ ⟨Nat.le_of_ble_eq_true rfl, Nat.le_of_ble_eq_true rfl⟩ rfl (by decide) (hq5.2.2).1.1 h rfl rfl (Nat.le_of_ble_eq_true rfl) dX9_build_37)) ⟨rfl, rfl⟩ rfl (fun J7 hw => ?_)
      refine r_iconst hC (v := (0 : Int32)) dX9_build_40 rfl (by decide) ?_
      refine r_istore hC (lv' := [(5, .int (0 : Int32)), (4, .int (J4 (40 + x1.toNatClampNeg) 1)), (3, .ref (gA g (40 + x1.toNatClampNeg))), (0, .ref (gA g 0)), (1, .int x1), (2, .int x2)]) dX9_build_41 rfl (by decide) rfl ?_
      obtain ⟨nn43, hw⟩ := hw
      exact r_sub (lv' := [(0, .ref (gA g 0)), (3, .ref (gA g (40 + x1.toNatClampNeg))), (4, .int (J4 (40 + x1.toNatClampNeg) 1)), (5, .int (0 : Int32))]) [3, 2, 1, 0] rfl ((t_X9_build_43 hC hG hR nn43 _ _ _ _ hq5.2.2 hw))
    · refine r_bipush hC (v := (-2 : Int32)) dX9_build_19 rfl (by decide) ?_
      exact r_retI hC hR ⟨rfl, rfl⟩ dX9_build_21 hw
  · refine r_iconst hC (v := (-1 : Int32)) dX9_build_8 rfl (by decide) ?_
    exact r_retI hC hR ⟨rfl, rfl⟩ dX9_build_9 hw
set_option maxRecDepth 100000 in
theorem c_X9_build {l : Launch} {x : Gx} {g : Gm} {nd : Nat} {x1 : Int32} {x2 : Int32} {I : Mm} {Post : Int32 → Mm → Prop} (hG : shP g nd) (hw : wp_X9_build (gK g) nd x1 x2 I Post) : KI l x yX9_build wsX9_build rm_X9_build g I [.ref (gA g 0), .int x1, .int x2] (fun r u => u.1 = g ∧ Post r u.2) := KI_of (by decide) rfl rfl (Nat.le_of_ble_eq_true rfl) (fun f hC _ _ hR => t_X9_build_0 hC hG hR hw)

/-! X9_hasRoom -/
abbrev rm_X9_hasRoom : Room := { frames := 0, cells := 0, slots := 0, locals := 0 }
theorem ci_X9_hasRoom : CI yX9_hasRoom wsX9_hasRoom cX9_hasRoom 1 (some .boolean) 0 := ⟨⟨_, rfl⟩, by decide, by decide, by decide +kernel⟩
def wp_X9_hasRoom (ki : Nat → Nat) (nd : Nat)  (I : Mm) (Post : Int32 → Mm → Prop) : Prop := if (I 0 8) ≤ 0 then (Post (0 : Int32) I) else (Post (1 : Int32) I)
set_option maxRecDepth 20000 in
theorem uw_X9_hasRoom_9 : ∀ w ∈ u_ws RX9 TX9 11, w ∈ wsX9_hasRoom := by decide +kernel
set_option maxRecDepth 20000 in
theorem ffg_X9_hasRoom_99 : ∀ k ∈ ([9] : List Nat), FF wsX9_hasRoom RX9 99 k 8 ∧ fR k 8 = false := List.forall_mem_cons.mpr ⟨⟨⟨RX9, TX9, 11, "PageDesks", rfl, rfl, by decide, by decide, uw_X9_hasRoom_9, (List.mem_of_getElem? (i := 1) rfl), Or.inl rfl⟩, rfl⟩, fun _ h => absurd h List.not_mem_nil⟩
set_option maxRecDepth 100000 in
set_option maxHeartbeats 4000000 in
theorem t_X9_hasRoom_0 {f : Fx} {g : Gm} {nd : Nat} {Post : Int32 → Mm → Prop}  {I : Mm} (hC : Cx f cX9_hasRoom 1 RX9 wsX9_hasRoom rm_X9_hasRoom) (hG : shP g nd) (hR : RtZ f cX9_hasRoom (fun r u => u.1 = g ∧ Post r u.2)) (hw : wp_X9_hasRoom (gK g) nd  I Post) : PW f 0 0 g I 0 [(0, .ref (gA g 0))] [] := by
  unfold wp_X9_hasRoom at hw
  refine r_aload_n hC dX9_hasRoom_0 rfl rfl (j := 0) rfl ?_
  refine r_getI hC dX9_hasRoom_1 rfl hG.o.1 hG.o.2 ffg_X9_hasRoom_99 ?_
  refine r_if_le hC (tgt := 11) dX9_hasRoom_4 rfl (by decide) hw (fun hw => ?_) (fun hw => ?_)
  · refine r_iconst hC (v := (0 : Int32)) dX9_hasRoom_11 rfl (by decide) ?_
    exact r_retZ hC hR ⟨rfl, rfl⟩ dX9_hasRoom_12 (by decide) hw
  · refine r_iconst hC (v := (1 : Int32)) dX9_hasRoom_7 rfl (by decide) ?_
    refine r_goto hC (tgt := 12) dX9_hasRoom_8 (by decide) ?_
    exact r_retZ hC hR ⟨rfl, rfl⟩ dX9_hasRoom_12 (by decide) hw
set_option maxRecDepth 100000 in
theorem c_X9_hasRoom {l : Launch} {x : Gx} {g : Gm} {nd : Nat}  {I : Mm} {Post : Int32 → Mm → Prop} (hG : shP g nd) (hw : wp_X9_hasRoom (gK g) nd  I Post) : KI l x yX9_hasRoom wsX9_hasRoom rm_X9_hasRoom g I [.ref (gA g 0)] (fun r u => u.1 = g ∧ Post r u.2) := KZ_of (by decide) rfl rfl (Nat.le_of_ble_eq_true rfl) (fun f hC _ _ hR => t_X9_hasRoom_0 hC hG hR hw)

/-! X9_missesOfAll -/
abbrev rm_X9_missesOfAll : Room := { frames := 3, cells := 0, slots := 0, locals := 66 }
theorem ci_X9_missesOfAll : CI yX9_missesOfAll wsX9_missesOfAll cX9_missesOfAll 4 (some .int) 1 := ⟨⟨_, rfl⟩, by decide, by decide, by decide +kernel⟩
def wp_X9_missesOfAll_31 (ki : Nat → Nat) (nd : Nat) (Kb : Int32 → Int32 → Int32 → Mm → Prop) (Post : Int32 → Mm → Prop) (x1 : Int32) (x3 : Int32) (s0 : Int32) (s1 : Int32) (I : Mm) : Prop := Kb x1 (s1 + s0) (x3 + 1) I
def wp_X9_missesOfAll_4 (ki : Nat → Nat) (nd : Nat)  (Post : Int32 → Mm → Prop) : Nat → Int32 → Int32 → Int32 → Mm → Prop
  | 0, _, _, _, _ => False
  | nn4 + 1, x1, x2, x3, I => if (I 0 8) ≤ x3 then (Post x2 I) else (vp_in x3 nd ∧ (wp_X3_serve ki (40 + x3.toNatClampNeg) x1 I (fun r2 J3 => if r2 = 0 then (wp_X9_missesOfAll_31 ki nd (fun x1 x2 x3 I => wp_X9_missesOfAll_4 ki nd Post nn4 x1 x2 x3 I) Post x1 x3 (1 : Int32) x2 J3) else (wp_X9_missesOfAll_31 ki nd (fun x1 x2 x3 I => wp_X9_missesOfAll_4 ki nd Post nn4 x1 x2 x3 I) Post x1 x3 (0 : Int32) x2 J3))))
def wp_X9_missesOfAll (ki : Nat → Nat) (nd : Nat) (x1 : Int32) (I : Mm) (Post : Int32 → Mm → Prop) : Prop := ∃ nn4, wp_X9_missesOfAll_4 ki nd Post nn4 x1 (0 : Int32) (0 : Int32) I
set_option maxRecDepth 20000 in
theorem uw_X9_missesOfAll_9 : ∀ w ∈ u_ws RX9 TX9 11, w ∈ wsX9_missesOfAll := by decide +kernel
set_option maxRecDepth 20000 in
theorem ffg_X9_missesOfAll_99 : ∀ k ∈ ([9] : List Nat), FF wsX9_missesOfAll RX9 99 k 8 ∧ fR k 8 = false := List.forall_mem_cons.mpr ⟨⟨⟨RX9, TX9, 11, "PageDesks", rfl, rfl, by decide, by decide, uw_X9_missesOfAll_9, (List.mem_of_getElem? (i := 1) rfl), Or.inl rfl⟩, rfl⟩, fun _ h => absurd h List.not_mem_nil⟩
set_option maxRecDepth 20000 in
theorem ffg_X9_missesOfAll_26 : ∀ k ∈ ([9] : List Nat), FF wsX9_missesOfAll RX9 26 k 2 ∧ fR k 2 = true := List.forall_mem_cons.mpr ⟨⟨⟨RX9, TX9, 11, "PageDesks", rfl, rfl, by decide, by decide, uw_X9_missesOfAll_9, (List.mem_of_getElem? (i := 2) rfl), Or.inl rfl⟩, rfl⟩, fun _ h => absurd h List.not_mem_nil⟩
set_option maxRecDepth 100000 in
set_option maxHeartbeats 4000000 in
theorem t_X9_missesOfAll_31 {f : Fx} {g : Gm} {nd : Nat} {Post : Int32 → Mm → Prop} {Kb : Int32 → Int32 → Int32 → Mm → Prop} (hC : Cx f cX9_missesOfAll 4 RX9 wsX9_missesOfAll rm_X9_missesOfAll) (hG : shP g nd) (hR : RtI f cX9_missesOfAll (fun r u => u.1 = g ∧ Post r u.2)) (hKb : ∀ (x1 : Int32) (x2 : Int32) (x3 : Int32) (I : Mm) , Kb x1 x2 x3 I → PW f 0 0 g I 4 [(0, .ref (gA g 0)), (1, .int x1), (2, .int x2), (3, .int x3)] []) : ∀ (x1 : Int32) (x3 : Int32) (s0 : Int32) (s1 : Int32) (I : Mm) , wp_X9_missesOfAll_31 (gK g) nd Kb Post x1 x3 s0 s1 I → PW f 0 0 g I 31 [(0, .ref (gA g 0)), (1, .int x1), (3, .int x3)] [.int s0, .int s1] := by
  intro x1 x3 s0 s1 I  hw
  unfold wp_X9_missesOfAll_31 at hw
  refine r_iadd hC dX9_missesOfAll_31 rfl ?_
  refine r_istore_n hC (lv' := [(2, .int (s1 + s0)), (0, .ref (gA g 0)), (1, .int x1), (3, .int x3)]) dX9_missesOfAll_32 rfl rfl (by decide) rfl ?_
  refine r_iinc hC (k := 1) (lv' := [(3, .int (x3 + 1)), (2, .int (s1 + s0)), (0, .ref (gA g 0)), (1, .int x1)]) dX9_missesOfAll_33 rfl (j := 3) rfl (by decide) (by decide) rfl ?_
  refine r_goto hC (tgt := 4) dX9_missesOfAll_36 (by decide) ?_
  exact r_sub (lv' := [(0, .ref (gA g 0)), (1, .int x1), (2, .int (s1 + s0)), (3, .int (x3 + 1))]) [2, 3, 1, 0] rfl (hKb _ _ _ _ hw)
set_option maxRecDepth 100000 in
set_option maxHeartbeats 4000000 in
theorem t_X9_missesOfAll_4 {f : Fx} {g : Gm} {nd : Nat} {Post : Int32 → Mm → Prop}  (hC : Cx f cX9_missesOfAll 4 RX9 wsX9_missesOfAll rm_X9_missesOfAll) (hG : shP g nd) (hR : RtI f cX9_missesOfAll (fun r u => u.1 = g ∧ Post r u.2))  : ∀ (nn4 : Nat) (x1 : Int32) (x2 : Int32) (x3 : Int32) (I : Mm) , wp_X9_missesOfAll_4 (gK g) nd  Post nn4 x1 x2 x3 I → PW f 0 0 g I 4 [(0, .ref (gA g 0)), (1, .int x1), (2, .int x2), (3, .int x3)] [] := by
  intro nn4
  induction nn4 with
  | zero =>
    intro x1 x2 x3 I  hw
    exact absurd hw id
  | succ nn4 ih =>
    intro x1 x2 x3 I  hw
    unfold wp_X9_missesOfAll_4 at hw
    refine r_iload_n hC dX9_missesOfAll_4 rfl rfl (j := 3) rfl ?_
    refine r_aload_n hC dX9_missesOfAll_5 rfl rfl (j := 0) rfl ?_
    refine r_getI hC dX9_missesOfAll_6 rfl hG.o.1 hG.o.2 ffg_X9_missesOfAll_99 ?_
    refine r_icmp_ge hC (tgt := 39) dX9_missesOfAll_9 rfl (by decide) hw (fun hw => ?_) (fun hw => ?_)
    · refine r_iload_n hC dX9_missesOfAll_39 rfl rfl (j := 2) rfl ?_
      exact r_retI hC hR ⟨rfl, rfl⟩ dX9_missesOfAll_40 hw
    · refine r_iload_n hC dX9_missesOfAll_12 rfl rfl (j := 2) rfl ?_
      refine r_aload_n hC dX9_missesOfAll_13 rfl rfl (j := 0) rfl ?_
      refine r_getR hC dX9_missesOfAll_14 rfl hG.o.1 hG.o.2 ffg_X9_missesOfAll_26 hG.r2 ?_
      refine r_iload_n hC dX9_missesOfAll_17 rfl rfl (j := 3) rfl ?_
      obtain ⟨hi, hw⟩ := hw
      have hq1 := hG.desk hi
      refine r_aald hC dX9_missesOfAll_18 rfl hq1.1.1 hq1.1.2.1 hq1.1.2.2 hq1.2.1 ?_
      refine r_iload_n hC dX9_missesOfAll_19 rfl rfl (j := 1) rfl ?_
      refine r_callI hC (rmc := rm_X3_serve) (a_K hq1.2.2 (fun h => a_U hC (k := 0) (rmc := rm_X3_serve) (c_X3_serve hq1.2.2 hw) ci_X3_serve gX9_missesOfAll_X3_serve_u142X0 rfl ⟨Nat.le_of_ble_eq_true rfl, Nat.le_of_ble_eq_true rfl⟩ ⟨Nat.le_of_ble_eq_true rfl, Nat.le_of_ble_eq_true rfl⟩ rfl (by decide) (hq1.2.2).1.1 h rfl rfl (Nat.le_of_ble_eq_true rfl) dX9_missesOfAll_20) (fun h => a_V hC (k := 3) (c_X3_serve hq1.2.2 hw) ci_X3_serve gX9_missesOfAll_X3_serve rfl ⟨Nat.le_of_ble_eq_true rfl, Nat.le_of_ble_eq_true rfl⟩ ⟨Nat.le_of_ble_eq_true rfl, Nat.le_of_ble_eq_true rfl⟩ rfl (by decide) (hq1.2.2).1.1 h rfl rfl (Nat.le_of_ble_eq_true rfl) dX9_missesOfAll_20) (fun h => a_U hC (k := 5) (rmc := rm_X3_serve) (c_X3_serve hq1.2.2 hw) ci_X3_serve gX9_missesOfAll_X3_serve_u142X5 rfl ⟨Nat.le_of_ble_eq_true rfl, Nat.le_of_ble_eq_true rfl⟩ ⟨Nat.le_of_ble_eq_true rfl, Nat.le_of_ble_eq_true rfl⟩ rfl (by decide) (hq1.2.2).1.1 h rfl rfl (Nat.le_of_ble_eq_true rfl) dX9_missesOfAll_20)) ⟨rfl, rfl⟩ rfl (fun r2 J3 hw => ?_)
      refine r_if_eq hC (tgt := 30) dX9_missesOfAll_23 rfl (by decide) hw (fun hw => ?_) (fun hw => ?_)
      · refine r_iconst hC (v := (1 : Int32)) dX9_missesOfAll_30 rfl (by decide) ?_
        exact r_sub (lv' := [(0, .ref (gA g 0)), (1, .int x1), (3, .int x3)]) [0, 1, 3] rfl (t_X9_missesOfAll_31 hC hG hR (fun x1 x2 x3 I  hw => ih x1 x2 x3 I  hw) _ _ _ _ _ hw)
      · refine r_iconst hC (v := (0 : Int32)) dX9_missesOfAll_26 rfl (by decide) ?_
        refine r_goto hC (tgt := 31) dX9_missesOfAll_27 (by decide) ?_
        exact r_sub (lv' := [(0, .ref (gA g 0)), (1, .int x1), (3, .int x3)]) [0, 1, 3] rfl (t_X9_missesOfAll_31 hC hG hR (fun x1 x2 x3 I  hw => ih x1 x2 x3 I  hw) _ _ _ _ _ hw)
set_option maxRecDepth 100000 in
set_option maxHeartbeats 4000000 in
theorem t_X9_missesOfAll_0 {f : Fx} {g : Gm} {nd : Nat} {Post : Int32 → Mm → Prop} {x1 : Int32} {I : Mm} (hC : Cx f cX9_missesOfAll 4 RX9 wsX9_missesOfAll rm_X9_missesOfAll) (hG : shP g nd) (hR : RtI f cX9_missesOfAll (fun r u => u.1 = g ∧ Post r u.2)) (hw : wp_X9_missesOfAll (gK g) nd x1 I Post) : PW f 0 0 g I 0 [(0, .ref (gA g 0)), (1, .int x1)] [] := by
  unfold wp_X9_missesOfAll at hw
  refine r_iconst hC (v := (0 : Int32)) dX9_missesOfAll_0 rfl (by decide) ?_
  refine r_istore_n hC (lv' := [(2, .int (0 : Int32)), (0, .ref (gA g 0)), (1, .int x1)]) dX9_missesOfAll_1 rfl rfl (by decide) rfl ?_
  refine r_iconst hC (v := (0 : Int32)) dX9_missesOfAll_2 rfl (by decide) ?_
  refine r_istore_n hC (lv' := [(3, .int (0 : Int32)), (2, .int (0 : Int32)), (0, .ref (gA g 0)), (1, .int x1)]) dX9_missesOfAll_3 rfl rfl (by decide) rfl ?_
  obtain ⟨nn4, hw⟩ := hw
  exact r_sub (lv' := [(0, .ref (gA g 0)), (1, .int x1), (2, .int (0 : Int32)), (3, .int (0 : Int32))]) [2, 3, 1, 0] rfl ((t_X9_missesOfAll_4 hC hG hR nn4 _ _ _ _ hw))
set_option maxRecDepth 100000 in
theorem c_X9_missesOfAll {l : Launch} {x : Gx} {g : Gm} {nd : Nat} {x1 : Int32} {I : Mm} {Post : Int32 → Mm → Prop} (hG : shP g nd) (hw : wp_X9_missesOfAll (gK g) nd x1 I Post) : KI l x yX9_missesOfAll wsX9_missesOfAll rm_X9_missesOfAll g I [.ref (gA g 0), .int x1] (fun r u => u.1 = g ∧ Post r u.2) := KI_of (by decide) rfl rfl (Nat.le_of_ble_eq_true rfl) (fun f hC _ _ hR => t_X9_missesOfAll_0 hC hG hR hw)

/-! X9_come -/
abbrev rm_X9_come : Room := { frames := 4, cells := 0, slots := 0, locals := 89 }
theorem ci_X9_come : CI yX9_come wsX9_come cX9_come 4 (some .int) 1 := ⟨⟨_, rfl⟩, by decide, by decide, by decide +kernel⟩
def wp_X9_come_46 (ki : Nat → Nat) (nd : Nat)  (Post : Int32 → Mm → Prop) : Nat → Int32 → Int32 → Int32 → Mm → Prop
  | 0, _, _, _, _ => False
  | nn46 + 1, x1, x2, x3, I => if ((I 0 9) + x1) ≤ x3 then (Post x2 (up2 I 0 9 ((I 0 9) + x1))) else (vp_in x3 24 ∧ (wp_X9_missesOfAll ki nd (I 9 x3.toNatClampNeg) I (fun r5 J6 => wp_X9_come_46 ki nd Post nn46 x1 (x2 + r5) (x3 + 1) J6)))
def wp_X9_come (ki : Nat → Nat) (nd : Nat) (x1 : Int32) (I : Mm) (Post : Int32 → Mm → Prop) : Prop := wp_X9_isWithin x1 (1 : Int32) (24 : Int32) I (fun r1 J2 => if r1 = 0 then (Post (-2 : Int32) J2) else (wp_X9_hasRoom ki nd J2 (fun r3 J4 => if r3 = 0 then (Post (-3 : Int32) J4) else (if x1 ≤ ((J4 8 1) - (J4 0 9)) then (∃ nn46, wp_X9_come_46 ki nd Post nn46 x1 (0 : Int32) (J4 0 9) J4) else (Post (-3 : Int32) J4)))))
set_option maxRecDepth 20000 in
theorem uw_X9_come_9 : ∀ w ∈ u_ws RX9 TX9 11, w ∈ wsX9_come := by decide +kernel
set_option maxRecDepth 20000 in
theorem ffg_X9_come_36 : ∀ k ∈ ([9] : List Nat), FF wsX9_come RX9 36 k 4 ∧ fR k 4 = true := List.forall_mem_cons.mpr ⟨⟨⟨RX9, TX9, 11, "PageDesks", rfl, rfl, by decide, by decide, uw_X9_come_9, (List.mem_of_getElem? (i := 1) rfl), Or.inl rfl⟩, rfl⟩, fun _ h => absurd h List.not_mem_nil⟩
set_option maxRecDepth 20000 in
theorem uw_X9_come_2 : ∀ w ∈ u_ws RX2 TX2 2, w ∈ wsX9_come := by decide +kernel
set_option maxRecDepth 20000 in
theorem ffg_X9_come_149 : ∀ k ∈ ([2] : List Nat), FF wsX9_come RX9 149 k 1 ∧ fR k 1 = false := List.forall_mem_cons.mpr ⟨⟨⟨RX2, TX2, 2, "PageDesks$Line", rfl, rfl, by decide, by decide, uw_X9_come_2, (List.mem_of_getElem? (i := 2) rfl), Or.inl rfl⟩, rfl⟩, fun _ h => absurd h List.not_mem_nil⟩
set_option maxRecDepth 20000 in
theorem ffg_X9_come_139 : ∀ k ∈ ([9] : List Nat), FF wsX9_come RX9 139 k 9 ∧ fR k 9 = false := List.forall_mem_cons.mpr ⟨⟨⟨RX9, TX9, 11, "PageDesks", rfl, rfl, by decide, by decide, uw_X9_come_9, (List.mem_of_getElem? (i := 3) rfl), Or.inl rfl⟩, rfl⟩, fun _ h => absurd h List.not_mem_nil⟩
set_option maxRecDepth 20000 in
theorem ffp_X9_come_139 : ∀ k ∈ ([9] : List Nat), FF wsX9_come RX9 139 k 9 ∧ fR k 9 = false ∧ FP k 9 := List.forall_mem_cons.mpr ⟨⟨⟨RX9, TX9, 11, "PageDesks", rfl, rfl, by decide, by decide, uw_X9_come_9, (List.mem_of_getElem? (i := 3) rfl), Or.inl rfl⟩, rfl, ⟨RX9, TX9, 11, tyX9, rfl, tyX9_ok, nmX9, rfl, rfl⟩⟩, fun _ h => absurd h List.not_mem_nil⟩
set_option maxRecDepth 20000 in
theorem ffg_X9_come_133 : ∀ k ∈ ([2] : List Nat), FF wsX9_come RX9 133 k 0 ∧ fR k 0 = true := List.forall_mem_cons.mpr ⟨⟨⟨RX2, TX2, 2, "PageDesks$Line", rfl, rfl, by decide, by decide, uw_X9_come_2, (List.mem_of_getElem? (i := 4) rfl), Or.inl rfl⟩, rfl⟩, fun _ h => absurd h List.not_mem_nil⟩
set_option maxRecDepth 100000 in
set_option maxHeartbeats 4000000 in
theorem t_X9_come_46 {f : Fx} {g : Gm} {nd : Nat} {Post : Int32 → Mm → Prop}  (hC : Cx f cX9_come 4 RX9 wsX9_come rm_X9_come) (hG : shP g nd) (hR : RtI f cX9_come (fun r u => u.1 = g ∧ Post r u.2))  : ∀ (nn46 : Nat) (x1 : Int32) (x2 : Int32) (x3 : Int32) (I : Mm) , wp_X9_come_46 (gK g) nd  Post nn46 x1 x2 x3 I → PW f 0 0 g I 46 [(0, .ref (gA g 0)), (1, .int x1), (2, .int x2), (3, .int x3)] [] := by
  intro nn46
  induction nn46 with
  | zero =>
    intro x1 x2 x3 I  hw
    exact absurd hw id
  | succ nn46 ih =>
    intro x1 x2 x3 I  hw
    unfold wp_X9_come_46 at hw
    refine r_iload_n hC dX9_come_46 rfl rfl (j := 3) rfl ?_
    refine r_aload_n hC dX9_come_47 rfl rfl (j := 0) rfl ?_
    refine r_getI hC dX9_come_48 rfl hG.o.1 hG.o.2 ffg_X9_come_139 ?_
    refine r_iload_n hC dX9_come_51 rfl rfl (j := 1) rfl ?_
    refine r_iadd hC dX9_come_52 rfl ?_
    refine r_icmp_ge hC (tgt := 78) dX9_come_53 rfl (by decide) hw (fun hw => ?_) (fun hw => ?_)
    · refine r_aload_n hC dX9_come_78 rfl rfl (j := 0) rfl ?_
      refine r_dup hC dX9_come_79 rfl rfl ?_
      refine r_getI hC dX9_come_80 rfl hG.o.1 hG.o.2 ffg_X9_come_139 ?_
      refine r_iload_n hC dX9_come_83 rfl rfl (j := 1) rfl ?_
      refine r_iadd hC dX9_come_84 rfl ?_
      refine r_putI hC dX9_come_85 rfl hG.o.1 hG.o.2 ffp_X9_come_139 ?_
      refine r_iload_n hC dX9_come_88 rfl rfl (j := 2) rfl ?_
      exact r_retI hC hR ⟨rfl, rfl⟩ dX9_come_89 hw
    · refine r_iload_n hC dX9_come_56 rfl rfl (j := 2) rfl ?_
      refine r_aload_n hC dX9_come_57 rfl rfl (j := 0) rfl ?_
      refine r_aload_n hC dX9_come_58 rfl rfl (j := 0) rfl ?_
      refine r_getR hC dX9_come_59 rfl hG.o.1 hG.o.2 ffg_X9_come_36 hG.r4 ?_
      refine r_getR hC dX9_come_62 rfl (hG.n).1.1 (hG.n).1.2 ffg_X9_come_133 (hG.n).2.2 ?_
      refine r_iload_n hC dX9_come_65 rfl rfl (j := 3) rfl ?_
      obtain ⟨hi, hw⟩ := hw
      refine r_iald hC dX9_come_66 rfl ((hG.n).2.1).1 ((hG.n).2.1).2.1 (by rw [((hG.n).2.1).2.2]; exact hi) ?_
      refine r_callI hC (a_V hC (k := 9) (c_X9_missesOfAll hG hw) ci_X9_missesOfAll gX9_come_X9_missesOfAll rfl ⟨Nat.le_of_ble_eq_true rfl, Nat.le_of_ble_eq_true rfl⟩ ⟨Nat.le_of_ble_eq_true rfl, Nat.le_of_ble_eq_true rfl⟩ rfl (by decide) hG.o.1 (List.mem_singleton.mp hG.o.2) rfl rfl (Nat.le_of_ble_eq_true rfl) dX9_come_67) ⟨rfl, rfl⟩ rfl (fun r5 J6 hw => ?_)
      refine r_iadd hC dX9_come_70 rfl ?_
      refine r_istore_n hC (lv' := [(2, .int (x2 + r5)), (0, .ref (gA g 0)), (1, .int x1), (3, .int x3)]) dX9_come_71 rfl rfl (by decide) rfl ?_
      refine r_iinc hC (k := 1) (lv' := [(3, .int (x3 + 1)), (2, .int (x2 + r5)), (0, .ref (gA g 0)), (1, .int x1)]) dX9_come_72 rfl (j := 3) rfl (by decide) (by decide) rfl ?_
      refine r_goto hC (tgt := 46) dX9_come_75 (by decide) ?_
      exact r_sub (lv' := [(0, .ref (gA g 0)), (1, .int x1), (2, .int (x2 + r5)), (3, .int (x3 + 1))]) [2, 3, 1, 0] rfl (ih _ _ _ _ hw)
set_option maxRecDepth 100000 in
set_option maxHeartbeats 4000000 in
theorem t_X9_come_0 {f : Fx} {g : Gm} {nd : Nat} {Post : Int32 → Mm → Prop} {x1 : Int32} {I : Mm} (hC : Cx f cX9_come 4 RX9 wsX9_come rm_X9_come) (hG : shP g nd) (hR : RtI f cX9_come (fun r u => u.1 = g ∧ Post r u.2)) (hw : wp_X9_come (gK g) nd x1 I Post) : PW f 0 0 g I 0 [(0, .ref (gA g 0)), (1, .int x1)] [] := by
  unfold wp_X9_come at hw
  refine r_iload_n hC dX9_come_0 rfl rfl (j := 1) rfl ?_
  refine r_iconst hC (v := (1 : Int32)) dX9_come_1 rfl (by decide) ?_
  refine r_bipush hC (v := (24 : Int32)) dX9_come_2 rfl (by decide) ?_
  refine r_callI hC (a_S hC (c_X9_isWithin  hw) ci_X9_isWithin gX9_come_X9_isWithin ⟨Nat.le_of_ble_eq_true rfl, Nat.le_of_ble_eq_true rfl⟩ ⟨Nat.le_of_ble_eq_true rfl, Nat.le_of_ble_eq_true rfl⟩ rfl rfl (Nat.le_of_ble_eq_true rfl) dX9_come_4) ⟨rfl, rfl⟩ rfl (fun r1 J2 hw => ?_)
  refine r_if_ne hC (tgt := 13) dX9_come_7 rfl (by decide) hw (fun hw => ?_) (fun hw => ?_)
  · refine r_aload_n hC dX9_come_13 rfl rfl (j := 0) rfl ?_
    refine r_callI hC (a_V hC (k := 9) (c_X9_hasRoom hG hw) ci_X9_hasRoom gX9_come_X9_hasRoom rfl ⟨Nat.le_of_ble_eq_true rfl, Nat.le_of_ble_eq_true rfl⟩ ⟨Nat.le_of_ble_eq_true rfl, Nat.le_of_ble_eq_true rfl⟩ rfl (by decide) hG.o.1 (List.mem_singleton.mp hG.o.2) rfl rfl (Nat.le_of_ble_eq_true rfl) dX9_come_14) ⟨rfl, rfl⟩ rfl (fun r3 J4 hw => ?_)
    refine r_if_eq hC (tgt := 36) dX9_come_17 rfl (by decide) hw (fun hw => ?_) (fun hw => ?_)
    · refine r_bipush hC (v := (-3 : Int32)) dX9_come_36 rfl (by decide) ?_
      exact r_retI hC hR ⟨rfl, rfl⟩ dX9_come_38 hw
    · refine r_iload_n hC dX9_come_20 rfl rfl (j := 1) rfl ?_
      refine r_aload_n hC dX9_come_21 rfl rfl (j := 0) rfl ?_
      refine r_getR hC dX9_come_22 rfl hG.o.1 hG.o.2 ffg_X9_come_36 hG.r4 ?_
      refine r_getI hC dX9_come_25 rfl (hG.n).1.1 (hG.n).1.2 ffg_X9_come_149 ?_
      refine r_aload_n hC dX9_come_28 rfl rfl (j := 0) rfl ?_
      refine r_getI hC dX9_come_29 rfl hG.o.1 hG.o.2 ffg_X9_come_139 ?_
      refine r_isub hC dX9_come_32 rfl ?_
      refine r_icmp_le hC (tgt := 39) dX9_come_33 rfl (by decide) hw (fun hw => ?_) (fun hw => ?_)
      · refine r_iconst hC (v := (0 : Int32)) dX9_come_39 rfl (by decide) ?_
        refine r_istore_n hC (lv' := [(2, .int (0 : Int32)), (0, .ref (gA g 0)), (1, .int x1)]) dX9_come_40 rfl rfl (by decide) rfl ?_
        refine r_aload_n hC dX9_come_41 rfl rfl (j := 1) rfl ?_
        refine r_getI hC dX9_come_42 rfl hG.o.1 hG.o.2 ffg_X9_come_139 ?_
        refine r_istore_n hC (lv' := [(3, .int (J4 0 9)), (2, .int (0 : Int32)), (0, .ref (gA g 0)), (1, .int x1)]) dX9_come_45 rfl rfl (by decide) rfl ?_
        obtain ⟨nn46, hw⟩ := hw
        exact r_sub (lv' := [(0, .ref (gA g 0)), (1, .int x1), (2, .int (0 : Int32)), (3, .int (J4 0 9))]) [2, 3, 1, 0] rfl ((t_X9_come_46 hC hG hR nn46 _ _ _ _ hw))
      · refine r_bipush hC (v := (-3 : Int32)) dX9_come_36 rfl (by decide) ?_
        exact r_retI hC hR ⟨rfl, rfl⟩ dX9_come_38 hw
  · refine r_bipush hC (v := (-2 : Int32)) dX9_come_10 rfl (by decide) ?_
    exact r_retI hC hR ⟨rfl, rfl⟩ dX9_come_12 hw
set_option maxRecDepth 100000 in
theorem c_X9_come {l : Launch} {x : Gx} {g : Gm} {nd : Nat} {x1 : Int32} {I : Mm} {Post : Int32 → Mm → Prop} (hG : shP g nd) (hw : wp_X9_come (gK g) nd x1 I Post) : KI l x yX9_come wsX9_come rm_X9_come g I [.ref (gA g 0), .int x1] (fun r u => u.1 = g ∧ Post r u.2) := KI_of (by decide) rfl rfl (Nat.le_of_ble_eq_true rfl) (fun f hC _ _ hR => t_X9_come_0 hC hG hR hw)

/-! X9_anew -/
abbrev rm_X9_anew : Room := { frames := 1, cells := 0, slots := 0, locals := 21 }
theorem ci_X9_anew : CI yX9_anew wsX9_anew cX9_anew 3 (some .int) 0 := ⟨⟨_, rfl⟩, by decide, by decide, by decide +kernel⟩
def wp_X9_anew_22 (ki : Nat → Nat) (nd : Nat)  (Post : Int32 → Mm → Prop) : Nat → Int32 → Int32 → Mm → Prop
  | 0, _, _, _ => False
  | nn22 + 1, x1, x2, I => if (I 0 8) ≤ x2 then (Post x1 I) else (vp_in x2 nd ∧ (vp_in x2 nd ∧ (wp_X3_clear ki (40 + x2.toNatClampNeg) (I (40 + x2.toNatClampNeg) 1) I (fun J6 => wp_X9_anew_22 ki nd Post nn22 x1 (x2 + 1) J6))))
def wp_X9_anew (ki : Nat → Nat) (nd : Nat)  (I : Mm) (Post : Int32 → Mm → Prop) : Prop := wp_X9_hasRoom ki nd I (fun r1 J2 => if r1 = 0 then (Post (-3 : Int32) J2) else (∃ nn22, wp_X9_anew_22 ki nd Post nn22 (J2 0 9) (0 : Int32) (up2 J2 0 9 (0 : Int32))))
set_option maxRecDepth 20000 in
theorem uw_X9_anew_9 : ∀ w ∈ u_ws RX9 TX9 11, w ∈ wsX9_anew := by decide +kernel
set_option maxRecDepth 20000 in
theorem ffg_X9_anew_139 : ∀ k ∈ ([9] : List Nat), FF wsX9_anew RX9 139 k 9 ∧ fR k 9 = false := List.forall_mem_cons.mpr ⟨⟨⟨RX9, TX9, 11, "PageDesks", rfl, rfl, by decide, by decide, uw_X9_anew_9, (List.mem_of_getElem? (i := 1) rfl), Or.inl rfl⟩, rfl⟩, fun _ h => absurd h List.not_mem_nil⟩
set_option maxRecDepth 20000 in
theorem ffp_X9_anew_139 : ∀ k ∈ ([9] : List Nat), FF wsX9_anew RX9 139 k 9 ∧ fR k 9 = false ∧ FP k 9 := List.forall_mem_cons.mpr ⟨⟨⟨RX9, TX9, 11, "PageDesks", rfl, rfl, by decide, by decide, uw_X9_anew_9, (List.mem_of_getElem? (i := 1) rfl), Or.inl rfl⟩, rfl, ⟨RX9, TX9, 11, tyX9, rfl, tyX9_ok, nmX9, rfl, rfl⟩⟩, fun _ h => absurd h List.not_mem_nil⟩
set_option maxRecDepth 20000 in
theorem ffg_X9_anew_99 : ∀ k ∈ ([9] : List Nat), FF wsX9_anew RX9 99 k 8 ∧ fR k 8 = false := List.forall_mem_cons.mpr ⟨⟨⟨RX9, TX9, 11, "PageDesks", rfl, rfl, by decide, by decide, uw_X9_anew_9, (List.mem_of_getElem? (i := 2) rfl), Or.inl rfl⟩, rfl⟩, fun _ h => absurd h List.not_mem_nil⟩
set_option maxRecDepth 20000 in
theorem ffg_X9_anew_26 : ∀ k ∈ ([9] : List Nat), FF wsX9_anew RX9 26 k 2 ∧ fR k 2 = true := List.forall_mem_cons.mpr ⟨⟨⟨RX9, TX9, 11, "PageDesks", rfl, rfl, by decide, by decide, uw_X9_anew_9, (List.mem_of_getElem? (i := 3) rfl), Or.inl rfl⟩, rfl⟩, fun _ h => absurd h List.not_mem_nil⟩
set_option maxRecDepth 20000 in
theorem uw_X9_anew_0 : ∀ w ∈ u_ws RX0 TX0 5, w ∈ wsX9_anew := by decide +kernel
set_option maxRecDepth 20000 in
theorem uw_X9_anew_3 : ∀ w ∈ u_ws RX3 TX3 5, w ∈ wsX9_anew := by decide +kernel
set_option maxRecDepth 20000 in
theorem uw_X9_anew_5 : ∀ w ∈ u_ws RX5 TX5 5, w ∈ wsX9_anew := by decide +kernel
set_option maxRecDepth 20000 in
theorem ffg_X9_anew_109 : ∀ k ∈ ([0, 3, 5] : List Nat), FF wsX9_anew RX9 109 k 1 ∧ fR k 1 = false := List.forall_mem_cons.mpr ⟨⟨⟨RX0, TX0, 5, "PageDesks$Queue", rfl, rfl, by decide, by decide, uw_X9_anew_0, (List.mem_of_getElem? (i := 4) rfl), Or.inl rfl⟩, rfl⟩, List.forall_mem_cons.mpr ⟨⟨⟨RX3, TX3, 5, "PageDesks$Queue", rfl, rfl, by decide, by decide, uw_X9_anew_3, (List.mem_of_getElem? (i := 4) rfl), Or.inl rfl⟩, rfl⟩, List.forall_mem_cons.mpr ⟨⟨⟨RX5, TX5, 5, "PageDesks$Queue", rfl, rfl, by decide, by decide, uw_X9_anew_5, (List.mem_of_getElem? (i := 4) rfl), Or.inl rfl⟩, rfl⟩, fun _ h => absurd h List.not_mem_nil⟩⟩⟩
set_option maxRecDepth 100000 in
set_option maxHeartbeats 4000000 in
theorem t_X9_anew_22 {f : Fx} {g : Gm} {nd : Nat} {Post : Int32 → Mm → Prop}  (hC : Cx f cX9_anew 3 RX9 wsX9_anew rm_X9_anew) (hG : shP g nd) (hR : RtI f cX9_anew (fun r u => u.1 = g ∧ Post r u.2))  : ∀ (nn22 : Nat) (x1 : Int32) (x2 : Int32) (I : Mm) , wp_X9_anew_22 (gK g) nd  Post nn22 x1 x2 I → PW f 0 0 g I 22 [(0, .ref (gA g 0)), (1, .int x1), (2, .int x2)] [] := by
  intro nn22
  induction nn22 with
  | zero =>
    intro x1 x2 I  hw
    exact absurd hw id
  | succ nn22 ih =>
    intro x1 x2 I  hw
    unfold wp_X9_anew_22 at hw
    refine r_iload_n hC dX9_anew_22 rfl rfl (j := 2) rfl ?_
    refine r_aload_n hC dX9_anew_23 rfl rfl (j := 0) rfl ?_
    refine r_getI hC dX9_anew_24 rfl hG.o.1 hG.o.2 ffg_X9_anew_99 ?_
    refine r_icmp_ge hC (tgt := 54) dX9_anew_27 rfl (by decide) hw (fun hw => ?_) (fun hw => ?_)
    · refine r_iload_n hC dX9_anew_54 rfl rfl (j := 1) rfl ?_
      exact r_retI hC hR ⟨rfl, rfl⟩ dX9_anew_55 hw
    · refine r_aload_n hC dX9_anew_30 rfl rfl (j := 0) rfl ?_
      refine r_getR hC dX9_anew_31 rfl hG.o.1 hG.o.2 ffg_X9_anew_26 hG.r2 ?_
      refine r_iload_n hC dX9_anew_34 rfl rfl (j := 2) rfl ?_
      obtain ⟨hi, hw⟩ := hw
      have hq3 := hG.desk hi
      refine r_aald hC dX9_anew_35 rfl hq3.1.1 hq3.1.2.1 hq3.1.2.2 hq3.2.1 ?_
      refine r_aload_n hC dX9_anew_36 rfl rfl (j := 0) rfl ?_
      refine r_getR hC dX9_anew_37 rfl hG.o.1 hG.o.2 ffg_X9_anew_26 hG.r2 ?_
      refine r_iload_n hC dX9_anew_40 rfl rfl (j := 2) rfl ?_
      obtain ⟨hi, hw⟩ := hw
      have hq4 := hG.desk hi
      refine r_aald hC dX9_anew_41 rfl hq4.1.1 hq4.1.2.1 hq4.1.2.2 hq4.2.1 ?_
      refine r_getI hC dX9_anew_42 rfl (hq4.2.2).1.1 (hq4.2.2).1.2 ffg_X9_anew_109 ?_
      refine r_callV hC (rmc := rm_X3_clear) (a_K hq3.2.2 (fun h => a_U hC (k := 0) (rmc := rm_X3_clear) (c_X3_clear hq3.2.2 hw) ci_X3_clear gX9_anew_X3_clear_u135X0 rfl ⟨Nat.le_of_ble_eq_true rfl, Nat.le_of_ble_eq_true rfl⟩ ⟨Nat.le_of_ble_eq_true rfl, Nat.le_of_ble_eq_true rfl⟩ rfl (by decide) (hq3.2.2).1.1 h rfl rfl (Nat.le_of_ble_eq_true rfl) dX9_anew_45) (fun h => a_V hC (k := 3) (c_X3_clear hq3.2.2 hw) ci_X3_clear gX9_anew_X3_clear rfl ⟨Nat.le_of_ble_eq_true rfl, Nat.le_of_ble_eq_true rfl⟩ ⟨Nat.le_of_ble_eq_true rfl, Nat.le_of_ble_eq_true rfl⟩ rfl (by decide) (hq3.2.2).1.1 h rfl rfl (Nat.le_of_ble_eq_true rfl) dX9_anew_45) (fun h => a_U hC (k := 5) (rmc := rm_X3_clear) (c_X3_clear hq3.2.2 hw) ci_X3_clear gX9_anew_X3_clear_u135X5 rfl ⟨Nat.le_of_ble_eq_true rfl, Nat.le_of_ble_eq_true rfl⟩ ⟨Nat.le_of_ble_eq_true rfl, Nat.le_of_ble_eq_true rfl⟩ rfl (by decide) (hq3.2.2).1.1 h rfl rfl (Nat.le_of_ble_eq_true rfl) dX9_anew_45)) ⟨rfl, rfl⟩ rfl (fun J6 hw => ?_)
      refine r_iinc hC (k := 1) (lv' := [(2, .int (x2 + 1)), (0, .ref (gA g 0)), (1, .int x1)]) dX9_anew_48 rfl (j := 2) rfl (by decide) (by decide) rfl ?_
      refine r_goto hC (tgt := 22) dX9_anew_51 (by decide) ?_
      exact r_sub (lv' := [(0, .ref (gA g 0)), (1, .int x1), (2, .int (x2 + 1))]) [1, 2, 0] rfl (ih _ _ _ hw)
set_option maxRecDepth 100000 in
set_option maxHeartbeats 4000000 in
theorem t_X9_anew_0 {f : Fx} {g : Gm} {nd : Nat} {Post : Int32 → Mm → Prop}  {I : Mm} (hC : Cx f cX9_anew 3 RX9 wsX9_anew rm_X9_anew) (hG : shP g nd) (hR : RtI f cX9_anew (fun r u => u.1 = g ∧ Post r u.2)) (hw : wp_X9_anew (gK g) nd  I Post) : PW f 0 0 g I 0 [(0, .ref (gA g 0))] [] := by
  unfold wp_X9_anew at hw
  refine r_aload_n hC dX9_anew_0 rfl rfl (j := 0) rfl ?_
  refine r_callI hC (a_V hC (k := 9) (c_X9_hasRoom hG hw) ci_X9_hasRoom gX9_anew_X9_hasRoom rfl ⟨Nat.le_of_ble_eq_true rfl, Nat.le_of_ble_eq_true rfl⟩ ⟨Nat.le_of_ble_eq_true rfl, Nat.le_of_ble_eq_true rfl⟩ rfl (by decide) hG.o.1 (List.mem_singleton.mp hG.o.2) rfl rfl (Nat.le_of_ble_eq_true rfl) dX9_anew_1) ⟨rfl, rfl⟩ rfl (fun r1 J2 hw => ?_)
  refine r_if_ne hC (tgt := 10) dX9_anew_4 rfl (by decide) hw (fun hw => ?_) (fun hw => ?_)
  · refine r_aload_n hC dX9_anew_10 rfl rfl (j := 0) rfl ?_
    refine r_getI hC dX9_anew_11 rfl hG.o.1 hG.o.2 ffg_X9_anew_139 ?_
    refine r_istore_n hC (lv' := [(1, .int (J2 0 9)), (0, .ref (gA g 0))]) dX9_anew_14 rfl rfl (by decide) rfl ?_
    refine r_aload_n hC dX9_anew_15 rfl rfl (j := 1) rfl ?_
    refine r_iconst hC (v := (0 : Int32)) dX9_anew_16 rfl (by decide) ?_
    refine r_putI hC dX9_anew_17 rfl hG.o.1 hG.o.2 ffp_X9_anew_139 ?_
    refine r_iconst hC (v := (0 : Int32)) dX9_anew_20 rfl (by decide) ?_
    refine r_istore_n hC (lv' := [(2, .int (0 : Int32)), (1, .int (J2 0 9)), (0, .ref (gA g 0))]) dX9_anew_21 rfl rfl (by decide) rfl ?_
    obtain ⟨nn22, hw⟩ := hw
    exact r_sub (lv' := [(0, .ref (gA g 0)), (1, .int (J2 0 9)), (2, .int (0 : Int32))]) [2, 1, 0] rfl ((t_X9_anew_22 hC hG hR nn22 _ _ _ hw))
  · refine r_bipush hC (v := (-3 : Int32)) dX9_anew_7 rfl (by decide) ?_
    exact r_retI hC hR ⟨rfl, rfl⟩ dX9_anew_9 hw
set_option maxRecDepth 100000 in
theorem c_X9_anew {l : Launch} {x : Gx} {g : Gm} {nd : Nat}  {I : Mm} {Post : Int32 → Mm → Prop} (hG : shP g nd) (hw : wp_X9_anew (gK g) nd  I Post) : KI l x yX9_anew wsX9_anew rm_X9_anew g I [.ref (gA g 0)] (fun r u => u.1 = g ∧ Post r u.2) := KI_of (by decide) rfl rfl (Nat.le_of_ble_eq_true rfl) (fun f hC _ _ hR => t_X9_anew_0 hC hG hR hw)

/-! X9_ask -/
abbrev rm_X9_ask : Room := { frames := 2, cells := 0, slots := 0, locals := 42 }
theorem ci_X9_ask : CI yX9_ask wsX9_ask cX9_ask 2 (some .int) 1 := ⟨⟨_, rfl⟩, by decide, by decide, by decide +kernel⟩
def wp_X9_ask (ki : Nat → Nat) (nd : Nat) (x1 : Int32) (I : Mm) (Post : Int32 → Mm → Prop) : Prop := wp_X9_hasRoom ki nd I (fun r1 J2 => if r1 = 0 then (Post (-3 : Int32) J2) else (wp_X9_isPage x1 J2 (fun r3 J4 => if r3 = 0 then (Post (-2 : Int32) J4) else (if (J4 8 1) < (24 : Int32) then (wp_X2_append x1 J4 (fun J6 => Post (J6 8 1) J6)) else (Post (-4 : Int32) J4)))))
set_option maxRecDepth 20000 in
theorem uw_X9_ask_9 : ∀ w ∈ u_ws RX9 TX9 11, w ∈ wsX9_ask := by decide +kernel
set_option maxRecDepth 20000 in
theorem ffg_X9_ask_36 : ∀ k ∈ ([9] : List Nat), FF wsX9_ask RX9 36 k 4 ∧ fR k 4 = true := List.forall_mem_cons.mpr ⟨⟨⟨RX9, TX9, 11, "PageDesks", rfl, rfl, by decide, by decide, uw_X9_ask_9, (List.mem_of_getElem? (i := 1) rfl), Or.inl rfl⟩, rfl⟩, fun _ h => absurd h List.not_mem_nil⟩
set_option maxRecDepth 20000 in
theorem uw_X9_ask_2 : ∀ w ∈ u_ws RX2 TX2 2, w ∈ wsX9_ask := by decide +kernel
set_option maxRecDepth 20000 in
theorem ffg_X9_ask_149 : ∀ k ∈ ([2] : List Nat), FF wsX9_ask RX9 149 k 1 ∧ fR k 1 = false := List.forall_mem_cons.mpr ⟨⟨⟨RX2, TX2, 2, "PageDesks$Line", rfl, rfl, by decide, by decide, uw_X9_ask_2, (List.mem_of_getElem? (i := 2) rfl), Or.inl rfl⟩, rfl⟩, fun _ h => absurd h List.not_mem_nil⟩
set_option maxRecDepth 100000 in
set_option maxHeartbeats 4000000 in
theorem t_X9_ask_0 {f : Fx} {g : Gm} {nd : Nat} {Post : Int32 → Mm → Prop} {x1 : Int32} {I : Mm} (hC : Cx f cX9_ask 2 RX9 wsX9_ask rm_X9_ask) (hG : shP g nd) (hR : RtI f cX9_ask (fun r u => u.1 = g ∧ Post r u.2)) (hw : wp_X9_ask (gK g) nd x1 I Post) : PW f 0 0 g I 0 [(0, .ref (gA g 0)), (1, .int x1)] [] := by
  unfold wp_X9_ask at hw
  refine r_aload_n hC dX9_ask_0 rfl rfl (j := 0) rfl ?_
  refine r_callI hC (a_V hC (k := 9) (c_X9_hasRoom hG hw) ci_X9_hasRoom gX9_ask_X9_hasRoom rfl ⟨Nat.le_of_ble_eq_true rfl, Nat.le_of_ble_eq_true rfl⟩ ⟨Nat.le_of_ble_eq_true rfl, Nat.le_of_ble_eq_true rfl⟩ rfl (by decide) hG.o.1 (List.mem_singleton.mp hG.o.2) rfl rfl (Nat.le_of_ble_eq_true rfl) dX9_ask_1) ⟨rfl, rfl⟩ rfl (fun r1 J2 hw => ?_)
  refine r_if_ne hC (tgt := 10) dX9_ask_4 rfl (by decide) hw (fun hw => ?_) (fun hw => ?_)
  · refine r_iload_n hC dX9_ask_10 rfl rfl (j := 1) rfl ?_
    refine r_callI hC (a_S hC (c_X9_isPage  hw) ci_X9_isPage gX9_ask_X9_isPage ⟨Nat.le_of_ble_eq_true rfl, Nat.le_of_ble_eq_true rfl⟩ ⟨Nat.le_of_ble_eq_true rfl, Nat.le_of_ble_eq_true rfl⟩ rfl rfl (Nat.le_of_ble_eq_true rfl) dX9_ask_11) ⟨rfl, rfl⟩ rfl (fun r3 J4 hw => ?_)
    refine r_if_ne hC (tgt := 20) dX9_ask_14 rfl (by decide) hw (fun hw => ?_) (fun hw => ?_)
    · refine r_aload_n hC dX9_ask_20 rfl rfl (j := 0) rfl ?_
      refine r_getR hC dX9_ask_21 rfl hG.o.1 hG.o.2 ffg_X9_ask_36 hG.r4 ?_
      refine r_getI hC dX9_ask_24 rfl (hG.n).1.1 (hG.n).1.2 ffg_X9_ask_149 ?_
      refine r_bipush hC (v := (24 : Int32)) dX9_ask_27 rfl (by decide) ?_
      refine r_icmp_lt hC (tgt := 35) dX9_ask_29 rfl (by decide) hw (fun hw => ?_) (fun hw => ?_)
      · refine r_aload_n hC dX9_ask_35 rfl rfl (j := 0) rfl ?_
        refine r_getR hC dX9_ask_36 rfl hG.o.1 hG.o.2 ffg_X9_ask_36 hG.r4 ?_
        refine r_iload_n hC dX9_ask_39 rfl rfl (j := 1) rfl ?_
        refine r_callV hC (a_V hC (k := 2) (c_X2_append hG.n hw) ci_X2_append gX9_ask_X2_append rfl ⟨Nat.le_of_ble_eq_true rfl, Nat.le_of_ble_eq_true rfl⟩ ⟨Nat.le_of_ble_eq_true rfl, Nat.le_of_ble_eq_true rfl⟩ rfl (by decide) (hG.n).1.1 (List.mem_singleton.mp (hG.n).1.2) rfl rfl (Nat.le_of_ble_eq_true rfl) dX9_ask_40) ⟨rfl, rfl⟩ rfl (fun J6 hw => ?_)
        refine r_aload_n hC dX9_ask_43 rfl rfl (j := 0) rfl ?_
        refine r_getR hC dX9_ask_44 rfl hG.o.1 hG.o.2 ffg_X9_ask_36 hG.r4 ?_
        refine r_getI hC dX9_ask_47 rfl (hG.n).1.1 (hG.n).1.2 ffg_X9_ask_149 ?_
        exact r_retI hC hR ⟨rfl, rfl⟩ dX9_ask_50 hw
      · refine r_bipush hC (v := (-4 : Int32)) dX9_ask_32 rfl (by decide) ?_
        exact r_retI hC hR ⟨rfl, rfl⟩ dX9_ask_34 hw
    · refine r_bipush hC (v := (-2 : Int32)) dX9_ask_17 rfl (by decide) ?_
      exact r_retI hC hR ⟨rfl, rfl⟩ dX9_ask_19 hw
  · refine r_bipush hC (v := (-3 : Int32)) dX9_ask_7 rfl (by decide) ?_
    exact r_retI hC hR ⟨rfl, rfl⟩ dX9_ask_9 hw
set_option maxRecDepth 100000 in
theorem c_X9_ask {l : Launch} {x : Gx} {g : Gm} {nd : Nat} {x1 : Int32} {I : Mm} {Post : Int32 → Mm → Prop} (hG : shP g nd) (hw : wp_X9_ask (gK g) nd x1 I Post) : KI l x yX9_ask wsX9_ask rm_X9_ask g I [.ref (gA g 0), .int x1] (fun r u => u.1 = g ∧ Post r u.2) := KI_of (by decide) rfl rfl (Nat.le_of_ble_eq_true rfl) (fun f hC _ _ hR => t_X9_ask_0 hC hG hR hw)

/-! X9_drop -/
abbrev rm_X9_drop : Room := { frames := 1, cells := 0, slots := 0, locals := 20 }
theorem ci_X9_drop : CI yX9_drop wsX9_drop cX9_drop 1 (some .int) 0 := ⟨⟨_, rfl⟩, by decide, by decide, by decide +kernel⟩
def wp_X9_drop (ki : Nat → Nat) (nd : Nat)  (I : Mm) (Post : Int32 → Mm → Prop) : Prop := wp_X9_hasRoom ki nd I (fun r1 J2 => if r1 = 0 then (Post (-3 : Int32) J2) else (if (J2 0 9) = (J2 8 1) then (Post (-3 : Int32) J2) else (if (J2 8 1) = (1 : Int32) then (Post (-3 : Int32) J2) else (vp_in ((up2 (up2 J2 12 3 (0 : Int32)) 8 1 (((up2 J2 12 3 (0 : Int32)) 8 1) - (1 : Int32))) 8 1) 24 ∧ (Post ((up2 (up2 J2 12 3 (0 : Int32)) 8 1 (((up2 J2 12 3 (0 : Int32)) 8 1) - (1 : Int32))) 9 ((up2 (up2 J2 12 3 (0 : Int32)) 8 1 (((up2 J2 12 3 (0 : Int32)) 8 1) - (1 : Int32))) 8 1).toNatClampNeg) (up2 (up2 J2 12 3 (0 : Int32)) 8 1 (((up2 J2 12 3 (0 : Int32)) 8 1) - (1 : Int32))))))))
set_option maxRecDepth 20000 in
theorem uw_X9_drop_9 : ∀ w ∈ u_ws RX9 TX9 11, w ∈ wsX9_drop := by decide +kernel
set_option maxRecDepth 20000 in
theorem ffg_X9_drop_139 : ∀ k ∈ ([9] : List Nat), FF wsX9_drop RX9 139 k 9 ∧ fR k 9 = false := List.forall_mem_cons.mpr ⟨⟨⟨RX9, TX9, 11, "PageDesks", rfl, rfl, by decide, by decide, uw_X9_drop_9, (List.mem_of_getElem? (i := 1) rfl), Or.inl rfl⟩, rfl⟩, fun _ h => absurd h List.not_mem_nil⟩
set_option maxRecDepth 20000 in
theorem ffg_X9_drop_36 : ∀ k ∈ ([9] : List Nat), FF wsX9_drop RX9 36 k 4 ∧ fR k 4 = true := List.forall_mem_cons.mpr ⟨⟨⟨RX9, TX9, 11, "PageDesks", rfl, rfl, by decide, by decide, uw_X9_drop_9, (List.mem_of_getElem? (i := 2) rfl), Or.inl rfl⟩, rfl⟩, fun _ h => absurd h List.not_mem_nil⟩
set_option maxRecDepth 20000 in
theorem uw_X9_drop_2 : ∀ w ∈ u_ws RX2 TX2 2, w ∈ wsX9_drop := by decide +kernel
set_option maxRecDepth 20000 in
theorem ffg_X9_drop_149 : ∀ k ∈ ([2] : List Nat), FF wsX9_drop RX9 149 k 1 ∧ fR k 1 = false := List.forall_mem_cons.mpr ⟨⟨⟨RX2, TX2, 2, "PageDesks$Line", rfl, rfl, by decide, by decide, uw_X9_drop_2, (List.mem_of_getElem? (i := 3) rfl), Or.inl rfl⟩, rfl⟩, fun _ h => absurd h List.not_mem_nil⟩
set_option maxRecDepth 20000 in
theorem ffg_X9_drop_50 : ∀ k ∈ ([9] : List Nat), FF wsX9_drop RX9 50 k 6 ∧ fR k 6 = true := List.forall_mem_cons.mpr ⟨⟨⟨RX9, TX9, 11, "PageDesks", rfl, rfl, by decide, by decide, uw_X9_drop_9, (List.mem_of_getElem? (i := 4) rfl), Or.inl rfl⟩, rfl⟩, fun _ h => absurd h List.not_mem_nil⟩
set_option maxRecDepth 20000 in
theorem uw_X9_drop_4 : ∀ w ∈ u_ws RX4 TX4 4, w ∈ wsX9_drop := by decide +kernel
set_option maxRecDepth 20000 in
theorem ffp_X9_drop_161 : ∀ k ∈ ([4] : List Nat), FF wsX9_drop RX9 161 k 3 ∧ fR k 3 = false ∧ FP k 3 := List.forall_mem_cons.mpr ⟨⟨⟨RX4, TX4, 4, "PageDesks$Readings", rfl, rfl, by decide, by decide, uw_X9_drop_4, (List.mem_of_getElem? (i := 5) rfl), Or.inl rfl⟩, rfl, ⟨RX4, TX4, 4, tyX4, rfl, tyX4_ok, nmX4, rfl, rfl⟩⟩, fun _ h => absurd h List.not_mem_nil⟩
set_option maxRecDepth 20000 in
theorem ffp_X9_drop_149 : ∀ k ∈ ([2] : List Nat), FF wsX9_drop RX9 149 k 1 ∧ fR k 1 = false ∧ FP k 1 := List.forall_mem_cons.mpr ⟨⟨⟨RX2, TX2, 2, "PageDesks$Line", rfl, rfl, by decide, by decide, uw_X9_drop_2, (List.mem_of_getElem? (i := 3) rfl), Or.inl rfl⟩, rfl, ⟨RX2, TX2, 2, tyX2, rfl, tyX2_ok, nmX2, rfl, rfl⟩⟩, fun _ h => absurd h List.not_mem_nil⟩
set_option maxRecDepth 20000 in
theorem ffg_X9_drop_133 : ∀ k ∈ ([2] : List Nat), FF wsX9_drop RX9 133 k 0 ∧ fR k 0 = true := List.forall_mem_cons.mpr ⟨⟨⟨RX2, TX2, 2, "PageDesks$Line", rfl, rfl, by decide, by decide, uw_X9_drop_2, (List.mem_of_getElem? (i := 6) rfl), Or.inl rfl⟩, rfl⟩, fun _ h => absurd h List.not_mem_nil⟩
set_option maxRecDepth 100000 in
set_option maxHeartbeats 4000000 in
theorem t_X9_drop_0 {f : Fx} {g : Gm} {nd : Nat} {Post : Int32 → Mm → Prop}  {I : Mm} (hC : Cx f cX9_drop 1 RX9 wsX9_drop rm_X9_drop) (hG : shP g nd) (hR : RtI f cX9_drop (fun r u => u.1 = g ∧ Post r u.2)) (hw : wp_X9_drop (gK g) nd  I Post) : PW f 0 0 g I 0 [(0, .ref (gA g 0))] [] := by
  unfold wp_X9_drop at hw
  refine r_aload_n hC dX9_drop_0 rfl rfl (j := 0) rfl ?_
  refine r_callI hC (a_V hC (k := 9) (c_X9_hasRoom hG hw) ci_X9_hasRoom gX9_drop_X9_hasRoom rfl ⟨Nat.le_of_ble_eq_true rfl, Nat.le_of_ble_eq_true rfl⟩ ⟨Nat.le_of_ble_eq_true rfl, Nat.le_of_ble_eq_true rfl⟩ rfl (by decide) hG.o.1 (List.mem_singleton.mp hG.o.2) rfl rfl (Nat.le_of_ble_eq_true rfl) dX9_drop_1) ⟨rfl, rfl⟩ rfl (fun r1 J2 hw => ?_)
  refine r_if_eq hC (tgt := 32) dX9_drop_4 rfl (by decide) hw (fun hw => ?_) (fun hw => ?_)
  · refine r_bipush hC (v := (-3 : Int32)) dX9_drop_32 rfl (by decide) ?_
    exact r_retI hC hR ⟨rfl, rfl⟩ dX9_drop_34 hw
  · refine r_aload_n hC dX9_drop_7 rfl rfl (j := 0) rfl ?_
    refine r_getI hC dX9_drop_8 rfl hG.o.1 hG.o.2 ffg_X9_drop_139 ?_
    refine r_aload_n hC dX9_drop_11 rfl rfl (j := 0) rfl ?_
    refine r_getR hC dX9_drop_12 rfl hG.o.1 hG.o.2 ffg_X9_drop_36 hG.r4 ?_
    refine r_getI hC dX9_drop_15 rfl (hG.n).1.1 (hG.n).1.2 ffg_X9_drop_149 ?_
    refine r_icmp_eq hC (tgt := 32) dX9_drop_18 rfl (by decide) hw (fun hw => ?_) (fun hw => ?_)
    · refine r_bipush hC (v := (-3 : Int32)) dX9_drop_32 rfl (by decide) ?_
      exact r_retI hC hR ⟨rfl, rfl⟩ dX9_drop_34 hw
    · refine r_aload_n hC dX9_drop_21 rfl rfl (j := 0) rfl ?_
      refine r_getR hC dX9_drop_22 rfl hG.o.1 hG.o.2 ffg_X9_drop_36 hG.r4 ?_
      refine r_getI hC dX9_drop_25 rfl (hG.n).1.1 (hG.n).1.2 ffg_X9_drop_149 ?_
      refine r_iconst hC (v := (1 : Int32)) dX9_drop_28 rfl (by decide) ?_
      refine r_icmp_ne hC (tgt := 35) dX9_drop_29 rfl (by decide) hw (fun hw => ?_) (fun hw => ?_)
      · refine r_aload_n hC dX9_drop_35 rfl rfl (j := 0) rfl ?_
        refine r_getR hC dX9_drop_36 rfl hG.o.1 hG.o.2 ffg_X9_drop_50 hG.r6 ?_
        refine r_iconst hC (v := (0 : Int32)) dX9_drop_39 rfl (by decide) ?_
        refine r_putI hC dX9_drop_40 rfl (hG.g).1.1 (hG.g).1.2 ffp_X9_drop_161 ?_
        refine r_aload_n hC dX9_drop_43 rfl rfl (j := 0) rfl ?_
        refine r_getR hC dX9_drop_44 rfl hG.o.1 hG.o.2 ffg_X9_drop_36 hG.r4 ?_
        refine r_dup hC dX9_drop_47 rfl rfl ?_
        refine r_getI hC dX9_drop_48 rfl (hG.n).1.1 (hG.n).1.2 ffg_X9_drop_149 ?_
        refine r_iconst hC (v := (1 : Int32)) dX9_drop_51 rfl (by decide) ?_
        refine r_isub hC dX9_drop_52 rfl ?_
        refine r_putI hC dX9_drop_53 rfl (hG.n).1.1 (hG.n).1.2 ffp_X9_drop_149 ?_
        refine r_aload_n hC dX9_drop_56 rfl rfl (j := 0) rfl ?_
        refine r_getR hC dX9_drop_57 rfl hG.o.1 hG.o.2 ffg_X9_drop_36 hG.r4 ?_
        refine r_getR hC dX9_drop_60 rfl (hG.n).1.1 (hG.n).1.2 ffg_X9_drop_133 (hG.n).2.2 ?_
        refine r_aload_n hC dX9_drop_63 rfl rfl (j := 0) rfl ?_
        refine r_getR hC dX9_drop_64 rfl hG.o.1 hG.o.2 ffg_X9_drop_36 hG.r4 ?_
        refine r_getI hC dX9_drop_67 rfl (hG.n).1.1 (hG.n).1.2 ffg_X9_drop_149 ?_
        obtain ⟨hi, hw⟩ := hw
        refine r_iald hC dX9_drop_70 rfl ((hG.n).2.1).1 ((hG.n).2.1).2.1 (by rw [((hG.n).2.1).2.2]; exact hi) ?_
        exact r_retI hC hR ⟨rfl, rfl⟩ dX9_drop_71 hw
      · refine r_bipush hC (v := (-3 : Int32)) dX9_drop_32 rfl (by decide) ?_
        exact r_retI hC hR ⟨rfl, rfl⟩ dX9_drop_34 hw
set_option maxRecDepth 100000 in
theorem c_X9_drop {l : Launch} {x : Gx} {g : Gm} {nd : Nat}  {I : Mm} {Post : Int32 → Mm → Prop} (hG : shP g nd) (hw : wp_X9_drop (gK g) nd  I Post) : KI l x yX9_drop wsX9_drop rm_X9_drop g I [.ref (gA g 0)] (fun r u => u.1 = g ∧ Post r u.2) := KI_of (by decide) rfl rfl (Nat.le_of_ble_eq_true rfl) (fun f hC _ _ hR => t_X9_drop_0 hC hG hR hw)

/-! X9_isSheet -/
abbrev rm_X9_isSheet : Room := { frames := 1, cells := 0, slots := 0, locals := 22 }
theorem ci_X9_isSheet : CI yX9_isSheet wsX9_isSheet cX9_isSheet 1 (some .boolean) 1 := ⟨⟨_, rfl⟩, by decide, by decide, by decide +kernel⟩
def wp_X9_isSheet  (x0 : Int32) (I : Mm) (Post : Int32 → Mm → Prop) : Prop := wp_X9_isWithin x0 (0 : Int32) (3 : Int32) I (fun r1 J2 => (r1 = 0 ∨ r1 = 1) ∧ Post r1 J2)

set_option maxRecDepth 100000 in
set_option maxHeartbeats 4000000 in
theorem t_X9_isSheet_0 {f : Fx} {g : Gm}  {Post : Int32 → Mm → Prop} {x0 : Int32} {I : Mm} (hC : Cx f cX9_isSheet 1 RX9 wsX9_isSheet rm_X9_isSheet)  (hR : RtZ f cX9_isSheet (fun r u => u.1 = g ∧ Post r u.2)) (hw : wp_X9_isSheet  x0 I Post) : PW f 0 0 g I 0 [(0, .int x0)] [] := by
  unfold wp_X9_isSheet at hw
  refine r_iload_n hC dX9_isSheet_0 rfl rfl (j := 0) rfl ?_
  refine r_iconst hC (v := (0 : Int32)) dX9_isSheet_1 rfl (by decide) ?_
  refine r_iconst hC (v := (3 : Int32)) dX9_isSheet_2 rfl (by decide) ?_
  refine r_callI hC (a_S hC (c_X9_isWithin  hw) ci_X9_isWithin gX9_isSheet_X9_isWithin ⟨Nat.le_of_ble_eq_true rfl, Nat.le_of_ble_eq_true rfl⟩ ⟨Nat.le_of_ble_eq_true rfl, Nat.le_of_ble_eq_true rfl⟩ rfl rfl (Nat.le_of_ble_eq_true rfl) dX9_isSheet_3) ⟨rfl, rfl⟩ rfl (fun r1 J2 hw => ?_)
  exact r_retZ hC hR ⟨rfl, rfl⟩ dX9_isSheet_6 (zb_of hw.1) hw.2
set_option maxRecDepth 100000 in
theorem c_X9_isSheet {l : Launch} {x : Gx} {g : Gm}  {x0 : Int32} {I : Mm} {Post : Int32 → Mm → Prop}  (hw : wp_X9_isSheet  x0 I Post) : KI l x yX9_isSheet wsX9_isSheet rm_X9_isSheet g I [.int x0] (fun r u => u.1 = g ∧ Post r u.2) := KZ_of (by decide) rfl rfl (Nat.le_of_ble_eq_true rfl) (fun f hC _ _ hR => t_X9_isSheet_0 hC  hR hw)
