/-! ROOM of the class -/
abbrev rm_X9_room : Room := { frames := 6, cells := 8, slots := 52, locals := 149 }
theorem ci_X9_room : CI yX9_room wsX9_room cX9_room 8 (some .int) 4 := ⟨⟨_, rfl⟩, by decide, by decide, by decide +kernel⟩
theorem n_retI {f : Fx} {cc : ByteArray} {nL : Nat} {own : String} {Ts : List Cond} {rm : Room} {cells slots : Nat} {g : Gm} {I : Mm} {pc : Nat} {lv : List (Nat × Value)} (hC : Cx f cc nL own Ts rm) {Post : Int32 → Gm × Mm → Prop} {r : Int32} (hR : RtI f cc Post) (h1 : cells ≤ rm.cells) (h2 : slots ≤ rm.slots) (hd : decode cc pc = .ok (.ireturn, 1)) (hw : Post r (g, I)) : PW f cells slots g I pc lv [.int r] := by
  have h := hR g I pc lv r hd hw
  rw [hC.2.2.2.2.1] at h
  exact r_widen h1 h2 h
set_option maxRecDepth 20000 in
theorem uw_X9_room_9 : ∀ w ∈ u_ws RX9 TX9 11, w ∈ wsX9_room := by decide +kernel
set_option maxRecDepth 20000 in
theorem ffg_X9_room_13 : ∀ k ∈ ([9] : List Nat), FF wsX9_room RX9 13 k 0 ∧ fR k 0 = true := List.forall_mem_cons.mpr ⟨⟨⟨RX9, TX9, 11, "PageDesks", rfl, rfl, by decide, by decide, uw_X9_room_9, (List.mem_of_getElem? (i := 1) rfl), Or.inl rfl⟩, rfl⟩, fun _ h => absurd h List.not_mem_nil⟩
set_option maxRecDepth 20000 in
theorem ffg_X9_room_20 : ∀ k ∈ ([9] : List Nat), FF wsX9_room RX9 20 k 1 ∧ fR k 1 = true := List.forall_mem_cons.mpr ⟨⟨⟨RX9, TX9, 11, "PageDesks", rfl, rfl, by decide, by decide, uw_X9_room_9, (List.mem_of_getElem? (i := 3) rfl), Or.inl rfl⟩, rfl⟩, fun _ h => absurd h List.not_mem_nil⟩
set_option maxRecDepth 20000 in
theorem ffg_X9_room_99 : ∀ k ∈ ([9] : List Nat), FF wsX9_room RX9 99 k 8 ∧ fR k 8 = false := List.forall_mem_cons.mpr ⟨⟨⟨RX9, TX9, 11, "PageDesks", rfl, rfl, by decide, by decide, uw_X9_room_9, (List.mem_of_getElem? (i := 4) rfl), Or.inl rfl⟩, rfl⟩, fun _ h => absurd h List.not_mem_nil⟩
set_option maxRecDepth 20000 in
theorem ffp_X9_room_88 : ∀ k ∈ ([9] : List Nat), FF wsX9_room RX9 88 k 10 ∧ fR k 10 = false ∧ FP k 10 := List.forall_mem_cons.mpr ⟨⟨⟨RX9, TX9, 11, "PageDesks", rfl, rfl, by decide, by decide, uw_X9_room_9, (List.mem_of_getElem? (i := 2) rfl), Or.inl rfl⟩, rfl, ⟨RX9, TX9, 11, tyX9, rfl, tyX9_ok, nmX9, rfl, rfl⟩⟩, fun _ h => absurd h List.not_mem_nil⟩
def RoomQ (g : Gm) (I : Mm) (u0 : Int32 × St) (r : Int32) (u : Gm × Mm) : Prop := r = u0.1 ∧ Kp g u.1 ∧ shP u.1 (s_n u0.2) ∧ CV (gK u.1) u0.2 u.2 ∧ FC I u.2
abbrev lvR (g : Gm) (x1 x2 x3 x4 t : Int32) : List (Nat × Value) := [(6, .int t), (5, .ref (gA g (20 + x1.toNatClampNeg))), (0, .ref (gA g 0)), (1, .int x1), (2, .int x2), (3, .int x3), (4, .int x4)]
set_option maxRecDepth 100000 in
set_option maxHeartbeats 1000000 in
theorem t_room_82 {f : Fx} {g : Gm} {I : Mm} {z : St} {x1 x2 x3 x4 : Int32} (hC : Cx f cX9_room 8 RX9 wsX9_room rm_X9_room) (hw : wfS z) (hv : CV (gK g) z I) (hG : shP g (s_n z)) (hx : InR x1 0 4) (hla : InR x2 0 3) (hR : RtI f cX9_room (RoomQ g I (u_room z x1 x2 x3 x4))) {t : Int32} (h0 : ¬ t = 0) (ht : bar z x1.toNatClampNeg x2 x3 x4 = t) : PW f 0 0 g I 82 (lvR g x1 x2 x3 x4 t) [] := by
  have eu : u_room z x1 x2 x3 x4 = (-10 - t, zt z t) := by unfold u_room; rw [if_pos hx, if_pos hla, ht, if_neg h0]
  rw [eu] at hR
  refine r_aload_n hC dX9_room_82 rfl rfl (j := 2) rfl ?_
  refine r_iload hC dX9_room_83 rfl (j := 0) rfl ?_
  have hwp : wp_X9_faulted (gK g) (s_n z) t I (fun r N => r = -10 - t ∧ N = up2 I 0 10 t) := by unfold wp_X9_faulted; exact ⟨rfl, rfl⟩
  refine r_callI hC (rmc := rm_X9_faulted) (a_V hC (k := 9) (c_X9_faulted hG hwp) ci_X9_faulted gX9_room_X9_faulted rfl ⟨(Nat.le_of_ble_eq_true rfl), (Nat.le_of_ble_eq_true rfl)⟩ ⟨(Nat.le_of_ble_eq_true rfl), (Nat.le_of_ble_eq_true rfl)⟩ rfl (by decide) hG.o.1 (List.mem_singleton.mp hG.o.2) rfl rfl (Nat.le_of_ble_eq_true rfl) dX9_room_85) ⟨rfl, rfl⟩ rfl (fun r N hN => ?_)
  obtain ⟨er, eN⟩ := hN
  rw [er, eN]
  exact n_retI hC hR (Nat.le_of_ble_eq_true rfl) (Nat.le_of_ble_eq_true rfl) dX9_room_88 ⟨rfl, Kp.rf, hG, hv.t, FC.up (by decide)⟩
set_option maxRecDepth 100000 in
set_option maxHeartbeats 1000000 in
theorem t_room_114 {f : Fx} {g : Gm} {I : Mm} {z : St} {x1 x2 x3 x4 : Int32} (hC : Cx f cX9_room 8 RX9 wsX9_room rm_X9_room) (hw : wfS z) (hv : CV (gK g) z I) (hG : shP g (s_n z)) (hx : InR x1 0 4) (hla : InR x2 0 3) (hR : RtI f cX9_room (RoomQ g I (u_room z x1 x2 x3 x4))) {lv : List (Nat × Value)} {N : Mm} {e : Nat} (hbar : bar z x1.toNatClampNeg x2 x3 x4 = 0) (hrd : rdR z x1.toNatClampNeg x3.toNatClampNeg x4.toNatClampNeg = (none, e)) (htx : TX (up2 I 0 10 0) N) (hl : lv[0]? = some (7, .int (nI e))) : PW f 0 0 g N 114 lv [] := by
  have eu : u_room z x1 x2 x3 x4 = (-100 - nI e, zt z 0) := by
    unfold u_room; rw [if_pos hx, if_pos hla, if_pos hbar, hrd]; rfl
  rw [eu] at hR
  have hn := hw.1
  have hv0 : CV (gK g) (zt z 0) (up2 I 0 10 0) := hv.t
  have fc0 : FC I (up2 I 0 10 0) := FC.up (by decide)
  refine r_bipush hC (v := (-100 : Int32)) dX9_room_114 rfl (by decide) ?_
  refine r_iload hC dX9_room_116 rfl (j := 0) hl ?_
  refine r_isub hC dX9_room_118 rfl ?_
  exact n_retI hC hR (Nat.le_of_ble_eq_true rfl) (Nat.le_of_ble_eq_true rfl) dX9_room_119 ⟨rfl, Kp.rf, hG, hv0.sc (z := zt z 0) hn htx.sc, fc0.tr htx.sc.fc⟩
set_option maxRecDepth 100000 in
set_option maxHeartbeats 1000000 in
theorem t_room_120 {f : Fx} {g : Gm} {I : Mm} {z : St} {x1 x2 x3 x4 : Int32} (hC : Cx f cX9_room 8 RX9 wsX9_room rm_X9_room) (hw : wfS z) (hv : CV (gK g) z I) (hG : shP g (s_n z)) (hx : InR x1 0 4) (hla : InR x2 0 3) (hR : RtI f cX9_room (RoomQ g I (u_room z x1 x2 x3 x4))) {lv : List (Nat × Value)} {N : Mm} {D : List (Nat × Nat)} {P : List Nat} {e : Nat} (hbar : bar z x1.toNatClampNeg x2 x3 x4 = 0) (hrd : rdR z x1.toNatClampNeg x3.toNatClampNeg x4.toNatClampNeg = (some (D, P), e)) (htx : TX (up2 I 0 10 0) N) (n3 : N 2 3 = nI D.length) (n4 : N 2 4 = nI P.length) (n5 : arD (N 3) (N 4) D) (n6 : ar (N 5) P) (hl : lv[3]? = some (0, .ref (gA g 0))) : PW f 0 0 g N 120 lv [] := by
  have eu : u_room z x1 x2 x3 x4 = (nI D.length, newS z D P) := by
    unfold u_room; rw [if_pos hx, if_pos hla, if_pos hbar, hrd]; rfl
  rw [eu] at hR
  have hn := hw.1
  have hv0 : CV (gK g) (zt z 0) (up2 I 0 10 0) := hv.t
  have fc0 : FC I (up2 I 0 10 0) := FC.up (by decide)
  obtain ⟨o1, o2, o3, o4, o5, o6⟩ := trn_ok _ _ _ D P e tok0 hrd
  have hvN := hv0.sc (z := zt z 0) hn htx.sc
  refine r_aload_n hC dX9_room_120 rfl rfl (j := 3) hl ?_
  refine r_endV hC (rmc := rm_X9_furnish) (a_V hC (k := 9) (c_X9_furnish (D := D) (P := P) hG n3 n4 n5 n6 o2 o3 o5) ci_X9_furnish gX9_room_X9_furnish rfl ⟨(Nat.le_of_ble_eq_true rfl), (Nat.le_of_ble_eq_true rfl)⟩ ⟨(Nat.le_of_ble_eq_true rfl), (Nat.le_of_ble_eq_true rfl)⟩ rfl (by decide) hG.o.1 (List.mem_singleton.mp hG.o.2) rfl rfl (Nat.le_of_ble_eq_true rfl) dX9_room_121) rfl (fun u hu => ?_)
  obtain ⟨g2, K2⟩ := u
  obtain ⟨q1, q2, q3, q4, q5, q6, q7, q8⟩ := hu
  dsimp only at q1 q2 q3 q4 q5 q6 q7 q8 ⊢
  have o : ∀ c, c < 40 → oD c := fun c hc => by unfold oD; omega
  rw [← (q1 0 (o 0 (by decide))).2.1] at hl
  refine r_aload_n hC dX9_room_124 rfl rfl (j := 3) hl ?_
  refine r_getI hC dX9_room_125 rfl q2.o.1 q2.o.2 ffg_X9_room_99 ?_
  have e8 : K2 0 8 = nI D.length := by rw [q5, upd_n _ _ (by decide), upd_s]
  rw [e8]
  refine n_retI hC hR (Nat.le_of_ble_eq_true rfl) (Nat.le_of_ble_eq_true rfl) dX9_room_128 ⟨rfl, q1, q2, ?_, fun c hc => ?_⟩
  · obtain ⟨v1, v2, v3, v4, v5, v6, v7, v8, v9⟩ := hvN
    refine ⟨e8, ⟨q6, q7⟩, ?_, fun k hk => ?_, ⟨q8, fun j hj => absurd hj (Nat.not_lt_zero _)⟩, fun k hk => ?_, ?_, ?_, fun k hk => ?_⟩
    · show K2 0 9 = 0
      rw [q5, upd_s]
    · exact q3 k hk
    · show shC9 (K2 (20 + k)) (K2 (20 + k + 4)) (s_s z k)
      rw [q4 (20 + k) (o _ (by omega)) (by omega) (by omega) (by omega) (by omega), q4 (20 + k + 4) (o _ (by omega)) (by omega) (by omega) (by omega) (by omega)]
      exact v6 k hk
    · show K2 0 10 = 0
      rw [q5, upd_n _ _ (by decide), upd_n _ _ (by decide)]; exact v7
    · show K2 16 0 = s_x z
      rw [q4 16 (o _ (by decide)) (by decide) (by decide) (by decide) (by decide)]; exact v8
    · show gK g2 (30 + k) = kc k
      rw [(q1 (30 + k) (o _ (by omega))).2.2.1]; exact v9 k hk
  · show K2 c = I c
    rw [q4 c (by unfold oD; omega) (by omega) (by omega) (by omega) (by omega), htx c (by omega) (by omega) (by omega) (by omega)]
    exact fc0 c hc
set_option maxRecDepth 100000 in
set_option maxHeartbeats 1000000 in
theorem t_room_89 {f : Fx} {g : Gm} {I : Mm} {z : St} {x1 x2 x3 x4 : Int32} (hC : Cx f cX9_room 8 RX9 wsX9_room rm_X9_room) (hw : wfS z) (hv : CV (gK g) z I) (hG : shP g (s_n z)) (hx : InR x1 0 4) (hla : InR x2 0 3) (hR : RtI f cX9_room (RoomQ g I (u_room z x1 x2 x3 x4))) (hbar : bar z x1.toNatClampNeg x2 x3 x4 = 0) : PW f 0 0 g I 89 (lvR g x1 x2 x3 x4 0) [] := by
  obtain ⟨hin, ex, hk, hsh⟩ := c_sheet hw hv hx
  have hS := (hG.sheet hin).2.2
  obtain ⟨q, hqs, hl, hh⟩ := bar_0 hbar
  have hb := hw.2.2.2.2.2.2.1 _ q hk hqs
  rw [hqs] at hsh
  obtain ⟨ei, en, hsum, -⟩ := Hs_n hh hb.2
  refine r_aload_n hC dX9_room_89 rfl rfl (j := 2) rfl ?_
  refine r_iconst hC (v := (0 : Int32)) dX9_room_90 rfl (by decide) ?_
  refine r_putI hC dX9_room_91 rfl hG.o.1 hG.o.2 ffp_X9_room_88 ?_
  refine r_aload_n hC dX9_room_94 rfl rfl (j := 2) rfl ?_
  refine r_getR hC dX9_room_95 rfl hG.o.1 hG.o.2 ffg_X9_room_20 hG.r1 ?_
  refine r_aload hC dX9_room_98 rfl (j := 1) rfl ?_
  refine r_iload_n hC dX9_room_100 rfl rfl (j := 5) rfl ?_
  refine r_iload hC dX9_room_101 rfl (j := 6) rfl ?_
  have hff : wp_X7_firstFault (20 + x1.toNatClampNeg) x3 x4 (up2 I 0 10 0) (fun r N => (∃ D P e, r = -1 ∧ TX (up2 I 0 10 0) N ∧ rdR z x1.toNatClampNeg x3.toNatClampNeg x4.toNatClampNeg = (some (D, P), e) ∧ N 2 3 = nI D.length ∧ N 2 4 = nI P.length ∧ arD (N 3) (N 4) D ∧ ar (N 5) P) ∨ (∃ e, r = nI e ∧ TX (up2 I 0 10 0) N ∧ rdR z x1.toNatClampNeg x3.toNatClampNeg x4.toNatClampNeg = (none, e))) := by
    have key := w_firstFault (I := up2 I 0 10 0) (r := 20 + x1.toNatClampNeg) (a := x3.toNatClampNeg) (m := x4.toNatClampNeg) (c := fun j => cl z x1.toNatClampNeg (x3.toNatClampNeg + j)) (Post := fun r N => (∃ D P e, r = -1 ∧ TX (up2 I 0 10 0) N ∧ rdR z x1.toNatClampNeg x3.toNatClampNeg x4.toNatClampNeg = (some (D, P), e) ∧ N 2 3 = nI D.length ∧ N 2 4 = nI P.length ∧ arD (N 3) (N 4) D ∧ ar (N 5) P) ∨ (∃ e, r = nI e ∧ TX (up2 I 0 10 0) N ∧ rdR z x1.toNatClampNeg x3.toNatClampNeg x4.toNatClampNeg = (none, e))) ⟨by omega, by omega, by omega, by omega⟩ (fun j hj => by
      rw [up2_oc (by omega)]
      unfold cl
      rw [hqs]
      exact hsh.2.2 _ (by omega)) (by omega) (fun N D P e h1 h2 h3 h4 h5 h6 => Or.inl ⟨D, P, e, rfl, h1, h2, h3, h4, h5, h6⟩) (fun N e h1 h2 => Or.inr ⟨e, rfl, h1, h2⟩)
    rw [← ei, ← en] at key
    exact key
  refine r_callI hC (rmc := rm_X7_firstFault) (a_V hC (k := 7) (c_X7_firstFault hG.t hS hff) ci_X7_firstFault gX9_room_X7_firstFault rfl ⟨(Nat.le_of_ble_eq_true rfl), (Nat.le_of_ble_eq_true rfl)⟩ ⟨(Nat.le_of_ble_eq_true rfl), (Nat.le_of_ble_eq_true rfl)⟩ rfl (by decide) hG.t.1.1 (List.mem_singleton.mp hG.t.1.2) rfl rfl (Nat.le_of_ble_eq_true rfl) dX9_room_103) ⟨rfl, rfl⟩ rfl (fun r N hN => ?_)
  refine r_istore hC (lv' := (7, .int r) :: lvR g x1 x2 x3 x4 0) dX9_room_106 rfl (by decide) rfl ?_
  refine r_iload hC dX9_room_108 rfl (j := 0) rfl ?_
  refine r_iconst hC (v := (-1 : Int32)) dX9_room_110 rfl (by decide) ?_
  rcases hN with ⟨D, P, e, er, htx, hrd, n3, n4, n5, n6⟩ | ⟨e, er, htx, hrd⟩
  · refine r_icmp_eq hC (tgt := 120) (P1 := True) (P2 := False) dX9_room_111 rfl (by decide) (by rw [if_pos er]; trivial) (fun _ => ?_) (fun h => h.elim)
    exact t_room_120 hC hw hv hG hx hla hR hbar hrd htx n3 n4 n5 n6 rfl
  · have he : e ≤ x4.toNatClampNeg := by
      have h2 : (rdR z x1.toNatClampNeg x3.toNatClampNeg x4.toNatClampNeg).2 ≤ 0 + x4.toNatClampNeg := trn_e (c := fun j => cl z x1.toNatClampNeg (x3.toNatClampNeg + j)) x4.toNatClampNeg 0 (0, [], 0, [])
      rw [hrd] at h2
      have h2 : e ≤ 0 + x4.toNatClampNeg := h2
      omega
    refine r_icmp_eq hC (tgt := 120) (P1 := False) (P2 := True) dX9_room_111 rfl (by decide) (by rw [er, if_neg (nI_n1 (by omega))]; trivial) (fun h => h.elim) (fun _ => ?_)
    exact t_room_114 hC hw hv hG hx hla hR hbar hrd htx (by rw [er]; rfl)
set_option maxRecDepth 100000 in
set_option maxHeartbeats 1000000 in
theorem t_room_77 {f : Fx} {g : Gm} {I : Mm} {z : St} {x1 x2 x3 x4 : Int32} (hC : Cx f cX9_room 8 RX9 wsX9_room rm_X9_room) (hw : wfS z) (hv : CV (gK g) z I) (hG : shP g (s_n z)) (hx : InR x1 0 4) (hla : InR x2 0 3) (hR : RtI f cX9_room (RoomQ g I (u_room z x1 x2 x3 x4))) {t : Int32} (ht : bar z x1.toNatClampNeg x2 x3 x4 = t) : PW f 0 0 g I 77 (lvR g x1 x2 x3 x4 t) [] := by
  refine r_iload hC dX9_room_77 rfl (j := 0) rfl ?_
  by_cases h0 : t = 0
  · subst h0
    exact r_if_eq hC (tgt := 89) (P1 := True) (P2 := False) dX9_room_79 rfl (by decide) (by rw [if_pos rfl]; trivial) (fun _ => t_room_89 hC hw hv hG hx hla hR ht) (fun h => h.elim)
  · exact r_if_eq hC (tgt := 89) (P1 := False) (P2 := True) dX9_room_79 rfl (by decide) (by rw [if_neg h0]; trivial) (fun h => h.elim) (fun _ => t_room_82 hC hw hv hG hx hla hR h0 ht)
theorem t_room_58 {f : Fx} {g : Gm} {I : Mm} {z : St} {x1 x2 x3 x4 : Int32} (hC : Cx f cX9_room 8 RX9 wsX9_room rm_X9_room) (hw : wfS z) (hv : CV (gK g) z I) (hG : shP g (s_n z)) (hx : InR x1 0 4) (hla : InR x2 0 3) (hR : RtI f cX9_room (RoomQ g I (u_room z x1 x2 x3 x4))) {t : Int32} (h0 : ¬ t = 0) (ht : bar z x1.toNatClampNeg x2 x3 x4 = t) : PW f 0 0 g I 58 (lvR g x1 x2 x3 x4 t) [] := by
  refine r_iload hC dX9_room_58 rfl (j := 0) rfl ?_
  exact r_if_ne hC (tgt := 77) (P1 := True) (P2 := False) dX9_room_60 rfl (by decide) (by rw [if_neg h0]; trivial) (fun _ => t_room_77 hC hw hv hG hx hla hR ht) (fun h => h.elim)
theorem t_room_45 {f : Fx} {g : Gm} {I : Mm} {z : St} {x1 x2 x3 x4 : Int32} (hC : Cx f cX9_room 8 RX9 wsX9_room rm_X9_room) (hw : wfS z) (hv : CV (gK g) z I) (hG : shP g (s_n z)) (hx : InR x1 0 4) (hla : InR x2 0 3) (hR : RtI f cX9_room (RoomQ g I (u_room z x1 x2 x3 x4))) {t : Int32} (h0 : ¬ t = 0) (ht : bar z x1.toNatClampNeg x2 x3 x4 = t) : PW f 0 0 g I 45 (lvR g x1 x2 x3 x4 t) [] := by
  refine r_iload hC dX9_room_45 rfl (j := 0) rfl ?_
  exact r_if_ne hC (tgt := 58) (P1 := True) (P2 := False) dX9_room_47 rfl (by decide) (by rw [if_neg h0]; trivial) (fun _ => t_room_58 hC hw hv hG hx hla hR h0 ht) (fun h => h.elim)
set_option maxRecDepth 100000 in
set_option maxHeartbeats 1000000 in
theorem t_room_43 {f : Fx} {g : Gm} {I : Mm} {z : St} {x1 x2 x3 x4 : Int32} (hC : Cx f cX9_room 8 RX9 wsX9_room rm_X9_room) (hw : wfS z) (hv : CV (gK g) z I) (hG : shP g (s_n z)) (hx : InR x1 0 4) (hla : InR x2 0 3) (hR : RtI f cX9_room (RoomQ g I (u_room z x1 x2 x3 x4))) : PW f 0 0 g I 43 [(5, .ref (gA g (20 + x1.toNatClampNeg))), (0, .ref (gA g 0)), (1, .int x1), (2, .int x2), (3, .int x3), (4, .int x4)] [.int (fas x2 (s_s z x1.toNatClampNeg))] := by
  obtain ⟨hin, ex, hk, hsh⟩ := c_sheet hw hv hx
  have hS := (hG.sheet hin).2.2
  refine r_istore hC (lv' := lvR g x1 x2 x3 x4 (fas x2 (s_s z x1.toNatClampNeg))) dX9_room_43 rfl (by decide) rfl ?_
  cases hqs : s_s z x1.toNatClampNeg with
  | none =>
    rw [show fas x2 none = 1 from rfl]
    exact t_room_45 hC hw hv hG hx hla hR (by decide) (by unfold bar; rw [hqs])
  | some q =>
    have hb := hw.2.2.2.2.2.2.1 _ q hk hqs
    rw [hqs] at hsh
    by_cases hl : nI q.1 = x2
    · rw [show fas x2 (some q) = 0 from if_pos hl]
      refine r_iload hC dX9_room_45 rfl (j := 0) rfl ?_
      refine r_if_ne hC (tgt := 58) (P1 := False) (P2 := True) dX9_room_47 rfl (by decide) (by rw [if_pos rfl]; trivial) (fun h => h.elim) (fun _ => ?_)
      refine r_iload hC dX9_room_50 rfl (j := 6) rfl ?_
      by_cases hn0 : x4 < 0
      · refine r_if_ge hC (tgt := 58) (P1 := False) (P2 := True) dX9_room_52 rfl (by decide) (by rw [if_neg (Int32.not_le.mpr hn0)]; trivial) (fun h => h.elim) (fun _ => ?_)
        refine r_iconst hC (v := (4 : Int32)) dX9_room_55 rfl (by decide) ?_
        refine r_istore hC (lv' := lvR g x1 x2 x3 x4 4) dX9_room_56 rfl (by decide) rfl ?_
        exact t_room_58 hC hw hv hG hx hla hR (by decide) (by unfold bar; simp only [hqs]; rw [if_pos hl, if_pos hn0])
      · refine r_if_ge hC (tgt := 58) (P1 := True) (P2 := False) dX9_room_52 rfl (by decide) (by rw [if_pos (Int32.not_lt.mp hn0)]; trivial) (fun _ => ?_) (fun h => h.elim)
        refine r_iload hC dX9_room_58 rfl (j := 0) rfl ?_
        refine r_if_ne hC (tgt := 77) (P1 := False) (P2 := True) dX9_room_60 rfl (by decide) (by rw [if_pos rfl]; trivial) (fun h => h.elim) (fun _ => ?_)
        refine r_aload hC dX9_room_63 rfl (j := 1) rfl ?_
        refine r_iload_n hC dX9_room_65 rfl rfl (j := 5) rfl ?_
        refine r_iload hC dX9_room_66 rfl (j := 6) rfl ?_
        have hwp : wp_X6_has (20 + x1.toNatClampNeg) x3 x4 I (fun r N => r = (if Hs x3 x4 q.2.1 then 1 else 0) ∧ N = I) := w_hasS (len := q.2.1) hb.2 hsh.2.1 ⟨rfl, rfl⟩
        refine r_callI hC (rmc := rm_X6_has) (a_V hC (k := 6) (c_X6_has hS hwp) ci_X6_has gX9_room_X6_has rfl ⟨(Nat.le_of_ble_eq_true rfl), (Nat.le_of_ble_eq_true rfl)⟩ ⟨(Nat.le_of_ble_eq_true rfl), (Nat.le_of_ble_eq_true rfl)⟩ rfl (by decide) hS.1.1 (List.mem_singleton.mp hS.1.2) rfl rfl (Nat.le_of_ble_eq_true rfl) dX9_room_68) ⟨rfl, rfl⟩ rfl (fun r N hN => ?_)
        obtain ⟨er, eN⟩ := hN
        rw [er, eN]
        by_cases hh : Hs x3 x4 q.2.1
        · refine r_if_ne hC (tgt := 77) (P1 := True) (P2 := False) dX9_room_71 rfl (by decide) (by rw [if_pos hh, if_neg (by decide)]; trivial) (fun _ => ?_) (fun h => h.elim)
          exact t_room_77 hC hw hv hG hx hla hR (by unfold bar; simp only [hqs]; rw [if_pos hl, if_neg hn0, if_pos hh])
        · refine r_if_ne hC (tgt := 77) (P1 := False) (P2 := True) dX9_room_71 rfl (by decide) (by rw [if_neg hh, if_pos rfl]; trivial) (fun h => h.elim) (fun _ => ?_)
          refine r_iconst hC (v := (3 : Int32)) dX9_room_74 rfl (by decide) ?_
          refine r_istore hC (lv' := lvR g x1 x2 x3 x4 3) dX9_room_75 rfl (by decide) rfl ?_
          exact t_room_77 hC hw hv hG hx hla hR (by unfold bar; simp only [hqs]; rw [if_pos hl, if_neg hn0, if_neg hh])
    · rw [show fas x2 (some q) = 2 from if_neg hl]
      exact t_room_45 hC hw hv hG hx hla hR (by decide) (by unfold bar; simp only [hqs]; rw [if_neg hl])
set_option maxRecDepth 100000 in
set_option maxHeartbeats 1000000 in
theorem c_X9_room {l : Launch} {x : Gx} {g : Gm} {I : Mm} {z : St} {x1 x2 x3 x4 : Int32} (hw : wfS z) (hv : CV (gK g) z I) (hG : shP g (s_n z)) : KI l x yX9_room wsX9_room rm_X9_room g I [.ref (gA g 0), .int x1, .int x2, .int x3, .int x4] (RoomQ g I (u_room z x1 x2 x3 x4)) := by
  refine KI_of (by decide) rfl rfl (Nat.le_of_ble_eq_true rfl) (fun f hC _ _ hR => ?_)
  show PW f 0 0 g I 0 [(0, .ref (gA g 0)), (1, .int x1), (2, .int x2), (3, .int x3), (4, .int x4)] []
  have hn := hw.1
  refine r_iload_n hC dX9_room_0 rfl rfl (j := 1) rfl ?_
  have hwp : wp_X9_isSheet x1 I (fun r J => r = (if InR x1 0 4 then 1 else 0) ∧ J = I) := w_sheet ⟨rfl, rfl⟩
  refine r_callI hC (rmc := rm_X9_isSheet) (a_S hC (c_X9_isSheet hwp) ci_X9_isSheet gX9_room_X9_isSheet ⟨(Nat.le_of_ble_eq_true rfl), (Nat.le_of_ble_eq_true rfl)⟩ ⟨(Nat.le_of_ble_eq_true rfl), (Nat.le_of_ble_eq_true rfl)⟩ rfl rfl (Nat.le_of_ble_eq_true rfl) dX9_room_1) ⟨rfl, rfl⟩ rfl (fun r J hJ => ?_)
  obtain ⟨er, eJ⟩ := hJ
  rw [er, eJ]
  clear er eJ
  by_cases hx : InR x1 0 4
  case neg =>
    have eu : u_room z x1 x2 x3 x4 = (-1, zt z 0) := by unfold u_room; rw [if_neg hx]
    rw [eu] at hR
    refine r_if_ne hC (tgt := 13) (P1 := False) (P2 := True) dX9_room_4 rfl (by decide) (by rw [if_neg hx, if_pos rfl]; trivial) (fun h => h.elim) (fun _ => ?_)
    refine r_aload_n hC dX9_room_7 rfl rfl (j := 0) rfl ?_
    refine r_iconst hC (v := (-1 : Int32)) dX9_room_8 rfl (by decide) ?_
    have hwp : wp_X9_refused (gK g) (s_n z) (-1) I (fun r K => r = -1 ∧ K = up2 I 0 10 0) := by unfold wp_X9_refused; exact ⟨rfl, rfl⟩
    refine r_callI hC (rmc := rm_X9_refused) (a_V hC (k := 9) (c_X9_refused hG hwp) ci_X9_refused gX9_room_X9_refused rfl ⟨(Nat.le_of_ble_eq_true rfl), (Nat.le_of_ble_eq_true rfl)⟩ ⟨(Nat.le_of_ble_eq_true rfl), (Nat.le_of_ble_eq_true rfl)⟩ rfl (by decide) hG.o.1 (List.mem_singleton.mp hG.o.2) rfl rfl (Nat.le_of_ble_eq_true rfl) dX9_room_9) ⟨rfl, rfl⟩ rfl (fun r K hK => ?_)
    obtain ⟨er, eK⟩ := hK
    rw [er, eK]
    exact n_retI hC hR (Nat.le_of_ble_eq_true rfl) (Nat.le_of_ble_eq_true rfl) dX9_room_12 ⟨rfl, Kp.rf, hG, hv.t, FC.up (by decide)⟩
  refine r_if_ne hC (tgt := 13) (P1 := True) (P2 := False) dX9_room_4 rfl (by decide) (by rw [if_pos hx, if_neg (by decide)]; trivial) (fun _ => ?_) (fun h => h.elim)
  refine r_iload_n hC dX9_room_13 rfl rfl (j := 2) rfl ?_
  refine r_iconst hC (v := (0 : Int32)) dX9_room_14 rfl (by decide) ?_
  refine r_iconst hC (v := (2 : Int32)) dX9_room_15 rfl (by decide) ?_
  have hwp : wp_X9_isWithin x2 0 2 I (fun r K => r = (if InR x2 0 3 then 1 else 0) ∧ K = I) := w9 (a := 0) (b := 3) (by decide) (by decide) ⟨rfl, rfl⟩
  refine r_callI hC (rmc := rm_X9_isWithin) (a_S hC (c_X9_isWithin hwp) ci_X9_isWithin gX9_room_X9_isWithin ⟨(Nat.le_of_ble_eq_true rfl), (Nat.le_of_ble_eq_true rfl)⟩ ⟨(Nat.le_of_ble_eq_true rfl), (Nat.le_of_ble_eq_true rfl)⟩ rfl rfl (Nat.le_of_ble_eq_true rfl) dX9_room_16) ⟨rfl, rfl⟩ rfl (fun r K hK => ?_)
  obtain ⟨er, eK⟩ := hK
  rw [er, eK]
  clear er eK
  by_cases hla : InR x2 0 3
  case neg =>
    have eu : u_room z x1 x2 x3 x4 = (-2, zt z 0) := by unfold u_room; rw [if_pos hx, if_neg hla]
    rw [eu] at hR
    refine r_if_ne hC (tgt := 29) (P1 := False) (P2 := True) dX9_room_19 rfl (by decide) (by rw [if_neg hla, if_pos rfl]; trivial) (fun h => h.elim) (fun _ => ?_)
    refine r_aload_n hC dX9_room_22 rfl rfl (j := 0) rfl ?_
    refine r_bipush hC (v := (-2 : Int32)) dX9_room_23 rfl (by decide) ?_
    have hwp : wp_X9_refused (gK g) (s_n z) (-2) I (fun r K => r = -2 ∧ K = up2 I 0 10 0) := by unfold wp_X9_refused; exact ⟨rfl, rfl⟩
    refine r_callI hC (rmc := rm_X9_refused) (a_V hC (k := 9) (c_X9_refused hG hwp) ci_X9_refused gX9_room_X9_refused rfl ⟨(Nat.le_of_ble_eq_true rfl), (Nat.le_of_ble_eq_true rfl)⟩ ⟨(Nat.le_of_ble_eq_true rfl), (Nat.le_of_ble_eq_true rfl)⟩ rfl (by decide) hG.o.1 (List.mem_singleton.mp hG.o.2) rfl rfl (Nat.le_of_ble_eq_true rfl) dX9_room_25) ⟨rfl, rfl⟩ rfl (fun r K hK => ?_)
    obtain ⟨er, eK⟩ := hK
    rw [er, eK]
    exact n_retI hC hR (Nat.le_of_ble_eq_true rfl) (Nat.le_of_ble_eq_true rfl) dX9_room_28 ⟨rfl, Kp.rf, hG, hv.t, FC.up (by decide)⟩
  refine r_if_ne hC (tgt := 29) (P1 := True) (P2 := False) dX9_room_19 rfl (by decide) (by rw [if_pos hla, if_neg (by decide)]; trivial) (fun _ => ?_) (fun h => h.elim)
  obtain ⟨hin, ex, hk, hsh⟩ := c_sheet hw hv hx
  have hq := hG.sheet hin
  refine r_aload_n hC dX9_room_29 rfl rfl (j := 0) rfl ?_
  refine r_getR hC dX9_room_30 rfl hG.o.1 hG.o.2 ffg_X9_room_13 hG.r0 ?_
  refine r_iload_n hC dX9_room_33 rfl rfl (j := 1) rfl ?_
  refine r_aald hC dX9_room_34 rfl hq.1.1 hq.1.2.1 hq.1.2.2 hq.2.1 ?_
  have hS := hq.2.2
  refine r_astore hC (lv' := [(5, .ref (gA g (20 + x1.toNatClampNeg))), (0, .ref (gA g 0)), (1, .int x1), (2, .int x2), (3, .int x3), (4, .int x4)]) dX9_room_35 rfl (by decide) rfl ?_
  refine r_aload hC dX9_room_37 rfl (j := 0) rfl ?_
  refine r_iload_n hC dX9_room_39 rfl rfl (j := 3) rfl ?_
  have hwp : wp_X6_faultAs (20 + x1.toNatClampNeg) x2 I (fun r K => r = fas x2 (s_s z x1.toNatClampNeg) ∧ K = I) := w_faultAs (fun r hr => (hw.2.2.2.2.2.2.1 _ r hk hr).1) hsh ⟨rfl, rfl⟩
  refine r_callI hC (rmc := rm_X6_faultAs) (a_V hC (k := 6) (c_X6_faultAs hS hwp) ci_X6_faultAs gX9_room_X6_faultAs rfl ⟨(Nat.le_of_ble_eq_true rfl), (Nat.le_of_ble_eq_true rfl)⟩ ⟨(Nat.le_of_ble_eq_true rfl), (Nat.le_of_ble_eq_true rfl)⟩ rfl (by decide) hS.1.1 (List.mem_singleton.mp hS.1.2) rfl rfl (Nat.le_of_ble_eq_true rfl) dX9_room_40) ⟨rfl, rfl⟩ rfl (fun r K hK => ?_)
  obtain ⟨er, eK⟩ := hK
  rw [er, eK]
  exact t_room_43 hC hw hv hG hx hla hR
