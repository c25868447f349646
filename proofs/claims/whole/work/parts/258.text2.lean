/-! the text of a room, as the model reads it -/
def cdA (c : Nat → Int32) (m j : Nat) : Int32 := if j < m then c j else -9
theorem tst_9 {s : TS} (h5 : s.1 ≤ 5) : tst s (-9) = none := by
  obtain ⟨a, D, k, P⟩ := s
  unfold tst
  dsimp only at h5 ⊢
  rcases (show a = 0 ∨ a = 1 ∨ a = 2 ∨ a = 3 ∨ a = 4 ∨ a = 5 by omega) with rfl | rfl | rfl | rfl | rfl | rfl
  · rw [if_pos rfl, if_neg (by decide)]
  · rw [if_neg (by decide), if_pos rfl, if_neg (by decide)]
  · rw [if_neg (by decide), if_neg (by decide), if_pos rfl, show kdO (-9) = none by decide]
  · rw [if_neg (by decide), if_neg (by decide), if_neg (by decide), if_pos rfl, if_neg (by decide)]
  · rw [if_neg (by decide), if_neg (by decide), if_neg (by decide), if_neg (by decide), if_pos rfl, if_neg (by decide), if_neg (by decide)]
  · rw [if_neg (by decide), if_neg (by decide), if_neg (by decide), if_neg (by decide), if_neg (by decide), if_neg (fun hh => absurd hh.2 (by decide))]
theorem trn_none {c : Nat → Int32} {m j : Nat} {s : TS} (hj : j ≤ m) (h5 : s.1 ≤ 5) (hs : s.1 < 5 ∨ s.2.2.2.length = 0 ∨ j < m) (h : tst s (cdA c m j) = none) : trn c (m - j) j s = (none, j) := by
  by_cases hjm : j < m
  · rw [show m - j = (m - j - 1) + 1 by omega]
    unfold cdA at h
    rw [if_pos hjm] at h
    simp only [trn, h]
  · rw [show m - j = 0 by omega]
    simp only [trn]
    rw [if_neg (by omega)]
theorem trn_some {c : Nat → Int32} {m j : Nat} {s s' : TS} (h5 : s.1 ≤ 5) (h : tst s (cdA c m j) = some s') : j < m ∧ trn c (m - j) j s = trn c (m - (j + 1)) (j + 1) s' := by
  by_cases hjm : j < m
  · refine ⟨hjm, ?_⟩
    rw [show m - j = (m - (j + 1)) + 1 by omega]
    unfold cdA at h
    rw [if_pos hjm] at h
    simp only [trn, h]
  · unfold cdA at h
    rw [if_neg hjm, tst_9 h5] at h
    exact absurd h (by simp)
def rM (I : Mm) (j : Nat) (D : List (Nat × Nat)) (P : List Nat) : Prop := I 100 7 = nI j ∧ I 100 8 = nI D.length ∧ I 100 9 = nI P.length ∧ arD (I 110) (I 111) D ∧ ar (I 112) P
theorem SM.u {I : Mm} {c j : Nat} {v : Int32} (h : c = 110 ∨ c = 111 ∨ c = 112) : SM I (up2 I c j v) := ⟨fun d hd => up2_oc (fun e => hd (by subst e; rcases h with rfl | rfl | rfl <;> decide)), fun d _ => by rw [up2_oc (by omega)]⟩
theorem SM.s {I : Mm} {j : Nat} {v : Int32} (h : j = 7 ∨ j = 8 ∨ j = 9) : SM I (up2 I 100 j v) := ⟨fun d hd => up2_oc (fun e => hd (by subst e; decide)), fun d hd => by
  rw [up2_c, upd_n _ _ (fun e => hd (by subst e; rcases h with rfl | rfl | rfl <;> decide))]⟩
section TX2
variable {I I0 : Mm} {x y w : Int32} {Post : Int32 → Mm → Prop} {b m : Nat} {c : Nat → Int32}
theorem rM7 {j : Nat} {D : List (Nat × Nat)} {P : List Nat} (h : rM I j D P) : rM (up2 I 100 7 (I 100 7 + 1)) (j + 1) D P := by
  obtain ⟨h1, h2, h3, h4, h5⟩ := h
  refine ⟨by rw [up2_c, upd_s, h1, nI_1], by rw [up2_c, upd_n _ _ (by decide)]; exact h2, by rw [up2_c, upd_n _ _ (by decide)]; exact h3, by rw [up2_oc (by decide), up2_oc (by decide)]; exact h4, by rw [up2_oc (by decide)]; exact h5⟩
/-- cells as the model has them -/
def cM (I : Mm) (b m : Nat) (c : Nat → Int32) : Prop := ∀ j, j < m → I 127 (b + j) = c j
theorem cM.sm {J : Mm} (h : SM I J) (hc : cM I b m c) : cM J b m c := fun j hj => by rw [h.1 127 (by decide)]; exact hc j hj
theorem m_codeAt {j : Nat} (hm : m ≤ 60) (hj : j ≤ m) (hb : b + m ≤ 240) (hc : cM I b m c) (h7 : I 100 7 = nI j) (h : Post (cdA c m j) I) : wp_X10_codeAt (nI b) (nI m) I Post := by
  unfold wp_X10_codeAt
  unfold cdA at h
  rw [h7]
  refine t_le m j rfl rfl (by omega) (by omega) (fun q => ?_) (fun q => ?_)
  · rw [if_neg (by omega)] at h; exact h
  · rw [if_pos q] at h
    rw [nI_add, nI_clamp (by omega), hc j q]
    exact ⟨vp_in_nI (by omega) (by decide), h⟩
theorem m_readsDesk {j a k : Nat} {D : List (Nat × Nat)} (hm : m ≤ 60) (hj : j ≤ m) (hb : b + m ≤ 240) (hc : cM I b m c) (hr : rM I j D []) (hs : tok (a, D, k, [])) (ha : a = 1 ∨ (a = 4 ∧ cdA c m j ≠ 44)) (hF : ∀ I' e, SM I I' → trn c (m - j) j (a, D, k, []) = (none, e) → I' 100 7 = nI e → Post 0 I') (hS : ∀ I' D' k', SM I I' → j + 3 ≤ m → D'.length = D.length + 1 → tok (4, D', k', []) → rM I' (j + 3) D' [] → trn c (m - j) j (a, D, k, []) = trn c (m - (j + 3)) (j + 3) (4, D', k', []) → Post 1 I') : wp_X10_readsDesk (nI b) (nI m) I Post := by
  obtain ⟨s1, s2, s3, s4, s5, s6, s7, s8, s9, s10⟩ := id hs
  dsimp only at s1 s2 s3 s4 s5 s6 s7 s8 s9 s10
  obtain ⟨r1, r2, r3, r4, r5⟩ := id hr
  have ha5 : a < 5 := by omega
  unfold wp_X10_readsDesk
  rw [r2]
  have t4 : ∀ cc : Int32, cc ≠ 59 → (a = 4 → cc ≠ 44) → tst (a, D, k, []) cc = none := by
    intro cc h1 h2
    unfold tst
    dsimp only
    rcases ha with rfl | ⟨rfl, -⟩
    · rw [if_neg (by decide), if_pos rfl, if_neg h1]
    · rw [if_neg (by decide), if_neg (by decide), if_neg (by decide), if_neg (by decide), if_pos rfl, if_neg h1, if_neg (h2 rfl)]
  refine t_eq D.length 4 rfl rfl (by omega) (by decide) (fun e4 => ?_) (fun e4 => ?_)
  · refine hF I j SM.rf (trn_none hj s1 (Or.inl ha5) ?_) r1
    rcases ha with rfl | ⟨rfl, h44⟩
    · rw [s4 (by decide)] at e4; exact absurd e4 (by decide)
    · unfold tst
      dsimp only
      rw [if_neg (by decide), if_neg (by decide), if_neg (by decide), if_neg (by decide), if_pos rfl, if_neg (show ¬ D.length < 4 by omega), if_neg h44]
      split <;> rfl
  refine m_codeAt hm hj hb hc r1 ?_
  refine t_if (fun h59 => ?_) (fun h59 => ?_)
  · have ht1 : tst (a, D, k, []) (cdA c m j) = some (2, D, k, []) := by
      unfold tst
      dsimp only
      rcases ha with rfl | ⟨rfl, -⟩
      · rw [if_neg (by decide), if_pos rfl, if_pos h59]
      · rw [if_neg (by decide), if_neg (by decide), if_neg (by decide), if_neg (by decide), if_pos rfl, if_pos h59, if_pos (show D.length < 4 by omega)]
    obtain ⟨hj1, T1⟩ := trn_some s1 ht1
    have ok1 := tst_ok hs ht1
    have sA : SM I (up2 I 100 7 (I 100 7 + 1)) := SM.s (Or.inl rfl)
    have rA := rM7 hr
    rw [T1] at hF hS
    generalize up2 I 100 7 (I 100 7 + 1) = JA at *
    refine m_codeAt hm hj1 hb (hc.sm sA) rA.1 ?_
    have go : ∀ k', kdO (cdA c m (j + 1)) = some k' → wp_X10_readsDesk_58 Post (nI b) (nI m) (cdA c m (j + 1)) JA := by
      intro k' hk
      have ht2 : tst (2, D, k, []) (cdA c m (j + 1)) = some (3, D, k', []) := by
        unfold tst
        dsimp only
        rw [if_neg (by decide), if_neg (by decide), if_pos rfl, hk]
      obtain ⟨hj2, T2⟩ := trn_some (by simp) ht2
      have ok2 := tst_ok ok1 ht2
      rw [T2] at hF hS
      unfold wp_X10_readsDesk_58
      have sB : SM JA (up2 JA 100 7 (JA 100 7 + 1)) := SM.s (Or.inl rfl)
      have rB := rM7 rA
      generalize up2 JA 100 7 (JA 100 7 + 1) = JB at *
      refine m_codeAt hm hj2 hb ((hc.sm sA).sm sB) rB.1 ?_
      refine w10 (a := 1) (b := 6) (by decide) (by decide) ?_
      rw [ite01]
      refine t_if (fun hfr => ?_) (fun hfr => ?_)
      · have hfr := c48.mp hfr
        have ht3 : tst (3, D, k', []) (cdA c m (j + 1 + 1)) = some (4, D ++ [(k', (cdA c m (j + 1 + 1) - 48).toNatClampNeg)], k', []) := by
          unfold tst
          dsimp only
          rw [if_neg (by decide), if_neg (by decide), if_neg (by decide), if_pos rfl, if_pos hfr]
        obtain ⟨hj3, T3⟩ := trn_some (by simp) ht3
        have ok3 := tst_ok ok2 ht3
        obtain ⟨-, -, ec⟩ := c48n hfr
        have sC : SM JB (up2 JB 100 7 (JB 100 7 + 1)) := SM.s (Or.inl rfl)
        have rC := rM7 rB
        have hk3 := kdO_lt hk
        have fin : ∀ J s0, s0 = nI k' → SM JB J → rM J (j + 1 + 1 + 1) D [] → wp_X10_readsDesk_133 Post (cdA c m (j + 1 + 1) - 48) s0 (J 100 8) J := by
          intro J s0 e0 sJ rJ
          obtain ⟨q1, q2, q3, q4, q5⟩ := rJ
          unfold wp_X10_readsDesk_133
          have e8 : up2 J 110 D.length s0 100 8 = nI D.length := by rw [up2_oc (by decide)]; exact q2
          rw [cl_n q2 (by omega), e8]
          refine ⟨vp_n q2 (by omega) (by decide), vp_in_nI (by omega) (by decide), ?_⟩
          rw [nI_clamp (by omega)]
          refine hS _ (D ++ [(k', (cdA c m (j + 1 + 1) - 48).toNatClampNeg)]) k' (sA.tr (sB.tr (sJ.tr ((SM.u (Or.inl rfl)).tr ((SM.u (Or.inr (Or.inl rfl))).tr (SM.s (Or.inr (Or.inl rfl)))))))) (by omega) (by rw [List.length_append]; rfl) ok3 ?_ T3
          refine ⟨?_, ?_, ?_, ?_, ?_⟩
          · rw [up2_c, upd_n _ _ (by decide), up2_oc (by decide), up2_oc (by decide)]; exact q1
          · rw [up2_c, upd_s, up2_oc (by decide), up2_oc (by decide), q2, nI_1]
            rw [List.length_append]; rfl
          · rw [up2_c, upd_n _ _ (by decide), up2_oc (by decide), up2_oc (by decide)]; exact q3
          · rw [up2_oc (by decide), up2_oc (by decide), up2_c, up2_oc (by decide), up2_c, up2_oc (by decide)]
            have := arD_push (f := (cdA c m (j + 1 + 1) - 48).toNatClampNeg) (arD_k (v := s0) q4) (k := k') (by rw [upd_s]; exact e0)
            rw [← ec] at this; exact this
          · rw [up2_oc (by decide), up2_oc (by decide), up2_oc (by decide)]; exact q5
        unfold kdO at hk
        refine t_if (fun h1 => ?_) (fun h1 => t_if (fun h2 => ?_) (fun h2 => ?_))
        · rw [if_pos h1] at hk
          exact fin _ _ (by rw [← Option.some.inj hk]; rfl) sC rC
        · rw [if_neg h1, if_pos h2] at hk
          exact fin _ _ (by rw [← Option.some.inj hk]; rfl) sC rC
        · rw [if_neg h1, if_neg h2] at hk
          by_cases h3 : cdA c m (j + 1) = 114
          · rw [if_pos h3] at hk
            exact fin _ _ (by rw [← Option.some.inj hk]; rfl) sC rC
          · rw [if_neg h3] at hk; exact absurd hk (by simp)
      · refine hF _ (j + 1 + 1) (sA.tr sB) (trn_none hj2 (by simp) (Or.inl (by simp)) ?_) rB.1
        unfold tst
        dsimp only
        rw [if_neg (by decide), if_neg (by decide), if_neg (by decide), if_pos rfl, if_neg (fun hh => hfr (c48.mpr hh))]
    refine t_if (fun h1 => go 0 (by unfold kdO; rw [if_pos h1])) (fun h1 => t_if (fun h2 => go 1 (by unfold kdO; rw [if_neg h1, if_pos h2])) (fun h2 => t_if (fun h3 => go 2 (by unfold kdO; rw [if_neg h1, if_neg h2, if_pos h3])) (fun h3 => ?_)))
    refine hF _ (j + 1) sA (trn_none hj1 (by simp) (Or.inl (by simp)) ?_) rA.1
    unfold tst
    dsimp only
    rw [if_neg (by decide), if_neg (by decide), if_pos rfl, show kdO (cdA c m (j + 1)) = none by unfold kdO; rw [if_neg h1, if_neg h2, if_neg h3]]
  · refine hF I j SM.rf (trn_none hj s1 (Or.inl ha5) (t4 _ h59 (fun e => ?_))) r1
    rcases ha with e1 | ⟨-, h44⟩
    · omega
    · exact h44
theorem m_readsAsk {j k : Nat} {D : List (Nat × Nat)} {P : List Nat} (hm : m ≤ 60) (hj : j ≤ m) (hb : b + m ≤ 240) (hc : cM I b m c) (hr : rM I j D P) (hs : tok (5, D, k, P)) (hjP : P.length = 0 ∨ j < m) (hF : ∀ I' e, SM I I' → trn c (m - j) j (5, D, k, P) = (none, e) → I' 100 7 = nI e → Post 0 I') (hS : ∀ I' P', SM I I' → j + 1 ≤ m → 0 < P'.length → tok (5, D, k, P') → rM I' (j + 1) D P' → trn c (m - j) j (5, D, k, P) = trn c (m - (j + 1)) (j + 1) (5, D, k, P') → Post 1 I') : wp_X10_readsAsk (nI b) (nI m) I Post := by
  obtain ⟨s1, s2, s3, s4, s5, s6, s7, s8, s9, s10⟩ := id hs
  dsimp only at s1 s2 s3 s4 s5 s6 s7 s8 s9 s10
  obtain ⟨r1, r2, r3, r4, r5⟩ := id hr
  unfold wp_X10_readsAsk
  refine m_codeAt hm hj hb hc r1 ?_
  rw [r3]
  have tx : tst (5, D, k, P) (cdA c m j) = if P.length < 24 ∧ InR (cdA c m j - 97) 0 8 then some (5, D, k, P ++ [(cdA c m j - 97).toNatClampNeg]) else none := by
    unfold tst
    dsimp only
    rw [if_neg (by decide), if_neg (by decide), if_neg (by decide), if_neg (by decide), if_neg (by decide)]
  refine t_eq P.length 24 rfl rfl (by omega) (by decide) (fun e => ?_) (fun e => ?_)
  · exact hF I j SM.rf (trn_none hj s1 (Or.inr hjP) (by rw [tx, if_neg (by omega)])) r1
  · refine m_page ?_
    rw [ite01]
    refine t_if (fun hp => ?_) (fun hp => ?_)
    · rw [if_pos ⟨by omega, hp⟩] at tx
      obtain ⟨hj1, T1⟩ := trn_some s1 tx
      have ok1 := tst_ok hs tx
      obtain ⟨ec, -, c8⟩ := hp.n (by decide)
      refine ⟨vp_n r3 (by omega) (by decide), ?_⟩
      rw [cl_n r3 (by omega)]
      refine hS _ (P ++ [(cdA c m j - 97).toNatClampNeg]) ((SM.u (Or.inr (Or.inr rfl))).tr ((SM.s (Or.inr (Or.inr rfl))).tr (SM.s (Or.inl rfl)))) hj1 (by rw [List.length_append]; exact Nat.succ_pos _) ok1 ?_ T1
      refine ⟨?_, ?_, ?_, ?_, ?_⟩
      · rw [up2_c, upd_s, up2_c, upd_n _ _ (by decide), up2_oc (by decide), r1, nI_1]
      · rw [up2_c, upd_n _ _ (by decide), up2_c, upd_n _ _ (by decide), up2_oc (by decide)]; exact r2
      · rw [up2_c, upd_n _ _ (by decide), up2_c, upd_s, up2_oc (by decide), r3, nI_1]
        rw [List.length_append]; rfl
      · rw [up2_oc (by decide), up2_oc (by decide), up2_oc (by decide), up2_oc (by decide), up2_oc (by decide), up2_oc (by decide)]; exact r4
      · rw [up2_oc (by decide), up2_oc (by decide), up2_c]
        have := ar_push r5 (cdA c m j - 97).toNatClampNeg
        rw [← ec] at this; exact this
    · exact hF I j SM.rf (trn_none hj s1 (Or.inr hjP) (by rw [tx, if_neg (fun hh => hp hh.2)])) r1
theorem m_readsRoom (hm : m ≤ 60) (hb : b + m ≤ 240) (hc : cM I b m c) (hF : ∀ I' e, SM I I' → trn c m 0 (0, [], 0, []) = (none, e) → I' 100 7 = nI e → Post 0 I') (hT : ∀ I' D P e j, SM I I' → trn c m 0 (0, [], 0, []) = (some (D, P), e) → rM I' j D P → Post 1 I') : wp_X10_readsRoom (nI b) (nI m) I Post := by
  unfold wp_X10_readsRoom
  have s0 : SM I (up2 (up2 (up2 I 100 7 0) 100 8 0) 100 9 0) := (SM.s (Or.inl rfl)).tr ((SM.s (Or.inr (Or.inl rfl))).tr (SM.s (Or.inr (Or.inr rfl))))
  have r0 : rM (up2 (up2 (up2 I 100 7 0) 100 8 0) 100 9 0) 0 [] [] := ⟨by rw [up2_c, upd_n _ _ (by decide), up2_c, upd_n _ _ (by decide), up2_c, upd_s]; rfl, by rw [up2_c, upd_n _ _ (by decide), up2_c, upd_s]; rfl, by rw [up2_c, upd_s]; rfl, fun j hj => absurd hj (Nat.not_lt_zero _), fun j hj => absurd hj (Nat.not_lt_zero _)⟩
  generalize up2 (up2 (up2 I 100 7 0) 100 8 0) 100 9 0 = J0 at *
  have ok0 : tok (0, [], 0, []) := ⟨by decide, by decide, fun _ => by decide, fun _ => rfl, fun q => absurd q (by decide), fun q hq => absurd hq List.not_mem_nil, by decide, by decide, fun p hp => absurd hp List.not_mem_nil, fun _ => rfl⟩
  refine m_codeAt hm (Nat.zero_le _) hb (hc.sm s0) r0.1 ?_
  -- the asks
  have f91 : ∀ n (J : Mm), wp_X10_readsRoom_91 Post (n + 1) (nI b) (nI m) 0 J = ((((0 : Int32) = 0 ∨ (0 : Int32) = 1)) ∧ Post 0 J) := fun n J => by
    unfold wp_X10_readsRoom_91
    rw [if_pos rfl]
  have k91 : ∀ n j D k P (J : Mm), j + n = m → SM I J → tok (5, D, k, P) → rM J j D P → (P.length = 0 ∨ True) → trn c m 0 (0, [], 0, []) = trn c (m - j) j (5, D, k, P) → wp_X10_readsRoom_91 Post (n + 2) (nI b) (nI m) 1 J := by
    intro n
    induction n with
    | zero =>
      intro j D k P J hj sJ ok rJ _ htr
      unfold wp_X10_readsRoom_91
      rw [if_neg (by decide), rJ.2.2.1]
      have : j = m := by omega
      subst this
      refine t_lt P.length 1 rfl rfl (by have := ok.2.2.2.2.2.2.2.1; dsimp only at this; omega) (by decide) (fun q => ?_) (fun q => ?_)
      · unfold wp_X10_readsRoom_111
        refine m_readsAsk hm (Nat.le_refl _) hb (hc.sm sJ) rJ ok (Or.inl (by omega)) (fun I' e s1 ht h7 => ?_) (fun I' P' s1 hh _ _ _ _ => by omega)
        show wp_X10_readsRoom_91 Post 1 (nI b) (nI j) 0 I'
        rw [f91 0]
        exact ⟨Or.inl rfl, hF I' e (sJ.tr s1) (htr.trans ht) h7⟩
      · rw [rJ.1]
        refine t_le j j rfl rfl (by omega) (by omega) (fun _ => ⟨Or.inr rfl, ?_⟩) (fun q => by omega)
        rw [Nat.sub_self] at htr
        simp only [trn] at htr
        rw [if_pos ⟨by decide, by omega⟩] at htr
        exact hT J D P j j sJ htr rJ
    | succ n ih =>
      intro j D k P J hj sJ ok rJ _ htr
      have rd : wp_X10_readsRoom_111 (fun x1 x2 x3 I => wp_X10_readsRoom_91 Post (n + 2) x1 x2 x3 I) Post (nI b) (nI m) J := by
        unfold wp_X10_readsRoom_111
        refine m_readsAsk hm (by omega) hb (hc.sm sJ) rJ ok (Or.inr (by omega)) (fun I' e s1 ht h7 => ?_) (fun I' P' s1 hh hP ok' r' T' => ?_)
        · show wp_X10_readsRoom_91 Post (n + 2) (nI b) (nI m) 0 I'
          rw [f91 (n + 1)]
          exact ⟨Or.inl rfl, hF I' e (sJ.tr s1) (htr.trans ht) h7⟩
        · exact ih (j + 1) D k P' I' (by omega) (sJ.tr s1) ok' r' (Or.inr trivial) (htr.trans T')
      unfold wp_X10_readsRoom_91
      rw [if_neg (by decide), rJ.2.2.1]
      refine t_lt P.length 1 rfl rfl (by have := ok.2.2.2.2.2.2.2.1; dsimp only at this; omega) (by decide) (fun q => rd) (fun q => ?_)
      rw [rJ.1]
      exact t_le m j rfl rfl (by omega) (by omega) (fun q => by omega) (fun _ => rd)
  -- a fault among the desks
  have f73 : ∀ (J : Mm) e, SM I J → trn c m 0 (0, [], 0, []) = (none, e) → J 100 7 = nI e → wp_X10_readsRoom_73 Post (nI b) (nI m) 0 J := by
    intro J e sJ ht h7
    unfold wp_X10_readsRoom_73
    rw [if_pos rfl]
    unfold wp_X10_readsRoom_87
    refine ⟨1, ?_⟩
    rw [f91 0]
    refine ⟨Or.inl rfl, hF _ e (sJ.tr (SM.s (Or.inl rfl))) ht ?_⟩
    rw [up2_c, upd_s, h7]
    exact Int32.add_zero _
  have f40 : ∀ n (J : Mm), wp_X10_readsRoom_40 (fun x1 x2 x3 I => wp_X10_readsRoom_73 Post x1 x2 x3 I) Post (n + 1) (nI b) (nI m) 0 J = wp_X10_readsRoom_73 Post (nI b) (nI m) 0 J := fun n J => by
    unfold wp_X10_readsRoom_40
    rw [if_pos rfl]
  have k40 : ∀ n j a D k (J : Mm), D.length + n = 4 → j ≤ m → SM I J → tok (a, D, k, []) → (a = 1 ∧ D.length = 0 ∨ a = 4 ∧ 0 < D.length) → rM J j D [] → trn c m 0 (0, [], 0, []) = trn c (m - j) j (a, D, k, []) → wp_X10_readsRoom_40 (fun x1 x2 x3 I => wp_X10_readsRoom_73 Post x1 x2 x3 I) Post (n + 2) (nI b) (nI m) 1 J := by
    intro n
    induction n with
    | zero =>
      intro j a D k J hn hj sJ ok ha rJ htr
      have ha4 : a = 4 := by omega
      subst ha4
      unfold wp_X10_readsRoom_40
      rw [if_neg (by decide), rJ.2.1]
      refine t_lt D.length 1 rfl rfl (by omega) (by decide) (fun q => by omega) (fun q => ?_)
      refine m_codeAt hm hj hb (hc.sm sJ) rJ.1 ?_
      refine t_if (fun h44 => ?_) (fun h44 => ?_)
      · show wp_X10_readsRoom_73 Post (nI b) (nI m) 1 J
        have ht5 : tst (4, D, k, []) (cdA c m j) = some (5, D, k, []) := by
          unfold tst
          dsimp only
          rw [if_neg (by decide), if_neg (by decide), if_neg (by decide), if_neg (by decide), if_pos rfl, if_neg (by rw [h44]; decide), if_pos h44]
        obtain ⟨hj1, T1⟩ := trn_some (by simp) ht5
        unfold wp_X10_readsRoom_73
        rw [if_neg (by decide)]
        unfold wp_X10_readsRoom_87
        exact ⟨_, k91 (m - (j + 1)) (j + 1) D k [] _ (by omega) (sJ.tr (SM.s (Or.inl rfl))) (tst_ok ok ht5) (rM7 rJ) (Or.inl rfl) (htr.trans T1)⟩
      · unfold wp_X10_readsRoom_63
        refine m_readsDesk hm hj hb (hc.sm sJ) rJ ok (Or.inr ⟨rfl, h44⟩) (fun I' e s1 ht h7 => ?_) (fun I' D' k' s1 hh hD' ok' _ _ => ?_)
        · show wp_X10_readsRoom_40 _ Post 1 (nI b) (nI m) 0 I'
          rw [f40 0]
          exact f73 I' e (sJ.tr s1) (htr.trans ht) h7
        · have := ok'.2.1
          dsimp only at this
          omega
    | succ n ih =>
      intro j a D k J hn hj sJ ok ha rJ htr
      have rd : (a = 1 ∨ (a = 4 ∧ cdA c m j ≠ 44)) → wp_X10_readsRoom_63 (fun x1 x2 x3 I => wp_X10_readsRoom_40 (fun x1 x2 x3 I => wp_X10_readsRoom_73 Post x1 x2 x3 I) Post (n + 2) x1 x2 x3 I) (fun x1 x2 x3 I => wp_X10_readsRoom_73 Post x1 x2 x3 I) Post (nI b) (nI m) J := by
        intro ha'
        unfold wp_X10_readsRoom_63
        refine m_readsDesk hm hj hb (hc.sm sJ) rJ ok ha' (fun I' e s1 ht h7 => ?_) (fun I' D' k' s1 hh hD' ok' r' T' => ?_)
        · show wp_X10_readsRoom_40 _ Post (n + 2) (nI b) (nI m) 0 I'
          rw [f40 (n + 1)]
          exact f73 I' e (sJ.tr s1) (htr.trans ht) h7
        · exact ih (j + 3) 4 D' k' I' (by omega) hh (sJ.tr s1) ok' (Or.inr ⟨rfl, by omega⟩) r' (htr.trans T')
      unfold wp_X10_readsRoom_40
      rw [if_neg (by decide), rJ.2.1]
      refine t_lt D.length 1 rfl rfl (by omega) (by decide) (fun q => rd (Or.inl (by omega))) (fun q => ?_)
      have ha4 : a = 4 := by omega
      subst ha4
      refine m_codeAt hm hj hb (hc.sm sJ) rJ.1 ?_
      refine t_if (fun h44 => ?_) (fun h44 => rd (Or.inr ⟨rfl, h44⟩))
      show wp_X10_readsRoom_73 Post (nI b) (nI m) 1 J
      have ht5 : tst (4, D, k, []) (cdA c m j) = some (5, D, k, []) := by
        unfold tst
        dsimp only
        rw [if_neg (by decide), if_neg (by decide), if_neg (by decide), if_neg (by decide), if_pos rfl, if_neg (by rw [h44]; decide), if_pos h44]
      obtain ⟨hj1, T1⟩ := trn_some (by simp) ht5
      unfold wp_X10_readsRoom_73
      rw [if_neg (by decide)]
      unfold wp_X10_readsRoom_87
      exact ⟨_, k91 (m - (j + 1)) (j + 1) D k [] _ (by omega) (sJ.tr (SM.s (Or.inl rfl))) (tst_ok ok ht5) (rM7 rJ) (Or.inl rfl) (htr.trans T1)⟩
  refine t_if (fun h100 => ?_) (fun h100 => ?_)
  · have ht1 : tst (0, [], 0, []) (cdA c m 0) = some (1, [], 0, []) := by
      unfold tst
      dsimp only
      rw [if_pos rfl, if_pos h100]
    obtain ⟨hj1, T1⟩ := trn_some (by simp) ht1
    rw [Nat.sub_zero] at T1
    exact ⟨_, k40 4 1 1 [] 0 _ rfl hj1 (s0.tr (SM.s (Or.inl rfl))) (tst_ok ok0 ht1) (Or.inl ⟨rfl, rfl⟩) (rM7 r0) T1⟩
  · have ht : tst (0, [], 0, []) (cdA c m 0) = none := by
      unfold tst
      dsimp only
      rw [if_pos rfl, if_neg h100]
    have := trn_none (m := m) (j := 0) (Nat.zero_le _) (by decide) (Or.inl (by decide)) ht
    rw [Nat.sub_zero] at this
    exact hF J0 0 s0 this r0.1
end TX2
