/-! a desk is asked: as numbers -/
section SRV
variable {ki : Nat → Nat} {d : Nat} {I : Mm} {D A : Nat → Int32} {f : Nat} {s : DS}
theorem erase0 (L : List Nat) : L.eraseIdx 0 = L.tail := by cases L <;> rfl
theorem getD0 (L : List Nat) : L.getD 0 0 = L.headD 0 := by cases L <;> rfl
/-- the first is used no more, and lies behind all -/
theorem p_turn {Post : Mm → Prop} (hr : rp D A f s) (hk : okD f s) (hf : f ≤ 8) (hl : 0 < s.1.length) (h : ∀ A', ar A' (s.1.tail ++ [s.1.headD 0]) → Post (mk2 I d (d + 20) (upd D 3 (nI (s.2.1 &&& (255 - 2 ^ s.1.headD 0)))) A')) : wp_X3_lieBehindAll ki d (0 : Int32) (up2 (mk2 I d (d + 20) D A) d 3 ((mk2 I d (d + 20) D A d 3) &&& (((1 : Int32) <<< ((mk2 I d (d + 20) D A (d + 20) (0 : Int32).toNatClampNeg) &&& 31)) ^^^ (-1 : Int32)))) Post := by
  have hlen : s.1.length ≤ 8 := Nat.le_trans hk.2.2.1 hf
  have hh : s.1.headD 0 < 8 := by rw [← getD0]; exact hk.2.1 _ (mem_of_getD hl)
  have e0 : (0 : Int32).toNatClampNeg = 0 := by decide
  have hv : (D 3 &&& (((1 : Int32) <<< (A 0 &&& 31)) ^^^ (-1 : Int32))) = nI (s.2.1 &&& (255 - 2 ^ s.1.headD 0)) := by
    rw [hr.2.2.1, hr.2.2.2.2 0 hl, getD0]
    exact bt_clr _ hk.2.2.2 _ hh
  rw [e0, mk2_d (dne d), mk2_r, hv, mk2_ud (dne d)]
  refine p_lie (q := 0) (len := s.1.length) (by rw [upd_n _ _ (by decide)]; exact hr.2.1) hlen hl ?_
  refine h _ ?_
  have := ar_lie hr.2.2.2.2 hl
  rw [erase0, getD0] at this
  exact this
theorem okD_tail {L : List Nat} {w m : Nat} (hk : okD f (L, w, m)) (hl : 0 < L.length) : okD f (L.tail ++ [L.headD 0], w &&& (255 - 2 ^ L.headD 0), m) := by
  obtain ⟨h1, h2, h3, h4⟩ := hk
  cases L with
  | nil => exact absurd hl (Nat.lt_irrefl 0)
  | cons a r =>
    have hnr := List.nodup_cons.mp h1
    refine ⟨?_, ?_, ?_, ?_⟩
    · show (r ++ [a]).Nodup
      rw [List.nodup_append]
      refine ⟨hnr.2, by simp, ?_⟩
      intro x hx y hy
      simp only [List.mem_singleton] at hy
      subst hy
      intro e; subst e; exact hnr.1 hx
    · intro p hp
      have hp : p ∈ r ++ [a] := hp
      rcases List.mem_append.mp hp with h | h
      · exact h2 p (List.mem_cons_of_mem _ h)
      · simp only [List.mem_singleton] at h; subst h; exact h2 p List.mem_cons_self
    · show (r ++ [a]).length ≤ f
      simpa using h3
    · exact bt_cl w h4 a (h2 a List.mem_cons_self)
theorem p_spare {m : Nat} {Post : Mm → Prop} (hf : f ≤ 8) : ∀ (n t : Nat) (L : List Nat) (w : Nat) (D A : Nat → Int32), rp D A f (L, w, m) → okD f (L, w, m) → t + n = L.length → 0 < L.length → (∀ D' A', rp D' A' f ((spr n L w).1, (spr n L w).2, m) → Post (mk2 I d (d + 20) D' A')) → wp_X0_spareUsed_2 ki d Post (n + 1) (nI t) (mk2 I d (d + 20) D A) := by
  intro n
  induction n with
  | zero =>
    intro t L w D A hr hk ht hl h
    have hlen : L.length ≤ 8 := Nat.le_trans hk.2.2.1 hf
    unfold wp_X0_spareUsed_2
    rw [mk2_d (dne d)]
    exact t_le L.length t hr.2.1 rfl (by omega) (by omega) (fun _ => h D A hr) (fun q => by omega)
  | succ n ih =>
    intro t L w D A hr hk ht hl h
    have hlen : L.length ≤ 8 := Nat.le_trans hk.2.2.1 hf
    unfold wp_X0_spareUsed_2
    rw [mk2_d (dne d)]
    refine t_le L.length t hr.2.1 rfl (by omega) (by omega) (fun q => by omega) (fun q => ?_)
    refine p_isUsed (q := 0) hr hk hf hl ?_
    rw [getD0]
    cases L with
    | nil => exact absurd hl (Nat.lt_irrefl 0)
    | cons a r =>
      show if (if w.testBit a then (1 : Int32) else 0) = 0 then _ else _
      by_cases hb : w.testBit a
      · rw [if_pos hb, if_neg (by decide)]
        refine ⟨vp0, ?_⟩
        refine p_turn (s := (a :: r, w, m)) hr hk hf hl (fun A' hA' => ?_)
        have e1 : nI t + 1 = nI (t + 1) := nI_1 t
        rw [e1]
        have hr' : rp (upd D 3 (nI (w &&& (255 - 2 ^ a)))) A' f (r ++ [a], w &&& (255 - 2 ^ a), m) := rp_A (rp_3 hr) (by simp) hA'
        refine ih (t + 1) (r ++ [a]) _ _ _ hr' (okD_tail hk hl) (by simp at ht ⊢; omega) (by simp) (fun D' A'' hr'' => h D' A'' ?_)
        simp only [spr]
        rw [if_pos hb]
        exact hr''
      · rw [if_neg hb, if_pos rfl]
        refine h D A ?_
        simp only [spr]
        rw [if_neg hb]
        exact hr
theorem spr_len {L : List Nat} {w m : Nat} (hk : okD f (L, w, m)) (hf : f ≤ 8) : spr L.length L w = spr 8 L w :=
  spr_more _ _ L w hk.1 hk.2.1 hk.2.2.2 (cntU_le L w) (Nat.le_trans (cntU_le L w) (Nat.le_trans hk.2.2.1 hf))
/-- ahead of the first one's going, by kind -/
theorem p_spareV {k m : Nat} {L : List Nat} {w : Nat} {Post : Mm → Prop} (hk3 : k < 3) (hki : ki d = kc k) (hr : rp D A f (L, w, m)) (hk : okD f (L, w, m)) (hf : f ≤ 8) (hl : 0 < L.length) (h : ∀ D' A', rp D' A' f ((if k = 1 then spr 8 L w else (L, w)).1, (if k = 1 then spr 8 L w else (L, w)).2, m) → Post (mk2 I d (d + 20) D' A')) : wpv_spareUsed ki d (mk2 I d (d + 20) D A) Post := by
  unfold wpv_spareUsed
  rw [hki]
  rcases (show k = 0 ∨ k = 1 ∨ k = 2 by omega) with rfl | rfl | rfl
  · rw [if_pos (show kc 0 = 3 from rfl)]; unfold wp_X3_spareUsed; exact h D A hr
  · rw [if_neg (by decide), if_pos (show kc 1 = 0 from rfl)]
    unfold wp_X0_spareUsed
    refine ⟨L.length + 1, p_spare hf L.length 0 L w D A hr hk (by omega) hl (fun D' A' hr' => h D' A' ?_)⟩
    rw [spr_len hk hf] at hr'
    exact hr'
  · rw [if_neg (by decide), if_neg (by decide)]; unfold wp_X5_spareUsed; exact h D A hr
theorem p_first {m : Nat} {L : List Nat} {w : Nat} {Post : Mm → Prop} (hr : rp D A f (L, w, m)) (hk : okD f (L, w, m)) (hf : f ≤ 8) (hl : 0 < L.length) (h : ∀ D' A', rp D' A' f (L.tail, w &&& (255 - 2 ^ L.headD 0), m) → Post (mk2 I d (d + 20) D' A')) : wp_X3_letFirstGo ki d (mk2 I d (d + 20) D A) Post := by
  unfold wp_X3_letFirstGo
  refine ⟨vp0, ?_⟩
  refine p_turn (s := (L, w, m)) hr hk hf hl (fun A' hA' => ?_)
  have e1 : D 2 - (1 : Int32) = nI L.tail.length := by
    rw [hr.2.1, List.length_tail]; exact pk_sub (b := 1) hl
  rw [mk2_d (dne d), upd_n _ _ (by decide), e1, mk2_ud (dne d)]
  refine h _ _ ?_
  have hA2 : ar A' L.tail := by
    intro j hj
    rw [hA' j (by rw [List.length_append]; exact Nat.lt_of_lt_of_le hj (Nat.le_add_right _ _))]
    congr 1
    simp [List.getD_eq_getElem?_getD, List.getElem?_append_left hj]
  exact rp_2 (L := L.tail) (rp_3 (w' := w &&& (255 - 2 ^ L.headD 0)) hr) hA2
theorem stp_hit {k p : Nat} (h : p ∈ s.1) : stp k f s p = (if k = 0 then s else if k = 1 then (s.1, s.2.1 ||| 2 ^ p, s.2.2) else (s.1.eraseIdx (s.1.idxOf p) ++ [p], s.2.1 ||| 2 ^ p, s.2.2)) := by
  unfold stp; rw [if_pos h]
theorem stp_free {k p : Nat} (h : p ∉ s.1) (hl : s.1.length < f) : stp k f s p = (s.1 ++ [p], s.2.1, s.2.2 + 1) := by
  unfold stp; rw [if_neg h, if_pos hl]
theorem stp_full {k p : Nat} (h : p ∉ s.1) (hl : ¬ s.1.length < f) : stp k f s p = ((gone k s.1 s.2.1).1 ++ [p], (gone k s.1 s.2.1).2, s.2.2 + 1) := by
  unfold stp; rw [if_neg h, if_neg hl]
theorem gone_len {k : Nat} (hk : okD f s) : (gone k s.1 s.2.1).1.length = s.1.length - 1 := by
  unfold gone
  by_cases h : k = 1
  · simp only [h, if_true]
    rw [List.length_tail, (spr_ok 8 s.1 s.2.1 hk.1 hk.2.1 hk.2.2.2).2.2.1]
  · simp only [h, if_false]; rw [List.length_tail]
theorem idx_lt {L : List Nat} {p : Nat} (h : p ∈ L) : L.idxOf p < L.length ∧ L.getD (L.idxOf p) 0 = p := by
  obtain ⟨j, hj, e⟩ := getD_of_mem h
  obtain ⟨i, hi, hm⟩ := pk_least (fun j => j < L.length ∧ L.getD j 0 = p) ⟨j, hj, e⟩
  have := idx_first L p i hi.1 (fun q hq hqe => hm q hq ⟨by omega, hqe⟩) hi.2
  rw [this]; exact hi
/-- what lies behind all, when there is room -/
theorem p_put {p : Nat} {L : List Nat} {w m : Nat} {Post : Int32 → Mm → Prop} (hr : rp D A f (L, w, m)) (hl : L.length < 8) (h : ∀ D' A', rp D' A' f (L ++ [p], w, m) → Post 0 (mk2 I d (d + 20) D' A')) : wp_X3_serve_48 ki d Post (nI p) (mk2 I d (d + 20) D A) := by
  unfold wp_X3_serve_48
  have e2 : D 2 = nI L.length := hr.2.1
  rw [mk2_d (dne d), e2]
  refine ⟨vp_in_nI hl (by decide), ?_⟩
  have e3 : nI L.length + (1 : Int32) = nI (L ++ [p]).length := by rw [List.length_append]; exact nI_1 _
  rw [nI_clamp (by omega), mk2_ur, mk2_d (dne d), e2, e3, mk2_ud (dne d)]
  exact h _ _ (rp_2 hr (ar_push hr.2.2.2.2 p))
theorem p_serve {k p : Nat} {Post : Int32 → Mm → Prop} (hk3 : k < 3) (hki : ki d = kc k) (hr : rp D A f s) (hk : okD f s) (hf : f ≤ 8) (hf1 : 1 ≤ f) (hp : p < 8) (h : ∀ D' A', rp D' A' f (stp k f s p) → Post (if p ∈ s.1 then 1 else 0) (mk2 I d (d + 20) D' A')) : wp_X3_serve ki d (nI p) (mk2 I d (d + 20) D A) Post := by
  have hlen : s.1.length ≤ 8 := Nat.le_trans hk.2.2.1 hf
  obtain ⟨L, w, m⟩ := s
  unfold wp_X3_serve
  refine p_placeOf hr hk hf hp ?_
  by_cases hm : p ∈ L
  · have hq := idx_lt hm
    rw [if_pos hm, if_neg (show ¬ nI (L.idxOf p) = (-9 : Int32) from fun e => by
      have := congrArg Int32.toInt e
      rw [nI_toInt (show L.idxOf p < 2 ^ 31 by have := hq.1; simp at hlen; omega)] at this
      have h9 : (-9 : Int32).toInt = -9 := by decide
      rw [h9] at this; omega)]
    rw [if_pos hm, stp_hit (s := (L, w, m)) hm] at h
    unfold wpv_use
    rw [hki]
    have hw : w < 256 := hk.2.2.2
    have hu : ∀ J : Mm, J = mk2 I d (d + 20) (upd D 3 (nI (w ||| 2 ^ p))) A → up2 (mk2 I d (d + 20) D A) d 3 ((mk2 I d (d + 20) D A d 3) ||| ((1 : Int32) <<< ((mk2 I d (d + 20) D A (d + 20) (nI (L.idxOf p)).toNatClampNeg) &&& 31))) = J := by
      intro J hJ
      have hq1 : L.idxOf p < 8 := Nat.lt_of_lt_of_le hq.1 hlen
      rw [nI_clamp (by omega), mk2_d (dne d), mk2_r, hr.2.2.2.2 _ hq.1, hr.2.2.1, hq.2, mk2_ud (dne d), hJ]
      have := bt_set w hw p hp
      unfold bt1 at this
      rw [this]
    rcases (show k = 0 ∨ k = 1 ∨ k = 2 by omega) with rfl | rfl | rfl
    · rw [if_pos (show kc 0 = 3 from rfl)]; unfold wp_X3_use; exact h D A hr
    · rw [if_neg (by decide), if_pos (show kc 1 = 0 from rfl)]
      unfold wp_X0_use
      refine ⟨vp_in_nI (Nat.lt_of_lt_of_le hq.1 hlen) (by decide), ?_⟩
      rw [hu _ rfl]
      exact h _ _ (rp_3 hr)
    · rw [if_neg (by decide), if_neg (by decide)]
      unfold wp_X5_use wp_X0_use
      refine ⟨vp_in_nI (Nat.lt_of_lt_of_le hq.1 hlen) (by decide), ?_⟩
      rw [hu _ rfl]
      refine p_lie (len := L.length) (by rw [upd_n _ _ (by decide)]; exact hr.2.1) hlen hq.1 ?_
      refine h _ _ ?_
      have ha := ar_lie hr.2.2.2.2 hq.1
      rw [hq.2] at ha
      refine rp_A (rp_3 hr) ?_ ha
      show (L.eraseIdx (L.idxOf p) ++ [p]).length = L.length
      rw [List.length_append, List.length_eraseIdx, if_pos hq.1]
      have := hq.1
      simp; omega
  · rw [if_neg hm, if_pos rfl]
    rw [if_neg hm] at h
    have e4 : D 4 + (1 : Int32) = nI (m + 1) := by rw [hr.2.2.2.1]; exact nI_1 m
    rw [mk2_d (dne d), e4, mk2_ud (dne d), mk2_d (dne d), upd_n _ _ (by decide), upd_n _ _ (by decide)]
    have hr4 : rp (upd D 4 (nI (m + 1))) A f (L, w, m + 1) := rp_4 hr
    have hk4 : okD f (L, w, m + 1) := hk
    refine t_lt L.length f hr.2.1 hr.1 (by simp at hlen; omega) (by omega) (fun hl => ?_) (fun hl => ?_)
    · refine p_put hr4 (by omega) (fun D' A' hr' => h D' A' ?_)
      rw [stp_free (s := (L, w, m)) hm hl]; exact hr'
    · have hl0 : 0 < L.length := by omega
      refine p_spareV hk3 hki hr4 hk4 hf hl0 (fun D1 A1 hr1 => ?_)
      have hk1 : okD f ((if k = 1 then spr 8 L w else (L, w)).1, (if k = 1 then spr 8 L w else (L, w)).2, m + 1) ∧ (if k = 1 then spr 8 L w else (L, w)).1.length = L.length := by
        by_cases hk1 : k = 1
        · rw [if_pos hk1]
          have := spr_ok 8 L w hk.1 hk.2.1 hk.2.2.2
          exact ⟨⟨this.1, this.2.1, by show (spr 8 L w).1.length ≤ f; rw [this.2.2.1]; exact hk.2.2.1, this.2.2.2⟩, this.2.2.1⟩
        · rw [if_neg hk1]; exact ⟨hk4, rfl⟩
      refine p_first hr1 hk1.1 hf (by rw [hk1.2]; exact hl0) (fun D2 A2 hr2 => ?_)
      refine p_put hr2 ?_ (fun D' A' hr' => h D' A' ?_)
      · rw [List.length_tail, hk1.2]; simp at hlen; omega
      · rw [stp_full (s := (L, w, m)) hm (by show ¬ L.length < f; omega)]; exact hr'
end SRV
