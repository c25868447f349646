/-! THE CLASS'S DESKS: what their methods do, as numbers -/
def rp (D A : Nat → Int32) (f : Nat) (s : DS) : Prop := D 1 = nI f ∧ D 2 = nI s.1.length ∧ D 3 = nI s.2.1 ∧ D 4 = nI s.2.2 ∧ ar A s.1
theorem dne (d : Nat) : d ≠ d + 20 := by omega
theorem rp_1 {D A : Nat → Int32} {f g : Nat} {s : DS} (h : rp D A f s) : rp (upd D 1 (nI g)) A g s := ⟨upd_s _ _ _, by rw [upd_n _ _ (by decide)]; exact h.2.1, by rw [upd_n _ _ (by decide)]; exact h.2.2.1, by rw [upd_n _ _ (by decide)]; exact h.2.2.2.1, h.2.2.2.2⟩
theorem rp_3 {D A : Nat → Int32} {f w' : Nat} {s : DS} (h : rp D A f s) : rp (upd D 3 (nI w')) A f (s.1, w', s.2.2) := ⟨by rw [upd_n _ _ (by decide)]; exact h.1, by rw [upd_n _ _ (by decide)]; exact h.2.1, upd_s _ _ _, by rw [upd_n _ _ (by decide)]; exact h.2.2.2.1, h.2.2.2.2⟩
theorem rp_4 {D A : Nat → Int32} {f m' : Nat} {s : DS} (h : rp D A f s) : rp (upd D 4 (nI m')) A f (s.1, s.2.1, m') := ⟨by rw [upd_n _ _ (by decide)]; exact h.1, by rw [upd_n _ _ (by decide)]; exact h.2.1, by rw [upd_n _ _ (by decide)]; exact h.2.2.1, upd_s _ _ _, h.2.2.2.2⟩
theorem rp_A {D A A' : Nat → Int32} {f : Nat} {s : DS} {L : List Nat} (h : rp D A f s) (hl : L.length = s.1.length) (ha : ar A' L) : rp D A' f (L, s.2.1, s.2.2) := ⟨h.1, by rw [h.2.1, ← hl], h.2.2.1, h.2.2.2.1, ha⟩
theorem vp0 : vp_in (0 : Int32) 8 := vp_in_nI (n := 0) (by decide) (by decide)
theorem rp_2 {D A A' : Nat → Int32} {f : Nat} {s : DS} {L : List Nat} (h : rp D A f s) (ha : ar A' L) : rp (upd D 2 (nI L.length)) A' f (L, s.2.1, s.2.2) := ⟨by rw [upd_n _ _ (by decide)]; exact h.1, upd_s _ _ _, by rw [upd_n _ _ (by decide)]; exact h.2.2.1, by rw [upd_n _ _ (by decide)]; exact h.2.2.2.1, ha⟩
theorem idx_first : ∀ (L : List Nat) (p j : Nat), j < L.length → (∀ i, i < j → L.getD i 0 ≠ p) → L.getD j 0 = p → L.idxOf p = j := by
  intro L
  induction L with
  | nil => intro p j h; exact absurd h (Nat.not_lt_zero _)
  | cons a r ih =>
    intro p j h h1 h2
    cases j with
    | zero =>
      have : a = p := by simpa using h2
      subst this
      simp [List.idxOf_cons]
    | succ j =>
      have ha : a ≠ p := by simpa using h1 0 (by omega)
      have := ih p j (by simpa using h) (fun i hi => by simpa using h1 (i + 1) (by omega)) (by simpa using h2)
      have hb : (a == p) = false := by simpa using ha
      simp [List.idxOf_cons, hb, this]
theorem mem_of_getD {L : List Nat} {j : Nat} (h : j < L.length) : L.getD j 0 ∈ L := by
  rw [List.getD_eq_getElem?_getD, List.getElem?_eq_getElem h]
  exact List.getElem_mem h
theorem getD_of_mem {L : List Nat} {p : Nat} (h : p ∈ L) : ∃ j, j < L.length ∧ L.getD j 0 = p := by
  obtain ⟨j, hj, e⟩ := List.getElem_of_mem h
  exact ⟨j, hj, by rw [List.getD_eq_getElem?_getD, List.getElem?_eq_getElem hj]; exact e⟩
section DESK
variable {ki : Nat → Nat} {d : Nat} {I : Mm} {D A : Nat → Int32} {f : Nat} {s : DS}
theorem p_placeOf {p : Nat} {Post : Int32 → Mm → Prop} (hr : rp D A f s) (hk : okD f s) (hf : f ≤ 8) (hp : p < 8) (h : Post (if p ∈ s.1 then nI (s.1.idxOf p) else (-9)) (mk2 I d (d + 20) D A)) : wp_X3_placeOf ki d (nI p) (mk2 I d (d + 20) D A) Post := by
  have hlen : s.1.length ≤ 8 := Nat.le_trans hk.2.2.1 hf
  have key : ∀ n j, j + n = s.1.length → (∀ i, i < j → s.1.getD i 0 ≠ p) → wp_X3_placeOf_2 ki d Post (n + 1) (nI p) (nI j) (mk2 I d (d + 20) D A) := by
    intro n
    induction n with
    | zero =>
      intro j hj hn
      unfold wp_X3_placeOf_2
      rw [mk2_d (dne d)]
      refine t_le s.1.length j hr.2.1 rfl (by omega) (by omega) (fun _ => ?_) (fun q => by omega)
      have : p ∉ s.1 := fun hm => by
        obtain ⟨i, hi, e⟩ := getD_of_mem hm
        exact hn i (by omega) e
      rw [if_neg this] at h
      exact h
    | succ n ih =>
      intro j hj hn
      unfold wp_X3_placeOf_2
      rw [mk2_d (dne d)]
      refine t_le s.1.length j hr.2.1 rfl (by omega) (by omega) (fun q => by omega) (fun q => ?_)
      refine ⟨vp_in_nI (by omega) (by decide), ?_⟩
      rw [mk2_r, nI_clamp (by omega), hr.2.2.2.2 j q]
      have hv := hk.2.1 _ (mem_of_getD q)
      refine t_eq (s.1.getD j 0) p rfl rfl (by omega) (by omega) (fun e => ?_) (fun e => ?_)
      · have hi := idx_first s.1 p j q hn e
        rw [if_pos (by rw [← e]; exact mem_of_getD q), hi] at h
        exact h
      · rw [nI_1]
        refine ih (j + 1) (by omega) (fun i hi => ?_)
        rcases Nat.lt_or_ge i j with q2 | q2
        · exact hn i q2
        · have : i = j := by omega
          rw [this]; exact e
  unfold wp_X3_placeOf
  exact ⟨s.1.length + 1, key s.1.length 0 (by omega) (fun i hi => absurd hi (Nat.not_lt_zero _))⟩
theorem p_lie {q len : Nat} {Post : Mm → Prop} (h2 : D 2 = nI len) (hl : len ≤ 8) (hq : q < len) (h : Post (mk2 I d (d + 20) D (upd (shf A q (len - 1)) (len - 1) (A q)))) : wp_X3_lieBehindAll ki d (nI q) (mk2 I d (d + 20) D A) Post := by
  have hs : D 2 - (1 : Int32) = nI (len - 1) := by rw [h2]; exact pk_sub (b := 1) (by omega)
  have key : ∀ n j (A : Nat → Int32) (v : Int32), j + n = len - 1 → Post (mk2 I d (d + 20) D (upd (shf A j (len - 1)) (len - 1) v)) → wp_X3_lieBehindAll_9 ki d Post (n + 1) v (nI j) (mk2 I d (d + 20) D A) := by
    intro n
    induction n with
    | zero =>
      intro j A v hj h
      unfold wp_X3_lieBehindAll_9
      rw [mk2_d (dne d), hs]
      refine t_le (len - 1) j rfl rfl (by omega) (by omega) (fun _ => ?_) (fun q => by omega)
      refine ⟨vp_in_nI (by omega) (by decide), ?_⟩
      rw [nI_clamp (by omega), mk2_ur]
      rw [shf_0 A (show len - 1 ≤ j by omega)] at h
      exact h
    | succ n ih =>
      intro j A v hj h
      unfold wp_X3_lieBehindAll_9
      rw [mk2_d (dne d), hs]
      refine t_le (len - 1) j rfl rfl (by omega) (by omega) (fun q => by omega) (fun q => ?_)
      have e1 : nI j + (1 : Int32) = nI (j + 1) := nI_1 j
      rw [e1]
      refine ⟨vp_in_nI (by omega) (by decide), vp_in_nI (by omega) (by decide), ?_⟩
      rw [nI_clamp (by omega), nI_clamp (by omega), mk2_r, mk2_ur]
      refine ih (j + 1) _ v (by omega) ?_
      rw [shf_1 A q]
      exact h
  unfold wp_X3_lieBehindAll
  refine ⟨vp_in_nI (by omega) (by decide), len - 1 - q + 1, ?_⟩
  rw [mk2_r, nI_clamp (by omega)]
  exact key (len - 1 - q) q A (A q) (by omega) h
/-- the row behind lieBehindAll -/
theorem ar_lie {L : List Nat} (h : ar A L) {q : Nat} (hq : q < L.length) : ar (upd (shf A q (L.length - 1)) (L.length - 1) (A q)) (L.eraseIdx q ++ [L.getD q 0]) := by
  have h1 := ar_shf h hq
  have hl : (L.eraseIdx q).length = L.length - 1 := by rw [List.length_eraseIdx, if_pos hq]
  have := ar_push h1 (L.getD q 0)
  rw [hl] at this
  rw [h q hq]
  exact this
theorem p_isUsed {q : Nat} {Post : Int32 → Mm → Prop} (hr : rp D A f s) (hk : okD f s) (hf : f ≤ 8) (hq : q < s.1.length) (h : Post (if s.2.1.testBit (s.1.getD q 0) then 1 else 0) (mk2 I d (d + 20) D A)) : wp_X3_isUsed ki d (nI q) (mk2 I d (d + 20) D A) Post := by
  have hlen : s.1.length ≤ 8 := Nat.le_trans hk.2.2.1 hf
  unfold wp_X3_isUsed
  refine ⟨vp_in_nI (by omega) (by decide), ?_⟩
  have hv := hk.2.1 _ (mem_of_getD hq)
  rw [mk2_d (dne d), mk2_r, nI_clamp (by omega), hr.2.2.2.2 q hq, hr.2.2.1, bt_tst _ hk.2.2.2 _ hv]
  by_cases hb : s.2.1.testBit (s.1.getD q 0)
  · rw [if_pos hb] at h ⊢
    rw [if_pos (by decide)]
    exact h
  · rw [if_neg hb] at h ⊢
    rw [if_neg (by decide)]
    exact h
end DESK
