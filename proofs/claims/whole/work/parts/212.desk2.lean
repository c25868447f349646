/-! more of a desk: what holds always; who would go; the set of its pages; cleared; copied -/
theorem nodup_push {L : List Nat} {p : Nat} (h : L.Nodup) (hp : p ∉ L) : (L ++ [p]).Nodup := by
  rw [List.nodup_append]
  refine ⟨h, by simp, ?_⟩
  intro x hx y hy
  simp only [List.mem_singleton] at hy
  subst hy
  intro e; subst e; exact hp hx
theorem nodup_tail {L : List Nat} (h : L.Nodup) : L.tail.Nodup := by
  cases L with
  | nil => exact h
  | cons a r => exact (List.nodup_cons.mp h).2
theorem mem_tail {L : List Nat} {p : Nat} (h : p ∈ L.tail) : p ∈ L := by
  cases L with
  | nil => exact h
  | cons a r => exact List.mem_cons_of_mem _ h
theorem spr_mem : ∀ (n : Nat) (L : List Nat) (w p : Nat), p ∈ (spr n L w).1 ↔ p ∈ L := by
  intro n
  induction n with
  | zero => intro L w p; rfl
  | succ n ih =>
    intro L w p
    cases L with
    | nil => rfl
    | cons a r =>
      simp only [spr]
      by_cases hb : w.testBit a
      · rw [if_pos hb, ih]; simp [or_comm]
      · rw [if_neg hb]
theorem gone_ok {k f : Nat} {s : DS} (hk : okD f s) : (gone k s.1 s.2.1).1.Nodup ∧ (∀ p ∈ (gone k s.1 s.2.1).1, p ∈ s.1) ∧ (gone k s.1 s.2.1).2 < 256 := by
  have hs := spr_ok 8 s.1 s.2.1 hk.1 hk.2.1 hk.2.2.2
  unfold gone
  by_cases h : k = 1
  · simp only [h, if_true]
    refine ⟨nodup_tail hs.1, fun p hp => (spr_mem 8 s.1 s.2.1 p).mp (mem_tail hp), ?_⟩
    by_cases hl : 0 < (spr 8 s.1 s.2.1).1.length
    · exact bt_cl _ hs.2.2.2 _ (by rw [← getD0]; exact hs.2.1 _ (mem_of_getD hl))
    · have : (spr 8 s.1 s.2.1).1 = [] := List.eq_nil_of_length_eq_zero (by omega)
      rw [this]; exact bt_cl _ hs.2.2.2 0 (by decide)
  · simp only [h, if_false]
    refine ⟨nodup_tail hk.1, fun p hp => mem_tail hp, ?_⟩
    by_cases hl : 0 < s.1.length
    · exact bt_cl _ hk.2.2.2 _ (by rw [← getD0]; exact hk.2.1 _ (mem_of_getD hl))
    · have : s.1 = [] := List.eq_nil_of_length_eq_zero (by omega)
      rw [this]; exact bt_cl _ hk.2.2.2 0 (by decide)
theorem stp_ok {k f p : Nat} {s : DS} (hk : okD f s) (hf1 : 1 ≤ f) (hp : p < 8) : okD f (stp k f s p) := by
  obtain ⟨L, w, m⟩ := s
  obtain ⟨h1, h2, h3, h4⟩ := id hk
  by_cases hm : p ∈ L
  · rw [stp_hit (s := (L, w, m)) hm]
    by_cases h0 : k = 0
    · rw [if_pos h0]; exact hk
    · rw [if_neg h0]
      by_cases h1' : k = 1
      · rw [if_pos h1']; exact ⟨h1, h2, h3, bt_sl w h4 p hp⟩
      · rw [if_neg h1']
        have hq := idx_lt hm
        refine ⟨?_, ?_, ?_, bt_sl w h4 p hp⟩
        · show (L.eraseIdx (L.idxOf p) ++ [p]).Nodup
          refine nodup_push (h1.sublist (List.eraseIdx_sublist L _)) (fun hx => ?_)
          rw [← List.erase_eq_eraseIdx_of_idxOf (l := L) (a := p) rfl] at hx
          exact List.Nodup.not_mem_erase h1 hx
        · intro x hx
          have hx : x ∈ L.eraseIdx (L.idxOf p) ++ [p] := hx
          rcases List.mem_append.mp hx with h | h
          · exact h2 x ((List.eraseIdx_sublist L _).subset h)
          · simp only [List.mem_singleton] at h; subst h; exact hp
        · show (L.eraseIdx (L.idxOf p) ++ [p]).length ≤ f
          rw [List.length_append, List.length_eraseIdx, if_pos hq.1]
          have := hq.1
          simp at h3 ⊢; omega
  · by_cases hl : L.length < f
    · rw [stp_free (s := (L, w, m)) hm hl]
      refine ⟨nodup_push h1 hm, ?_, ?_, h4⟩
      · intro x hx
        have hx : x ∈ L ++ [p] := hx
        rcases List.mem_append.mp hx with h | h
        · exact h2 x h
        · simp only [List.mem_singleton] at h; subst h; exact hp
      · show (L ++ [p]).length ≤ f
        simp; omega
    · rw [stp_full (s := (L, w, m)) hm hl]
      have hg := gone_ok (k := k) hk
      refine ⟨nodup_push hg.1 (fun hx => hm (hg.2.1 p hx)), ?_, ?_, hg.2.2⟩
      · intro x hx
        have hx : x ∈ (gone k L w).1 ++ [p] := hx
        rcases List.mem_append.mp hx with h | h
        · exact h2 x (hg.2.1 x h)
        · simp only [List.mem_singleton] at h; subst h; exact hp
      · show ((gone k L w).1 ++ [p]).length ≤ f
        rw [List.length_append, gone_len (s := (L, w, m)) hk]
        simp at h3 ⊢; omega
theorem ply_ok {k f : Nat} (hf1 : 1 ≤ f) : ∀ (l : List Nat) (s : DS), okD f s → (∀ p ∈ l, p < 8) → okD f (l.foldl (stp k f) s) := by
  intro l
  induction l with
  | nil => intro s h _; exact h
  | cons a r ih => intro s h hl; exact ih _ (stp_ok h hf1 (hl a List.mem_cons_self)) (fun p hp => hl p (List.mem_cons_of_mem _ hp))
theorem ok0 (f : Nat) : okD f ([], 0, 0) := ⟨List.nodup_nil, fun _ h => absurd h List.not_mem_nil, Nat.zero_le _, by decide⟩
/-- misses are no more than asks -/
theorem stp_miss (k f : Nat) (s : DS) (p : Nat) : (stp k f s p).2.2 ≤ s.2.2 + 1 ∧ s.2.2 ≤ (stp k f s p).2.2 := by
  unfold stp
  by_cases h : p ∈ s.1
  · rw [if_pos h]
    by_cases h0 : k = 0
    · rw [if_pos h0]; omega
    · rw [if_neg h0]
      by_cases h1 : k = 1
      · rw [if_pos h1]; simp
      · rw [if_neg h1]; simp
  · rw [if_neg h]; simp
theorem ply_miss (k f : Nat) : ∀ (l : List Nat) (s : DS), (l.foldl (stp k f) s).2.2 ≤ s.2.2 + l.length := by
  intro l
  induction l with
  | nil => intro s; simp
  | cons a r ih => intro s; have := ih (stp k f s a); have h2 := (stp_miss k f s a).1; simp only [List.foldl_cons, List.length_cons]; omega
/-- the set of pages of a list -/
def setL (L : List Nat) : Nat := L.foldl (fun w p => w ||| 2 ^ p) 0
theorem setL_lt : ∀ (L : List Nat) (w : Nat), w < 256 → (∀ p ∈ L, p < 8) → L.foldl (fun w p => w ||| 2 ^ p) w < 256 := by
  intro L
  induction L with
  | nil => intro w h _; exact h
  | cons a r ih => intro w h hl; exact ih _ (bt_sl w h a (hl a List.mem_cons_self)) (fun p hp => hl p (List.mem_cons_of_mem _ hp))
theorem setL_app (L : List Nat) (w p : Nat) : (L ++ [p]).foldl (fun w p => w ||| 2 ^ p) w = (L.foldl (fun w p => w ||| 2 ^ p) w) ||| 2 ^ p := by simp
theorem take_succ_getD {L : List Nat} {j : Nat} (h : j < L.length) : L.take (j + 1) = L.take j ++ [L.getD j 0] := by
  rw [List.take_add_one, List.getD_eq_getElem?_getD, List.getElem?_eq_getElem h]; rfl
/-- who would go: of a full desk -/
def goP (k : Nat) (s : DS) : Nat := if k = 1 then (match s.1.find? (fun a => !s.2.1.testBit a) with | some a => a | none => s.1.headD 0) else s.1.headD 0
def goV (k f : Nat) (s : DS) : Int32 := if s.1.length < f then -9 else nI (goP k s)
theorem find_first : ∀ (L : List Nat) (w j : Nat), j < L.length → (∀ i, i < j → w.testBit (L.getD i 0) = true) → w.testBit (L.getD j 0) = false → L.find? (fun a => !w.testBit a) = some (L.getD j 0) := by
  intro L w
  induction L with
  | nil => intro j h; exact absurd h (Nat.not_lt_zero _)
  | cons a r ih =>
    intro j h h1 h2
    cases j with
    | zero =>
      have : w.testBit a = false := by simpa using h2
      simp [List.find?_cons, this]
    | succ j =>
      have ha : w.testBit a = true := by simpa using h1 0 (by omega)
      have := ih j (by simpa using h) (fun i hi => by simpa using h1 (i + 1) (by omega)) (by simpa using h2)
      simp [List.find?_cons, ha]
      simpa using this
theorem find_none {L : List Nat} {w : Nat} (h : ∀ i, i < L.length → w.testBit (L.getD i 0) = true) : L.find? (fun a => !w.testBit a) = none := by
  rw [List.find?_eq_none]
  intro x hx
  obtain ⟨i, hi, e⟩ := getD_of_mem hx
  have := h i hi
  rw [e] at this
  simp [this]
section DK2
variable {ki : Nat → Nat} {d : Nat} {I : Mm} {D A : Nat → Int32} {f : Nat} {s : DS}
theorem p_pages {Post : Int32 → Mm → Prop} (hr : rp D A f s) (hk : okD f s) (hf : f ≤ 8) (h : Post (nI (setL s.1)) (mk2 I d (d + 20) D A)) : wp_X3_pages ki d (mk2 I d (d + 20) D A) Post := by
  have hlen : s.1.length ≤ 8 := Nat.le_trans hk.2.2.1 hf
  have key : ∀ n j, j + n = s.1.length → wp_X3_pages_4 ki d Post (n + 1) (nI (setL (s.1.take j))) (nI j) (mk2 I d (d + 20) D A) := by
    intro n
    induction n with
    | zero =>
      intro j hj
      unfold wp_X3_pages_4
      rw [mk2_d (dne d)]
      refine t_le s.1.length j hr.2.1 rfl (by omega) (by omega) (fun _ => ?_) (fun q => by omega)
      rw [List.take_of_length_le (by omega)]; exact h
    | succ n ih =>
      intro j hj
      unfold wp_X3_pages_4
      rw [mk2_d (dne d)]
      refine t_le s.1.length j hr.2.1 rfl (by omega) (by omega) (fun q => by omega) (fun q => ?_)
      refine ⟨vp_in_nI (by omega) (by decide), ?_⟩
      rw [mk2_r, nI_clamp (by omega), hr.2.2.2.2 j q]
      have hv := hk.2.1 _ (mem_of_getD q)
      have hw : setL (s.1.take j) < 256 := setL_lt _ 0 (by decide) (fun p hp => hk.2.1 p (List.mem_of_mem_take hp))
      have e : nI (setL (s.1.take j)) ||| ((1 : Int32) <<< (nI (s.1.getD j 0) &&& 31)) = nI (setL (s.1.take (j + 1))) := by
        rw [take_succ_getD q]
        unfold setL
        rw [setL_app]
        exact bt_set _ hw _ hv
      rw [e, show nI j + 1 = nI (j + 1) from nI_1 j]
      exact ih (j + 1) (by omega)
  unfold wp_X3_pages
  exact ⟨s.1.length + 1, key s.1.length 0 (by omega)⟩
theorem p_next {k : Nat} {Post : Int32 → Mm → Prop} (hk3 : k < 3) (hki : ki d = kc k) (hr : rp D A f s) (hk : okD f s) (hf : f ≤ 8) (hf1 : 1 ≤ f) (h : Post (goV k f s) (mk2 I d (d + 20) D A)) : wp_X3_nextToGo ki d (mk2 I d (d + 20) D A) Post := by
  have hlen : s.1.length ≤ 8 := Nat.le_trans hk.2.2.1 hf
  unfold wp_X3_nextToGo
  rw [mk2_d (dne d)]
  unfold goV at h
  refine t_le f s.1.length hr.1 hr.2.1 (by omega) (by omega) (fun hl => ?_) (fun hl => ?_)
  · rw [if_neg (by omega)] at h
    have fin0 : goP k s = s.1.headD 0 → (vp_in (0 : Int32) 8 ∧ Post (mk2 I d (d + 20) D A (d + 20) (0 : Int32).toNatClampNeg) (mk2 I d (d + 20) D A)) := by
      intro e
      refine ⟨vp0, ?_⟩
      rw [mk2_r, show (0 : Int32).toNatClampNeg = 0 by decide, hr.2.2.2.2 0 (by omega), getD0, ← e]
      exact h
    unfold wpv_placeToGo
    rw [hki]
    rcases (show k = 0 ∨ k = 1 ∨ k = 2 by omega) with rfl | rfl | rfl
    · rw [if_pos (show kc 0 = 3 from rfl)]; unfold wp_X3_placeToGo; exact fin0 rfl
    · rw [if_neg (by decide), if_pos (show kc 1 = 0 from rfl)]
      have key : ∀ n j, j + n = s.1.length → (∀ i, i < j → s.2.1.testBit (s.1.getD i 0) = true) → wp_X0_placeToGo_2 ki d (fun r1 J2 => vp_in r1 8 ∧ (Post (J2 (d + 20) r1.toNatClampNeg) J2)) (n + 1) (nI j) (mk2 I d (d + 20) D A) := by
        intro n
        induction n with
        | zero =>
          intro j hj hn
          unfold wp_X0_placeToGo_2
          rw [mk2_d (dne d)]
          refine t_le s.1.length j hr.2.1 rfl (by omega) (by omega) (fun _ => ?_) (fun q => by omega)
          refine fin0 ?_
          have hn' := find_none (L := s.1) (w := s.2.1) (fun i hi => hn i (by omega))
          unfold goP
          rw [if_pos rfl, hn']
        | succ n ih =>
          intro j hj hn
          unfold wp_X0_placeToGo_2
          rw [mk2_d (dne d)]
          refine t_le s.1.length j hr.2.1 rfl (by omega) (by omega) (fun q => by omega) (fun q => ?_)
          refine p_isUsed hr hk hf q ?_
          by_cases hb : s.2.1.testBit (s.1.getD j 0)
          · rw [if_pos hb, if_neg (by decide), show nI j + 1 = nI (j + 1) from nI_1 j]
            refine ih (j + 1) (by omega) (fun i hi => ?_)
            rcases Nat.lt_or_ge i j with q2 | q2
            · exact hn i q2
            · have : i = j := by omega
              rw [this]; exact hb
          · rw [if_neg hb, if_pos rfl]
            refine ⟨vp_in_nI (by omega) (by decide), ?_⟩
            rw [mk2_r, nI_clamp (by omega), hr.2.2.2.2 j q]
            have hf' := find_first s.1 s.2.1 j q hn (by simpa using hb)
            unfold goP at h
            rw [if_pos rfl, hf'] at h
            exact h
      unfold wp_X0_placeToGo
      exact ⟨s.1.length + 1, key s.1.length 0 (by omega) (fun i hi => absurd hi (Nat.not_lt_zero _))⟩
    · rw [if_neg (by decide), if_neg (by decide)]; unfold wp_X5_placeToGo; exact fin0 rfl
  · rw [if_pos (by omega)] at h; exact h
theorem p_clear {g : Nat} {Post : Mm → Prop} (h : ∀ D', rp D' A g ([], 0, 0) → Post (mk2 I d (d + 20) D' A)) : wp_X3_clear ki d (nI g) (mk2 I d (d + 20) D A) Post := by
  unfold wp_X3_clear
  rw [mk2_ud (dne d), mk2_ud (dne d), mk2_ud (dne d), mk2_ud (dne d)]
  refine h _ ⟨?_, ?_, ?_, ?_, ar_nil A⟩
  · rw [upd_n _ _ (by decide), upd_n _ _ (by decide), upd_n _ _ (by decide), upd_s]
  · rw [upd_n _ _ (by decide), upd_n _ _ (by decide), upd_s]; rfl
  · rw [upd_n _ _ (by decide), upd_s]; rfl
  · rw [upd_s]; rfl
theorem p_kind {k : Nat} {Post : Int32 → Mm → Prop} (hk3 : k < 3) (hki : ki d = kc k) (h : Post (nI k) I) : wpv_kind ki d I Post := by
  unfold wpv_kind
  rw [hki]
  rcases (show k = 0 ∨ k = 1 ∨ k = 2 by omega) with rfl | rfl | rfl
  · rw [if_pos (show kc 0 = 3 from rfl)]; unfold wp_X3_kind; exact h
  · rw [if_neg (by decide), if_pos (show kc 1 = 0 from rfl)]; unfold wp_X0_kind; exact h
  · rw [if_neg (by decide), if_neg (by decide)]; unfold wp_X5_kind; exact h
/-- another desk's numbers are taken over -/
theorem p_become {o : Nat} {Post : Mm → Prop} (h1 : o ≠ d) (h2 : o ≠ d + 20) (hr : rp (I o) (I (o + 20)) f s) (hk : okD f s) (hf : f ≤ 8) (h : ∀ D' A', rp D' A' f s → Post (mk2 I d (d + 20) D' A')) : wp_X3_become ki d o I Post := by
  have hlen : s.1.length ≤ 8 := Nat.le_trans hk.2.2.1 hf
  unfold wp_X3_become
  refine ⟨by decide, ?_⟩
  have e0 : (0 : Int32).toNatClampNeg = 0 := by decide
  have e8 : (8 : Int32).toNatClampNeg = 8 := by decide
  rw [e0, e8]
  have hA : ar (va_cpy (I (o + 20)) (I (d + 20)) 0 0 8) s.1 := by
    intro j hj
    have : va_cpy (I (o + 20)) (I (d + 20)) 0 0 8 j = I (o + 20) j := by
      unfold va_cpy; rw [if_pos (by omega)]; congr 1; omega
    rw [this]; exact hr.2.2.2.2 j hj
  have e1 : va_up I (d + 20) (va_cpy (I (o + 20)) (I (d + 20)) 0 0 8) = mk2 I d (d + 20) (I d) (va_cpy (I (o + 20)) (I (d + 20)) 0 0 8) := by
    funext c
    by_cases hc : c = d + 20
    · subst hc; simp [mk2, va_up]
    · by_cases hd : c = d
      · subst hd; simp [mk2, va_up]
      · simp [mk2, va_up, hc, hd]
  rw [e1]
  simp only [mk2_o h1 h2, mk2_ud (dne d)]
  refine h _ _ ⟨?_, ?_, ?_, ?_, hA⟩
  · rw [upd_n _ _ (by decide), upd_n _ _ (by decide), upd_n _ _ (by decide), upd_s]; exact hr.1
  · rw [upd_n _ _ (by decide), upd_n _ _ (by decide), upd_s]; exact hr.2.1
  · rw [upd_n _ _ (by decide), upd_s]; exact hr.2.2.1
  · rw [upd_s]; exact hr.2.2.2.1
end DK2
