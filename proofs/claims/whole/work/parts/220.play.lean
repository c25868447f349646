/-! THE MODEL'S PLAY: the same numbers -/
def mp (D A : Nat → Int32) (k f : Nat) (s : DS) : Prop := D 13 = nI k ∧ D 14 = nI f ∧ D 15 = nI s.1.length ∧ D 16 = nI s.2.1 ∧ D 17 = nI s.2.2 ∧ ar A s.1
/-- the model's other fields stay -/
def smD (D D' : Nat → Int32) : Prop := ∀ j, j < 13 ∨ 17 < j → D' j = D j
theorem smD.rf {D : Nat → Int32} : smD D D := fun _ _ => rfl
theorem smD.tr {D E F : Nat → Int32} (h1 : smD D E) (h2 : smD E F) : smD D F := fun j hj => (h2 j hj).trans (h1 j hj)
theorem smD.up {D : Nat → Int32} {j : Nat} {v : Int32} (h : 13 ≤ j ∧ j ≤ 17) : smD D (upd D j v) := fun i hi => upd_n _ _ (by omega)
theorem mne : (100 : Nat) ≠ 118 := by decide
section MPL
variable {I : Mm} {D A : Nat → Int32} {k f : Nat} {s : DS}
theorem mp_15 {A' : Nat → Int32} {L : List Nat} (h : mp D A k f s) (ha : ar A' L) : mp (upd D 15 (nI L.length)) A' k f (L, s.2.1, s.2.2) := ⟨by rw [upd_n _ _ (by decide)]; exact h.1, by rw [upd_n _ _ (by decide)]; exact h.2.1, upd_s _ _ _, by rw [upd_n _ _ (by decide)]; exact h.2.2.2.1, by rw [upd_n _ _ (by decide)]; exact h.2.2.2.2.1, ha⟩
theorem mp_16 {w : Nat} (h : mp D A k f s) : mp (upd D 16 (nI w)) A k f (s.1, w, s.2.2) := ⟨by rw [upd_n _ _ (by decide)]; exact h.1, by rw [upd_n _ _ (by decide)]; exact h.2.1, by rw [upd_n _ _ (by decide)]; exact h.2.2.1, upd_s _ _ _, by rw [upd_n _ _ (by decide)]; exact h.2.2.2.2.1, h.2.2.2.2.2⟩
theorem mp_17 {m : Nat} (h : mp D A k f s) : mp (upd D 17 (nI m)) A k f (s.1, s.2.1, m) := ⟨by rw [upd_n _ _ (by decide)]; exact h.1, by rw [upd_n _ _ (by decide)]; exact h.2.1, by rw [upd_n _ _ (by decide)]; exact h.2.2.1, by rw [upd_n _ _ (by decide)]; exact h.2.2.2.1, upd_s _ _ _, h.2.2.2.2.2⟩
theorem idx_only {L : List Nat} (h : L.Nodup) {p j : Nat} (hj : j < L.length) (e : L.getD j 0 = p) : L.idxOf p = j := by
  have hm : p ∈ L := by rw [← e]; exact mem_of_getD hj
  have hq := idx_lt hm
  refine (List.getElem?_inj hq.1 h).mp ?_
  have e1 : L[j]? = some (L.getD j 0) := by rw [List.getD_eq_getElem?_getD, List.getElem?_eq_getElem hj]; rfl
  have e2 : L[L.idxOf p]? = some (L.getD (L.idxOf p) 0) := by rw [List.getD_eq_getElem?_getD, List.getElem?_eq_getElem hq.1]; rfl
  rw [e1, e2, hq.2, e]
theorem m_where {p : Nat} {Post : Int32 → Mm → Prop} (hr : mp D A k f s) (hk : okD f s) (hf : f ≤ 8) (hp : p < 8) (h : Post (if p ∈ s.1 then nI (s.1.idxOf p) else (-9)) (mk2 I 100 118 D A)) : wp_X10_whereLies (nI p) (mk2 I 100 118 D A) Post := by
  have hlen : s.1.length ≤ 8 := Nat.le_trans hk.2.2.1 hf
  have key : ∀ n j, j + n = s.1.length → wp_X10_whereLies_5 Post (n + 1) (nI p) (if p ∈ s.1.take j then nI (s.1.idxOf p) else (-9)) (nI j) (mk2 I 100 118 D A) := by
    intro n
    induction n with
    | zero =>
      intro j hj
      unfold wp_X10_whereLies_5
      rw [mk2_d mne]
      refine t_le s.1.length j hr.2.2.1 rfl (by omega) (by omega) (fun _ => ?_) (fun q => by omega)
      rw [List.take_of_length_le (by omega)]; exact h
    | succ n ih =>
      intro j hj
      unfold wp_X10_whereLies_5
      rw [mk2_d mne]
      refine t_le s.1.length j hr.2.2.1 rfl (by omega) (by omega) (fun q => by omega) (fun q => ?_)
      refine ⟨vp_in_nI (by omega) (by decide), ?_⟩
      rw [mk2_r, nI_clamp (by omega), hr.2.2.2.2.2 j q]
      have hv := hk.2.1 _ (mem_of_getD q)
      have hn := ih (j + 1) (by omega)
      rw [take_succ_getD q] at hn
      refine t_eq (s.1.getD j 0) p rfl rfl (by omega) (by omega) (fun e => ?_) (fun e => ?_)
      · unfold wp_X10_whereLies_28
        rw [show nI j + 1 = nI (j + 1) from nI_1 j]
        rw [if_pos (by rw [e]; simp), idx_only hk.1 q e] at hn
        exact hn
      · unfold wp_X10_whereLies_28
        rw [show nI j + 1 = nI (j + 1) from nI_1 j]
        have he : (p ∈ s.1.take j ++ [s.1.getD j 0]) ↔ p ∈ s.1.take j := by
          rw [List.mem_append, List.mem_singleton]
          exact ⟨fun h => h.elim id (fun h => absurd h.symm e), Or.inl⟩
        simp only [he] at hn
        exact hn
  unfold wp_X10_whereLies
  have := key s.1.length 0 (by omega)
  rw [List.take_zero, if_neg List.not_mem_nil] at this
  exact ⟨s.1.length + 1, this⟩
theorem m_out {q len : Nat} {Post : Mm → Prop} (h2 : D 15 = nI len) (hl : len ≤ 8) (hq : q < len) (h : Post (mk2 I 100 118 (upd D 15 (nI (len - 1))) (shf A q (len - 1)))) : wp_X10_takesOut (nI q) (mk2 I 100 118 D A) Post := by
  have hs : D 15 - (1 : Int32) = nI (len - 1) := by rw [h2]; exact pk_sub (b := 1) (by omega)
  have key : ∀ n j (A : Nat → Int32), j + n = len - 1 → Post (mk2 I 100 118 (upd D 15 (nI (len - 1))) (shf A j (len - 1))) → wp_X10_takesOut_12 Post (n + 1) (nI j) (mk2 I 100 118 (upd D 15 (nI (len - 1))) A) := by
    intro n
    induction n with
    | zero =>
      intro j A hj h
      unfold wp_X10_takesOut_12
      rw [mk2_d mne]
      refine t_le (len - 1) j (upd_s _ _ _) rfl (by omega) (by omega) (fun _ => ?_) (fun q => by omega)
      rw [shf_0 A (show len - 1 ≤ j by omega)] at h
      exact h
    | succ n ih =>
      intro j A hj h
      unfold wp_X10_takesOut_12
      rw [mk2_d mne]
      refine t_le (len - 1) j (upd_s _ _ _) rfl (by omega) (by omega) (fun q => by omega) (fun q => ?_)
      have e1 : nI j + (1 : Int32) = nI (j + 1) := nI_1 j
      rw [e1]
      refine ⟨vp_in_nI (by omega) (by decide), vp_in_nI (by omega) (by decide), ?_⟩
      rw [nI_clamp (by omega), nI_clamp (by omega), mk2_r, mk2_ur]
      refine ih (j + 1) _ (by omega) ?_
      rw [shf_1 A q]
      exact h
  unfold wp_X10_takesOut
  rw [mk2_d mne, hs, mk2_ud mne]
  exact ⟨len - 1 - q + 1, key (len - 1 - q) q A (by omega) h⟩
theorem m_put {p len : Nat} {Post : Mm → Prop} (h2 : D 15 = nI len) (hl : len < 8) (h : Post (mk2 I 100 118 (upd D 15 (nI (len + 1))) (upd A len (nI p)))) : wp_X10_putsBehind (nI p) (mk2 I 100 118 D A) Post := by
  unfold wp_X10_putsBehind
  rw [mk2_d mne, h2]
  refine ⟨vp_in_nI hl (by decide), ?_⟩
  rw [nI_clamp (by omega), mk2_ur, mk2_d mne, h2, show nI len + (1 : Int32) = nI (len + 1) from nI_1 len, mk2_ud mne]
  exact h
theorem m_isIn {w p : Nat} {Post : Int32 → Mm → Prop} {J : Mm} (hw : w < 256) (hp : p < 8) (h : Post (if w.testBit p then 1 else 0) J) : wp_X10_isIn (nI w) (nI p) J Post := by
  unfold wp_X10_isIn
  rw [bt_tst w hw p hp]
  by_cases hb : w.testBit p
  · rw [if_pos hb] at h ⊢; rw [if_pos (by decide)]; exact h
  · rw [if_neg hb] at h ⊢; rw [if_neg (by decide)]; exact h
theorem clr_at {w p : Nat} (hr : mp D A k f s) (hk : okD f s) (hl : 0 < s.1.length) : (D 16 &&& (((1 : Int32) <<< (A 0 &&& 31)) ^^^ (-1 : Int32))) = nI (s.2.1 &&& (255 - 2 ^ s.1.headD 0)) := by
  have hh : s.1.headD 0 < 8 := by rw [← getD0]; exact hk.2.1 _ (mem_of_getD hl)
  rw [hr.2.2.2.1, hr.2.2.2.2.2 0 hl, getD0]
  exact bt_clr _ hk.2.2.2 _ hh
theorem m_fin {m : Nat} {L : List Nat} {w : Nat} {Post : Mm → Prop} (hr : mp D A k f (L, w, m)) (hk : okD f (L, w, m)) (hf : f ≤ 8) (hl : 0 < L.length) (h : ∀ D' A', smD D D' → mp D' A' k f (L.tail, w &&& (255 - 2 ^ L.headD 0), m) → Post (mk2 I 100 118 D' A')) : wp_X10_makesRoom_69 Post (mk2 I 100 118 D A) := by
  have hlen : L.length ≤ 8 := Nat.le_trans hk.2.2.1 hf
  unfold wp_X10_makesRoom_69
  refine ⟨vp0, ?_⟩
  have e0 : (0 : Int32).toNatClampNeg = 0 := by decide
  rw [e0, mk2_d mne, mk2_r, clr_at (w := 0) (p := 0) hr hk hl, mk2_ud mne]
  refine m_out (q := 0) (len := L.length) (by rw [upd_n _ _ (by decide)]; exact hr.2.2.1) hlen hl ?_
  refine h _ _ (smD.tr (smD.up (by decide)) (smD.up (by decide))) ?_
  have ha := ar_shf hr.2.2.2.2.2 hl
  rw [erase0] at ha
  have hlt : L.length - 1 = L.tail.length := by rw [List.length_tail]
  have h16 := mp_16 (w := w &&& (255 - 2 ^ L.headD 0)) hr
  have := mp_15 h16 ha
  rw [← hlt] at this
  exact this
theorem m_spare {m : Nat} {Post : Mm → Prop} {K : Mm → Prop} (hf : f ≤ 8) : ∀ (n t : Nat) (L : List Nat) (w : Nat) (D A : Nat → Int32), mp D A 1 f (L, w, m) → okD f (L, w, m) → t + n = 8 → 0 < L.length → (∀ D' A', smD D D' → mp D' A' 1 f ((spr n L w).1, (spr n L w).2, m) → K (mk2 I 100 118 D' A')) → wp_X10_makesRoom_2 K Post (n + 1) (nI t) (mk2 I 100 118 D A) := by
  intro n
  induction n with
  | zero =>
    intro t L w D A hr hk ht hl h
    unfold wp_X10_makesRoom_2
    exact t_le 8 t rfl rfl (by omega) (by omega) (fun _ => h D A smD.rf hr) (fun q => by omega)
  | succ n ih =>
    intro t L w D A hr hk ht hl h
    have hlen : L.length ≤ 8 := Nat.le_trans hk.2.2.1 hf
    unfold wp_X10_makesRoom_2
    refine t_le 8 t rfl rfl (by omega) (by omega) (fun q => by omega) (fun q => ?_)
    rw [mk2_d mne, if_pos (show D 13 = (1 : Int32) from hr.1)]
    refine ⟨vp0, ?_⟩
    have e0 : (0 : Int32).toNatClampNeg = 0 := by decide
    have hv := hk.2.1 _ (mem_of_getD hl)
    rw [e0, mk2_r, hr.2.2.2.1, hr.2.2.2.2.2 0 hl]
    refine m_isIn hk.2.2.2 hv ?_
    rw [getD0] at hv ⊢
    by_cases hb : w.testBit (L.headD 0)
    · rw [if_pos hb, if_neg (by decide)]
      refine ⟨vp0, ?_⟩
      rw [mk2_d mne, mk2_r, clr_at (w := 0) (p := 0) hr hk hl, mk2_ud mne]
      have h16 := mp_16 (w := w &&& (255 - 2 ^ L.headD 0)) hr
      refine m_out (q := 0) (len := L.length) (by rw [upd_n _ _ (by decide)]; exact hr.2.2.1) hlen hl ?_
      have hA0 : A 0 = nI (L.headD 0) := by rw [hr.2.2.2.2.2 0 hl, getD0]
      rw [hA0]
      refine m_put (len := L.length - 1) (upd_s _ _ _) (by omega) ?_
      rw [show nI t + 1 = nI (t + 1) from nI_1 t]
      have ha := ar_shf hr.2.2.2.2.2 hl
      rw [erase0] at ha
      have hlt : L.length - 1 = L.tail.length := by rw [List.length_tail]
      have ha2 := ar_push ha (L.headD 0)
      have m15 := mp_15 (mp_15 h16 ha) ha2
      rw [← hlt] at m15 ha2
      have hl2 : (L.tail ++ [L.headD 0]).length = L.length - 1 + 1 := by rw [List.length_append, List.length_tail]; rfl
      rw [hl2] at m15
      refine ih (t + 1) (L.tail ++ [L.headD 0]) (w &&& (255 - 2 ^ L.headD 0)) _ _ m15 (okD_tail hk hl) (by omega) (by rw [hl2]; omega) (fun D' A' hs hr' => h D' A' (smD.tr (smD.tr (smD.up (by decide)) (smD.tr (smD.up (by decide)) (smD.up (by decide)))) hs) ?_)
      cases L with
      | nil => exact absurd hl (Nat.lt_irrefl 0)
      | cons a r =>
        simp only [spr]
        rw [if_pos (show w.testBit a = true from hb)]
        exact hr'
    · rw [if_neg hb, if_pos rfl]
      refine h D A smD.rf ?_
      cases L with
      | nil => exact absurd hl (Nat.lt_irrefl 0)
      | cons a r =>
        simp only [spr]
        rw [if_neg (show ¬ w.testBit a = true from hb)]
        exact hr
theorem m_room {m : Nat} {L : List Nat} {w : Nat} {Post : Mm → Prop} (hk3 : k < 3) (hr : mp D A k f (L, w, m)) (hk : okD f (L, w, m)) (hf : f ≤ 8) (hl : 0 < L.length) (h : ∀ D' A', smD D D' → mp D' A' k f ((gone k L w).1, (gone k L w).2, m) → Post (mk2 I 100 118 D' A')) : wp_X10_makesRoom (mk2 I 100 118 D A) Post := by
  unfold wp_X10_makesRoom
  by_cases h1 : k = 1
  · subst h1
    refine ⟨9, m_spare hf 8 0 L w D A hr hk rfl hl (fun D1 A1 hs1 hr1 => ?_)⟩
    have := spr_ok 8 L w hk.1 hk.2.1 hk.2.2.2
    refine m_fin hr1 ⟨this.1, this.2.1, by show (spr 8 L w).1.length ≤ f; rw [this.2.2.1]; exact hk.2.2.1, this.2.2.2⟩ hf (by rw [this.2.2.1]; exact hl) (fun D2 A2 hs2 hr2 => h D2 A2 (hs1.tr hs2) hr2)
  · refine ⟨1, ?_⟩
    unfold wp_X10_makesRoom_2
    rw [if_neg (by decide), mk2_d mne, if_neg (show ¬ D 13 = (1 : Int32) from fun e => h1 (by
      rw [hr.1] at e
      exact (nI_eq (b := 1) (by omega) (by decide)).mp e))]
    refine m_fin hr hk hf hl (fun D2 A2 hs2 hr2 => h D2 A2 hs2 ?_)
    unfold gone
    simp only [h1, if_false]
    exact hr2
theorem m_plays {p : Nat} {Post : Int32 → Mm → Prop} (hk3 : k < 3) (hr : mp D A k f s) (hk : okD f s) (hf : f ≤ 8) (hf1 : 1 ≤ f) (hp : p < 8) (h : ∀ D' A', smD D D' → mp D' A' k f (stp k f s p) → Post (if p ∈ s.1 then 0 else 1) (mk2 I 100 118 D' A')) : wp_X10_plays (nI p) (mk2 I 100 118 D A) Post := by
  obtain ⟨L, w, m⟩ := s
  have hlen : L.length ≤ 8 := Nat.le_trans hk.2.2.1 hf
  have hw : w < 256 := hk.2.2.2
  unfold wp_X10_plays
  refine m_where hr hk hf hp ?_
  have tail : ∀ (L' : List Nat) (w' : Nat) (D' A' : Nat → Int32), mp D' A' k f (L', w', m) → L'.length < 8 → smD D D' → stp k f (L, w, m) p = (L' ++ [p], w', m + 1) → p ∉ L → wp_X10_plays_68 Post (nI p) (mk2 I 100 118 D' A') := by
    intro L' w' D' A' hr' hl' hs' he hm
    rw [if_neg hm, he] at h
    unfold wp_X10_plays_68
    refine m_put hr'.2.2.1 hl' ?_
    rw [mk2_d mne, upd_n _ _ (by decide), hr'.2.2.2.2.1, show nI m + (1 : Int32) = nI (m + 1) from nI_1 m, mk2_ud mne]
    refine h _ _ (hs'.tr (smD.tr (smD.up (by decide)) (smD.up (by decide)))) ?_
    have := mp_17 (m := m + 1) (mp_15 hr' (ar_push hr'.2.2.2.2.2 p))
    rw [List.length_append] at this
    exact this
  by_cases hm : p ∈ L
  · have hq := idx_lt hm
    have hq8 : L.idxOf p < 8 := Nat.lt_of_lt_of_le hq.1 hlen
    rw [if_pos hm, if_neg (show ¬ nI (L.idxOf p) < 0 from nI_pos (by omega))]
    rw [if_pos hm, stp_hit (s := (L, w, m)) hm] at h
    rw [mk2_d mne, hr.1]
    have hset : nI w ||| ((1 : Int32) <<< (nI p &&& 31)) = nI (w ||| 2 ^ p) := bt_set w hw p hp
    have hset0 : nI w ||| (0 : Int32) = nI w := Int32.or_zero
    refine t_le k 0 rfl rfl (by omega) (by decide) (fun h0 => ?_) (fun h0 => ?_)
    · have hk0 : k = 0 := by omega
      subst hk0
      rw [if_pos rfl] at h
      unfold wp_X10_plays_29
      rw [hr.2.2.2.1, hset0, mk2_ud mne, mk2_d mne, upd_n _ _ (by decide), hr.1, if_neg (by decide)]
      refine h _ _ (smD.up (by decide)) ?_
      exact mp_16 hr
    · unfold wp_X10_plays_29
      rw [hr.2.2.2.1, hset, mk2_ud mne, mk2_d mne, upd_n _ _ (by decide), hr.1]
      rw [if_neg (by omega)] at h
      have h16 := mp_16 (w := w ||| 2 ^ p) hr
      refine t_eq k 2 rfl rfl (by omega) (by decide) (fun h2 => ?_) (fun h2 => ?_)
      · subst h2
        rw [if_neg (by decide)] at h
        refine m_out (len := L.length) (by rw [upd_n _ _ (by decide)]; exact hr.2.2.1) hlen hq.1 ?_
        refine m_put (len := L.length - 1) (upd_s _ _ _) (by omega) ?_
        refine h _ _ (smD.tr (smD.up (by decide)) (smD.tr (smD.up (by decide)) (smD.up (by decide)))) ?_
        have ha := ar_shf hr.2.2.2.2.2 hq.1
        have hl1 : (L.eraseIdx (L.idxOf p)).length = L.length - 1 := by rw [List.length_eraseIdx, if_pos hq.1]
        have ha2 := ar_push ha p
        have m15 := mp_15 (mp_15 h16 ha) ha2
        rw [List.length_append, hl1] at m15
        exact m15
      · rw [if_pos (show k = 1 by omega)] at h
        exact h _ _ (smD.up (by decide)) h16
  · rw [if_neg hm, if_pos (by decide), mk2_d mne]
    refine t_eq L.length f hr.2.2.1 hr.2.1 (by omega) (by omega) (fun hl => ?_) (fun hl => ?_)
    · refine m_room hk3 hr hk hf (by omega) (fun D' A' hs' hr' => ?_)
      refine tail _ _ D' A' hr' ?_ hs' ?_ hm
      · rw [gone_len (s := (L, w, m)) hk]; show L.length - 1 < 8; omega
      · exact stp_full (s := (L, w, m)) hm (by show ¬ L.length < f; omega)
    · have hlf : L.length < f := by have := hk.2.2.1; have : L.length ≤ f := this; omega
      exact tail L w D A hr (by omega) smD.rf (stp_free (s := (L, w, m)) hm hlf) hm
theorem m_set {Post : Int32 → Mm → Prop} (hr : mp D A k f s) (hk : okD f s) (hf : f ≤ 8) (h : Post (nI (setL s.1)) (mk2 I 100 118 D A)) : wp_X10_playSet (mk2 I 100 118 D A) Post := by
  have hlen : s.1.length ≤ 8 := Nat.le_trans hk.2.2.1 hf
  have key : ∀ n j, j + n = s.1.length → wp_X10_playSet_4 Post (n + 1) (nI (setL (s.1.take j))) (nI j) (mk2 I 100 118 D A) := by
    intro n
    induction n with
    | zero =>
      intro j hj
      unfold wp_X10_playSet_4
      rw [mk2_d mne]
      refine t_le s.1.length j hr.2.2.1 rfl (by omega) (by omega) (fun _ => ?_) (fun q => by omega)
      rw [List.take_of_length_le (by omega)]; exact h
    | succ n ih =>
      intro j hj
      unfold wp_X10_playSet_4
      rw [mk2_d mne]
      refine t_le s.1.length j hr.2.2.1 rfl (by omega) (by omega) (fun q => by omega) (fun q => ?_)
      refine ⟨vp_in_nI (by omega) (by decide), ?_⟩
      rw [mk2_r, nI_clamp (by omega), hr.2.2.2.2.2 j q]
      have hv := hk.2.1 _ (mem_of_getD q)
      have hw : setL (s.1.take j) < 256 := setL_lt _ 0 (by decide) (fun p hp => hk.2.1 p (List.mem_of_mem_take hp))
      have e : nI (setL (s.1.take j)) ||| ((1 : Int32) <<< (nI (s.1.getD j 0) &&& 31)) = nI (setL (s.1.take (j + 1))) := by
        rw [take_succ_getD q]
        unfold setL
        rw [setL_app]
        exact bt_set _ hw _ hv
      rw [e, show nI j + 1 = nI (j + 1) from nI_1 j]
      exact ih (j + 1) (by omega)
  unfold wp_X10_playSet
  exact ⟨s.1.length + 1, key s.1.length 0 (by omega)⟩
/-- who would go, from place j on: the first that is not used, else z -/
def goF (w z : Nat) (L : List Nat) : Nat := match L.find? (fun a => !w.testBit a) with | some a => a | none => z
theorem goF_cons (w z a : Nat) (r : List Nat) : goF w z (a :: r) = if w.testBit a then goF w z r else a := by
  unfold goF
  by_cases h : w.testBit a
  · simp [List.find?_cons, h]
  · simp [List.find?_cons, h]
theorem drop_cons {L : List Nat} {j : Nat} (h : j < L.length) : L.drop j = L.getD j 0 :: L.drop (j + 1) := by
  rw [List.drop_eq_getElem_cons h, List.getD_eq_getElem?_getD, List.getElem?_eq_getElem h]; rfl
set_option maxRecDepth 100000 in
theorem m_go {Post : Int32 → Mm → Prop} (hk3 : k < 3) (hr : mp D A k f s) (hk : okD f s) (hf : f ≤ 8) (hf1 : 1 ≤ f) (h : Post (goV k f s) (mk2 I 100 118 D A)) : wp_X10_wouldGo (mk2 I 100 118 D A) Post := by
  have hlen : s.1.length ≤ 8 := Nat.le_trans hk.2.2.1 hf
  unfold wp_X10_wouldGo
  rw [mk2_d mne]
  unfold goV at h
  refine t_le f s.1.length hr.2.1 hr.2.2.1 (by omega) (by omega) (fun hl => ?_) (fun hl => ?_)
  · rw [if_neg (by omega)] at h
    refine ⟨vp0, ?_⟩
    have hs : D 15 - (1 : Int32) = nI (s.1.length - 1) := by rw [hr.2.2.1]; exact pk_sub (b := 1) (by omega)
    rw [hs, mk2_r, show (0 : Int32).toNatClampNeg = 0 by decide, hr.2.2.2.2.2 0 (by omega), getD0]
    have hval : goP k s = if k = 1 then goF s.2.1 (s.1.headD 0) s.1 else s.1.headD 0 := rfl
    have key : ∀ j, j ≤ s.1.length → ∀ x2 : Int32, x2 = nI j + (-1) → wp_X10_wouldGo_28 Post (j + 1) (nI (if k = 1 then goF s.2.1 (s.1.headD 0) (s.1.drop j) else s.1.headD 0)) x2 (mk2 I 100 118 D A) := by
      intro j
      induction j with
      | zero =>
        intro hj x2 hx
        unfold wp_X10_wouldGo_28
        rw [if_pos (show x2 < 0 by rw [hx]; decide), List.drop_zero, ← hval]
        exact h
      | succ j ih =>
        intro hj x2 hx
        rw [pk_m1] at hx
        have hv := hk.2.1 _ (mem_of_getD (show j < s.1.length by omega))
        rw [drop_cons (show j < s.1.length by omega), goF_cons] at ih
        unfold wp_X10_wouldGo_28
        rw [if_neg (show ¬ x2 < 0 by rw [hx]; exact nI_pos (by omega)), mk2_d mne]
        refine t_eq k 1 hr.1 rfl (by omega) (by decide) (fun h1 => ?_) (fun h1 => ?_)
        · refine ⟨vp_n hx (by omega) (by decide), ?_⟩
          rw [mk2_r, cl_n hx (by omega), hr.2.2.2.2.2 j (by omega), hr.2.2.2.1]
          refine m_isIn hk.2.2.2 hv ?_
          rw [if_pos h1] at ih ⊢
          by_cases hb : s.2.1.testBit (s.1.getD j 0)
          · rw [if_pos hb] at ih
            rw [if_pos hb, if_neg (by decide)]
            unfold wp_X10_wouldGo_65 wp_X10_wouldGo_66
            generalize hy : x2 + (-1) = x3
            exact ih (by omega) x3 (by rw [← hy, hx])
          · rw [if_neg hb] at ih
            rw [if_neg hb, if_pos rfl]
            refine ⟨vp_n hx (by omega) (by decide), ?_⟩
            unfold wp_X10_wouldGo_66
            rw [mk2_r, hr.2.2.2.2.2 j (by omega)]
            generalize hy : x2 + (-1) = x3
            exact ih (by omega) x3 (by rw [← hy, hx])
        · rw [if_neg h1] at ih ⊢
          unfold wp_X10_wouldGo_65 wp_X10_wouldGo_66
          generalize hy : x2 + (-1) = x3
          exact ih (by omega) x3 (by rw [← hy, hx])
    have fin := fun x2 hx => key s.1.length (Nat.le_refl _) x2 hx
    rw [List.drop_length] at fin
    have e0 : (if k = 1 then goF s.2.1 (s.1.headD 0) [] else s.1.headD 0) = s.1.headD 0 := by
      by_cases h1 : k = 1
      · rw [if_pos h1]; rfl
      · rw [if_neg h1]
    rw [e0] at fin
    refine ⟨s.1.length + 1, ?_⟩
    generalize hy : nI (s.1.length - 1) = x3
    exact fin x3 (by rw [← hy, sb_m1 (by omega)])
  · rw [if_pos (by omega)] at h; exact h
/-- the line's asks, one behind another -/
theorem m_line {n : Nat} {l : List Nat} {Post : Mm → Prop} (hk3 : k < 3) (hf : f ≤ 8) (hf1 : 1 ≤ f) (hn : n ≤ 24) (hl : l.length = n) (hlp : ∀ p ∈ l, p < 8) (ha : ∀ j, j < n → I 106 j = nI (l.getD j 0)) : (∀ D' A', smD (I 100) D' → mp D' A' k f (ply k f l) → Post (mk2 I 100 118 D' A')) → wp_X10_playsLine (nI k) (nI f) (nI n) I Post := by
  intro h
  have key : ∀ i j (D A : Nat → Int32), j + i = n → smD (I 100) D → mp D A k f (ply k f (l.take j)) → wp_X10_playsLine_9 Post (i + 1) (nI n) (nI j) (mk2 I 100 118 D A) := by
    intro i
    induction i with
    | zero =>
      intro j D A hj hs hr
      unfold wp_X10_playsLine_9
      refine t_le n j rfl rfl (by omega) (by omega) (fun _ => ?_) (fun q => by omega)
      rw [List.take_of_length_le (by omega)] at hr
      exact h D A hs hr
    | succ i ih =>
      intro j D A hj hs hr
      unfold wp_X10_playsLine_9
      refine t_le n j rfl rfl (by omega) (by omega) (fun q => by omega) (fun q => ?_)
      refine ⟨vp_in_nI (by omega) (by decide), ?_⟩
      rw [mk2_o (by decide) (by decide), nI_clamp (by omega), ha j q]
      have hok := ply_ok (k := k) hf1 (l.take j) ([], 0, 0) (ok0 f) (fun p hp => hlp p (List.mem_of_mem_take hp))
      refine m_plays hk3 hr hok hf hf1 (hlp _ (mem_of_getD (by omega))) (fun D' A' hs' hr' => ?_)
      rw [show nI j + 1 = nI (j + 1) from nI_1 j]
      refine ih (j + 1) D' A' (by omega) (hs.tr hs') ?_
      rw [take_succ_getD (by omega)]
      unfold ply
      rw [List.foldl_append]
      exact hr'
  unfold wp_X10_playsLine wp_X10_clears
  have e : up2 (up2 (up2 (up2 (up2 I 100 13 (nI k)) 100 14 (nI f)) 100 15 (0 : Int32)) 100 16 (0 : Int32)) 100 17 (0 : Int32) = mk2 I 100 118 (upd (upd (upd (upd (upd (I 100) 13 (nI k)) 14 (nI f)) 15 0) 16 0) 17 0) (I 118) := by
    have h0 := mk2_self I 100 118
    rw [← mk2_ud mne, ← mk2_ud mne, ← mk2_ud mne, ← mk2_ud mne, ← mk2_ud mne, h0]
  rw [e]
  refine ⟨n + 1, key n 0 _ _ (by omega) ?_ ?_⟩
  · exact smD.tr (smD.up (by decide)) (smD.tr (smD.up (by decide)) (smD.tr (smD.up (by decide)) (smD.tr (smD.up (by decide)) (smD.up (by decide)))))
  · refine ⟨?_, ?_, ?_, ?_, ?_, ar_nil _⟩
    · rw [upd_n _ _ (by decide), upd_n _ _ (by decide), upd_n _ _ (by decide), upd_n _ _ (by decide), upd_s]
    · rw [upd_n _ _ (by decide), upd_n _ _ (by decide), upd_n _ _ (by decide), upd_s]
    · rw [upd_n _ _ (by decide), upd_n _ _ (by decide), upd_s]; rfl
    · rw [upd_n _ _ (by decide), upd_s]; rfl
    · rw [upd_s]; rfl
end MPL
