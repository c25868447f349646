/-! depth, work, many: sets of the pages of a part of the line -/
def sgm (l : List Nat) : Nat → Nat → Nat → Nat
  | 0, _, w => w
  | n + 1, j, w => sgm l n (j + 1) (w ||| 2 ^ (l.getD j 0))
theorem sgm_lt {l : List Nat} (hl : ∀ p ∈ l, p < 8) : ∀ n j w, j + n ≤ l.length → w < 256 → sgm l n j w < 256 := by
  intro n
  induction n with
  | zero => intro j w _ h; exact h
  | succ n ih =>
    intro j w hj h
    exact ih (j + 1) _ (by omega) (bt_sl w h _ (hl _ (mem_of_getD (by omega))))
def nb : Nat → Nat → Nat
  | 0, _ => 0
  | n + 1, m => if m = 0 then 0 else m % 2 + nb n (m / 2)
theorem nb_p8 : ∀ m, m < 256 → nb 9 m = p8 m := by decide +kernel
theorem P24_p8 : ∀ m, m < 256 → P24 m = p8 m := by decide +kernel
theorem nb_sh : ∀ m, m < 256 → nI m >>> ((1 : Int32) &&& 31) = nI (m / 2) ∧ nI m &&& 1 = nI (m % 2) := by decide +kernel
def sah (l : List Nat) (p : Nat) : Nat → Option Nat
  | 0 => none
  | i + 1 => if l.getD i 0 = p then some i else sah l p i
def sv : Option Nat → Int32
  | none => -9
  | some j => nI j
theorem sah_lt {l : List Nat} {p : Nat} : ∀ i j, sah l p i = some j → j < i := by
  intro i
  induction i with
  | zero => intro j h; exact absurd h (by simp [sah])
  | succ i ih =>
    intro j h
    simp only [sah] at h
    by_cases q : l.getD i 0 = p
    · rw [if_pos q] at h; have := Option.some.inj h; omega
    · rw [if_neg q] at h; have := ih j h; omega
def dpt (l : List Nat) (i : Nat) : Int32 := match sah l (l.getD i 0) i with
  | none => -9
  | some j => nI (p8 (sgm l (i + 1 - j) j 0))
def v_depth (z : St) (x : Int32) : Int32 := if InR x 0 (s_l z).length then dpt (s_l z) x.toNatClampNeg else -1
def v_work (z : St) (x y : Int32) : Int32 := if InR x 0 (s_l z).length then (if InR y 1 25 then nI (sgm (s_l z) (x.toNatClampNeg + 1 - (x.toNatClampNeg + 1 - y.toNatClampNeg)) (x.toNatClampNeg + 1 - y.toNatClampNeg) 0) else -2) else -1
def v_many (z : St) (x : Int32) : Int32 := if x = 0 then nI (s_n z) else if x = 1 then nI (s_l z).length else if x = 2 then nI (s_c z) else if x = 3 then nI (p8 (sgm (s_l z) (s_l z).length 0 0)) else if x = 4 then nI (s_r z).length else -2
theorem nI_p1 : ∀ j, j ≤ 60 → (nI j + (-1)).toInt = (j : Int) - 1 := by decide +kernel
theorem wk_1 : ∀ i, i < 24 → ∀ w, w < 25 → (if (0 : Int32) < ((nI i - nI w) + (1 : Int32)) then ((nI i - nI w) + (1 : Int32)) else (0 : Int32)) = nI (i + 1 - w) := by decide +kernel
theorem wk_2 : ∀ i, i < 24 → ∀ w, w < 25 → 0 ≤ (nI i - nI w) + (1 : Int32) → (nI i - nI w) + (1 : Int32) = nI (i + 1 - w) := by decide +kernel
theorem wk_3 : ∀ i, i < 24 → ∀ w, w < 25 → ¬ 0 ≤ (nI i - nI w) + (1 : Int32) → i + 1 - w = 0 := by decide +kernel
section DPT
variable {ki : Nat → Nat} {z : St} {I : Mm} {x y w : Int32} {Post : Int32 → Mm → Prop}
theorem bt_or : ∀ w, w < 256 → ∀ p, p < 8 → nI w ||| ((1 : Int32) <<< (nI p &&& 31)) = nI (w ||| 2 ^ p) := bt_set
theorem w_pagesOf {l : List Nat} {a E : Nat} {x2 : Int32} (hE : E ≤ l.length) (hl : l.length ≤ 24) (hp : ∀ p ∈ l, p < 8) (hx : x2.toInt = (E : Int) - 1) (ha : a ≤ E) (hA : ar (I 9) l) (h : Post (nI (sgm l (E - a) a 0)) I) : wp_X2_pagesOf (nI a) x2 I Post := by
  unfold wp_X2_pagesOf
  have key : ∀ n j w, j + n = E → w < 256 → Post (nI (sgm l n j w)) I → wp_X2_pagesOf_5 Post (n + 1) x2 (nI w) (nI j) I := by
    intro n
    induction n with
    | zero =>
      intro j w hj hw hq
      unfold wp_X2_pagesOf_5
      refine t_if (fun _ => hq) (fun q => absurd ?_ q)
      rw [Int32.lt_iff_toInt_lt, hx, nI_toInt (by omega)]; omega
    | succ n ih =>
      intro j w hj hw hq
      unfold wp_X2_pagesOf_5
      refine t_if (fun q => ?_) (fun _ => ⟨vp_in_nI (by omega) (by decide), ?_⟩)
      · rw [Int32.lt_iff_toInt_lt, hx, nI_toInt (by omega)] at q; omega
      have h8 := hp _ (mem_of_getD (L := l) (j := j) (by omega))
      rw [nI_clamp (by omega), hA j (by omega), bt_or w hw _ h8, show nI j + 1 = nI (j + 1) from nI_1 j]
      exact ih (j + 1) _ (by omega) (bt_sl w hw _ h8) hq
  exact ⟨_, key (E - a) a 0 (by omega) (by decide) h⟩
theorem m_pagesFrom {l : List Nat} {a E : Nat} {x2 : Int32} (hE : E ≤ l.length) (hl : l.length ≤ 24) (hp : ∀ p ∈ l, p < 8) (hx : x2.toInt = (E : Int) - 1) (ha : a ≤ E) (hA : ar (I 106) l) (h : Post (nI (sgm l (E - a) a 0)) I) : wp_X10_pagesFrom (nI a) x2 I Post := by
  unfold wp_X10_pagesFrom
  have key : ∀ n j w, j + n = E → w < 256 → Post (nI (sgm l n j w)) I → wp_X10_pagesFrom_5 Post (n + 1) x2 (nI w) (nI j) I := by
    intro n
    induction n with
    | zero =>
      intro j w hj hw hq
      unfold wp_X10_pagesFrom_5
      refine t_if (fun _ => hq) (fun q => absurd ?_ q)
      rw [Int32.lt_iff_toInt_lt, hx, nI_toInt (by omega)]; omega
    | succ n ih =>
      intro j w hj hw hq
      unfold wp_X10_pagesFrom_5
      refine t_if (fun q => ?_) (fun _ => ⟨vp_in_nI (by omega) (by decide), ?_⟩)
      · rw [Int32.lt_iff_toInt_lt, hx, nI_toInt (by omega)] at q; omega
      have h8 := hp _ (mem_of_getD (L := l) (j := j) (by omega))
      rw [nI_clamp (by omega), hA j (by omega), bt_or w hw _ h8, show nI j + 1 = nI (j + 1) from nI_1 j]
      exact ih (j + 1) _ (by omega) (bt_sl w hw _ h8) hq
  exact ⟨_, key (E - a) a 0 (by omega) (by decide) h⟩
theorem m_bits {m : Nat} (hm : m < 256) (h : Post (nI (p8 m)) I) : wp_X10_bits (nI m) I Post := by
  unfold wp_X10_bits
  have key : ∀ n m c, m < 2 ^ n → m < 256 → Post (nI (c + nb (n + 1) m)) I → wp_X10_bits_4 Post (n + 1) (nI c) (nI m) I := by
    intro n
    induction n with
    | zero =>
      intro m c h1 h2 hq
      have : m = 0 := by omega
      subst this
      unfold wp_X10_bits_4
      refine t_le 0 0 rfl rfl (by decide) (by decide) (fun _ => hq) (fun q => absurd q (by decide))
    | succ n ih =>
      intro m c h1 h2 hq
      unfold wp_X10_bits_4
      refine t_le m 0 rfl rfl (by omega) (by decide) (fun q => ?_) (fun q => ?_)
      · have : m = 0 := by omega
        subst this
        exact hq
      · rw [(nb_sh m h2).1, (nb_sh m h2).2, nI_add]
        refine ih (m / 2) (c + m % 2) (by rw [Nat.pow_succ] at h1; omega) (by omega) ?_
        rw [nb, if_neg (by omega)] at hq
        rw [Nat.add_assoc]; exact hq
  exact ⟨_, key 8 m 0 hm hm (by rw [nb_p8 m hm, Nat.zero_add]; exact h)⟩
theorem w_bits {m : Nat} (hm : m < 256) (h : Post (nI (p8 m)) I) : wp_J6_bitCount_0f7a4 (nI m) I Post := w_bitCount (by omega) (by rw [P24_p8 m hm]; exact h)
theorem w_same {l : List Nat} {i : Nat} (hi : i < l.length) (hl : l.length ≤ 24) (hp : ∀ p ∈ l, p < 8) (hA : ar (I 9) l) (h : Post (sv (sah l (l.getD i 0) i)) I) : wp_X2_sameAhead (nI i) I Post := by
  unfold wp_X2_sameAhead
  have key : ∀ j, j ≤ i → ∀ x2 : Int32, x2.toInt = (j : Int) - 1 → Post (sv (sah l (l.getD i 0) j)) I → wp_X2_sameAhead_4 Post (j + 1) (nI i) x2 I := by
    intro j
    induction j with
    | zero =>
      intro _ x2 hx hq
      unfold wp_X2_sameAhead_4
      refine t_if (fun _ => hq) (fun q => absurd ?_ q)
      rw [Int32.lt_iff_toInt_lt, hx]
      have : (0 : Int32).toInt = 0 := by decide
      omega
    | succ j ih =>
      intro hj x2 hx hq
      have e2 : x2 = nI j := by
        apply Int32.toInt_inj.mp
        rw [hx, nI_toInt (by omega)]; omega
      subst e2
      unfold wp_X2_sameAhead_4
      refine t_if (fun q => ?_) (fun _ => ⟨vp_in_nI (by omega) (by decide), vp_in_nI (by omega) (by decide), ?_⟩)
      · rw [Int32.lt_iff_toInt_lt, hx] at q
        have : (0 : Int32).toInt = 0 := by decide
        omega
      rw [nI_clamp (by omega), nI_clamp (by omega), hA j (by omega), hA i hi]
      have h8 := hp _ (mem_of_getD (L := l) (j := j) (by omega))
      have h9 := hp _ (mem_of_getD (L := l) (j := i) (by omega))
      simp only [sah] at hq
      refine t_eq (l.getD j 0) (l.getD i 0) rfl rfl (by omega) (by omega) (fun e => ?_) (fun e => ?_)
      · rw [if_pos e] at hq; exact hq
      · rw [if_neg e] at hq
        have hd := nI_p1 j (by omega)
        generalize nI j + (-1) = x3 at *
        exact ih (by omega) x3 hd hq
  have hd := nI_m1 i (by omega)
  generalize nI i - (1 : Int32) = x3 at *
  exact ⟨_, key i (Nat.le_refl _) x3 hd h⟩
theorem s9_depth {nd : Nat} (hw : wfS z) (hv : CV ki z I) (h : Post (v_depth z x) I) : wp_X9_depth ki nd x I Post := by
  have hl := hw.2.1
  unfold wp_X9_depth
  unfold v_depth at h
  refine w_has hw.2.1 hv.2.1.1 ?_
  rw [ite01]
  refine t_if (fun hx => ?_) (fun hx => ?_)
  · rw [if_pos hx] at h
    obtain ⟨e, -, hk⟩ := hx.n (by omega)
    rw [e]
    generalize x.toNatClampNeg = i at *
    refine w_same hk hl hw.2.2.1 hv.2.1.2 ?_
    unfold dpt at h
    cases hs : sah (s_l z) ((s_l z).getD i 0) i with
    | none =>
      simp only [hs] at h
      rw [if_pos (show sv none = -9 from rfl)]; exact h
    | some j =>
      simp only [hs] at h
      have hj := sah_lt _ _ hs
      show if nI j = (-9 : Int32) then _ else _
      refine t_if (fun q => ?_) (fun _ => ?_)
      · exact absurd q (by
          intro e
          have := congrArg Int32.toInt e
          rw [nI_toInt (by omega)] at this
          have h9 : (-9 : Int32).toInt = -9 := by decide
          omega)
      refine w_pagesOf (l := s_l z) (E := i + 1) (by omega) hl hw.2.2.1 (by rw [nI_toInt (by omega)]; omega) (by omega) hv.2.1.2 ?_
      exact w_bits (sgm_lt hw.2.2.1 _ _ _ (by omega) (by decide)) h
  · rw [if_neg hx] at h; exact h
theorem s10_depth (hw : wfS z) (hv : MV z I) (h : Post (v_depth z x) I) : wp_X10_depth x I Post := by
  have hl := hw.2.1
  unfold wp_X10_depth
  unfold v_depth at h
  refine m_noAsk hw.2.1 hv.2.1.1 ?_
  rw [ite10]
  refine t_if (fun hx => ?_) (fun hx => ?_)
  · rw [if_pos hx] at h
    obtain ⟨e, -, hk⟩ := hx.n (by omega)
    rw [e]
    generalize x.toNatClampNeg = i at *
    have key : ∀ n j, j + n = i → ∀ x2, x2 = sv (sah (s_l z) ((s_l z).getD i 0) j) → wp_X10_depth_15 (fun x1 x2 I => wp_X10_depth_47 Post x1 x2 I) Post (n + 1) (nI i) x2 (nI j) I := by
      intro n
      induction n with
      | zero =>
        intro j hj x2 e2
        unfold wp_X10_depth_15
        refine t_le i j rfl rfl (by omega) (by omega) (fun _ => ?_) (fun q => by omega)
        have : j = i := by omega
        subst this
        show wp_X10_depth_47 Post _ _ _
        unfold wp_X10_depth_47
        unfold dpt at h
        cases hs : sah (s_l z) ((s_l z).getD j 0) j with
        | none =>
          simp only [hs] at h
          rw [hs] at e2
          subst e2
          exact (if_neg (by decide)).mpr h
        | some q =>
          simp only [hs] at h
          rw [hs] at e2
          subst e2
          have hj := sah_lt _ _ hs
          refine t_le 0 q rfl rfl (by decide) (by omega) (fun _ => ?_) (fun q => by omega)
          refine m_pagesFrom (l := s_l z) (E := j + 1) (by omega) hl hw.2.2.1 (by rw [nI_toInt (by omega)]; omega) (by omega) hv.2.1.2 ?_
          exact m_bits (sgm_lt hw.2.2.1 _ _ _ (by omega) (by decide)) h
      | succ n ih =>
        intro j hj x2 e2
        unfold wp_X10_depth_15
        refine t_le i j rfl rfl (by omega) (by omega) (fun q => by omega) (fun _ => ⟨vp_in_nI (by omega) (by decide), vp_in_nI (by omega) (by decide), ?_⟩)
        rw [nI_clamp (by omega), nI_clamp (by omega), hv.2.1.2 j (by omega), hv.2.1.2 i hk]
        have h8 := hw.2.2.1 _ (mem_of_getD (L := s_l z) (j := j) (by omega))
        have h9 := hw.2.2.1 _ (mem_of_getD (L := s_l z) (j := i) (by omega))
        refine t_eq ((s_l z).getD j 0) ((s_l z).getD i 0) rfl rfl (by omega) (by omega) (fun e => ?_) (fun e => ?_)
        · unfold wp_X10_depth_40
          rw [show nI j + 1 = nI (j + 1) from nI_1 j]
          exact ih (j + 1) (by omega) _ (by simp only [sah]; rw [if_pos e]; rfl)
        · unfold wp_X10_depth_40
          rw [show nI j + 1 = nI (j + 1) from nI_1 j]
          exact ih (j + 1) (by omega) _ (by simp only [sah]; rw [if_neg e]; exact e2)
    exact ⟨_, key i 0 (by omega) _ rfl⟩
  · rw [if_neg hx] at h; exact h
theorem s9_work {nd : Nat} (hw : wfS z) (hv : CV ki z I) (h : Post (v_work z x y) I) : wp_X9_work ki nd x y I Post := by
  have hl := hw.2.1
  unfold wp_X9_work
  unfold v_work at h
  refine w_has hw.2.1 hv.2.1.1 ?_
  rw [ite01]
  refine t_if (fun hx => ?_) (fun hx => ?_)
  · rw [if_pos hx] at h
    obtain ⟨e, -, hk⟩ := hx.n (by omega)
    refine w9 (a := 1) (b := 25) (by decide) (by decide) ?_
    rw [ite01]
    refine t_if (fun hy => ?_) (fun hy => ?_)
    · rw [if_pos hy] at h
      obtain ⟨ey, hy1, hy25⟩ := hy.n (by decide)
      rw [e, ey]
      generalize x.toNatClampNeg = i at *
      generalize y.toNatClampNeg = v at *
      rw [wk_1 i (by omega) v hy25]
      exact w_pagesOf (l := s_l z) (E := i + 1) (by omega) hl hw.2.2.1 (by rw [nI_toInt (by omega)]; omega) (by omega) hv.2.1.2 h
    · rw [if_neg hy] at h; exact h
  · rw [if_neg hx] at h; exact h
theorem s10_work (hw : wfS z) (hv : MV z I) (h : Post (v_work z x y) I) : wp_X10_work x y I Post := by
  have hl := hw.2.1
  unfold wp_X10_work
  unfold v_work at h
  refine m_noAsk hw.2.1 hv.2.1.1 ?_
  rw [ite10]
  refine t_if (fun hx => ?_) (fun hx => ?_)
  · rw [if_pos hx] at h
    obtain ⟨e, -, hk⟩ := hx.n (by omega)
    refine w10 (a := 1) (b := 25) (by decide) (by decide) ?_
    rw [ite01]
    refine t_if (fun hy => ?_) (fun hy => ?_)
    · rw [if_pos hy] at h
      obtain ⟨ey, hy1, hy25⟩ := hy.n (by decide)
      rw [e, ey]
      generalize x.toNatClampNeg = i at *
      generalize y.toNatClampNeg = v at *
      have hm : wp_X10_pagesFrom (nI (i + 1 - v)) (nI i) I Post := m_pagesFrom (l := s_l z) (E := i + 1) (by omega) hl hw.2.2.1 (by rw [nI_toInt (by omega)]; omega) (by omega) hv.2.1.2 h
      refine t_if (fun q => ?_) (fun q => ?_)
      · unfold wp_X10_work_43
        rw [wk_2 i (by omega) v hy25 q]; exact hm
      · unfold wp_X10_work_43
        rw [wk_3 i (by omega) v hy25 q] at hm; exact hm
    · rw [if_neg hy] at h; exact h
  · rw [if_neg hx] at h; exact h
theorem s9_many {nd : Nat} (hw : wfS z) (hv : CV ki z I) (h : Post (v_many z x) I) : wp_X9_many ki nd x I Post := by
  have hl := hw.2.1
  unfold wp_X9_many
  unfold v_many at h
  refine t_if (fun h0 => ?_) (fun h0 => t_if (fun h1 => ?_) (fun h1 => t_if (fun h2 => ?_) (fun h2 => t_if (fun h3 => ?_) (fun h3 => t_if (fun h4 => ?_) (fun h4 => ?_)))))
  · rw [if_pos h0] at h; rw [hv.1]; exact h
  · rw [if_neg h0, if_pos h1] at h; rw [hv.2.1.1]; exact h
  · rw [if_neg h0, if_neg h1, if_pos h2] at h; rw [hv.2.2.1]; exact h
  · rw [if_neg h0, if_neg h1, if_neg h2, if_pos h3] at h
    refine w_pagesOf (l := s_l z) (a := 0) (E := (s_l z).length) (Nat.le_refl _) hl hw.2.2.1 (by rw [hv.2.1.1]; exact nI_m1 _ (by omega)) (by omega) hv.2.1.2 ?_
    exact w_bits (sgm_lt hw.2.2.1 _ _ _ (by omega) (by decide)) h
  · rw [if_neg h0, if_neg h1, if_neg h2, if_neg h3, if_pos h4] at h; rw [hv.2.2.2.2.1.1]; exact h
  · rw [if_neg h0, if_neg h1, if_neg h2, if_neg h3, if_neg h4] at h; exact h
theorem s10_many (hw : wfS z) (hv : MV z I) (h : Post (v_many z x) I) : wp_X10_many x I Post := by
  have hl := hw.2.1
  unfold wp_X10_many
  unfold v_many at h
  refine t_if (fun h0 => ?_) (fun h0 => t_if (fun h1 => ?_) (fun h1 => t_if (fun h2 => ?_) (fun h2 => t_if (fun h3 => ?_) (fun h3 => t_if (fun h4 => ?_) (fun h4 => ?_)))))
  · rw [if_pos h0] at h; rw [hv.1]; exact h
  · rw [if_neg h0, if_pos h1] at h; rw [hv.2.1.1]; exact h
  · rw [if_neg h0, if_neg h1, if_pos h2] at h; rw [hv.2.2.1]; exact h
  · rw [if_neg h0, if_neg h1, if_neg h2, if_pos h3] at h
    refine m_pagesFrom (l := s_l z) (a := 0) (E := (s_l z).length) (Nat.le_refl _) hl hw.2.2.1 (by rw [hv.2.1.1]; exact nI_m1 _ (by omega)) (by omega) hv.2.1.2 ?_
    exact m_bits (sgm_lt hw.2.2.1 _ _ _ (by omega) (by decide)) h
  · rw [if_neg h0, if_neg h1, if_neg h2, if_neg h3, if_pos h4] at h; rw [hv.2.2.2.2.1.1]; exact h
  · rw [if_neg h0, if_neg h1, if_neg h2, if_neg h3, if_neg h4] at h; exact h
end DPT
