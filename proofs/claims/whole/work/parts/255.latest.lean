/-! latest of both, fewest of the class -/
def v_latest (z : St) (x y : Int32) : Int32 := if InR y 0 (s_l z).length then (if InR x 1 9 then gAt (s_l z) x.toNatClampNeg y.toNatClampNeg else -2) else -1
def v_fewest (z : St) (x : Int32) : Int32 := if 0 < s_n z then (if InR x 1 9 then nI (bel (s_l z) x.toNatClampNeg (s_l z).length).2 else -2) else -3
theorem bt_and : ∀ w, w < 256 → ∀ p, p < 8 → (nI w &&& ((1 : Int32) <<< (nI p &&& 31)) = 0 ↔ w.testBit p = false) := by decide +kernel
theorem bt_or_in : ∀ w, w < 256 → ∀ p, p < 8 → w.testBit p = true → w ||| 2 ^ p = w := by decide +kernel
theorem lat_ne {l : List Nat} {w i : Nat} (hw : w < 256) (h0 : 1 ≤ p8 w) : (latF l w i 8 0 (0, 0)).2 ≠ 0 := by
  have := latF_ok l w i 8 0 (0, 0) rfl (Or.inl ⟨rfl, fun r hr => absurd hr (Nat.not_lt_zero _)⟩) (fun r hr => absurd hr (Nat.not_lt_zero _))
  rcases this.1 with ⟨a, b⟩ | ⟨a, b, c⟩
  · exfalso
    rw [← cn_p8 w hw] at h0
    have : cn w (fun _ => true) = s8 (fun _ => 0) := s8_eq (fun q hq => by rw [b q hq]; rfl)
    rw [this] at h0
    exact absurd h0 (by decide)
  · rw [c]; exact Nat.succ_ne_zero _
section LTS
variable {ki : Nat → Nat} {z : St} {I : Mm} {x y w : Int32} {Post : Int32 → Mm → Prop}
theorem w_nextOf {l : List Nat} {p i : Nat} (hp : p < 8) (hi : i < l.length) (hl : l.length ≤ 24) (hlp : ∀ p ∈ l, p < 8) (h8 : I 8 1 = nI l.length) (hA : ar (I 9) l) (h : Post (nI (nx l p (i + 1))) I) : wp_X2_nextOf (nI p) (nI i) I Post := by
  unfold wp_X2_nextOf
  rw [show nI i + 1 = nI (i + 1) from nI_1 i]
  have key : ∀ n j, j + n = l.length → Post (nI (nx l p j)) I → wp_X2_nextOf_4 Post (n + 1) (nI p) (nI j) I := by
    intro n
    induction n with
    | zero =>
      intro j hj hq
      unfold wp_X2_nextOf_4
      rw [nx_e (by omega)] at hq
      exact t_le l.length j h8 rfl (by omega) (by omega) (fun _ => hq) (fun q => by omega)
    | succ n ih =>
      intro j hj hq
      unfold wp_X2_nextOf_4
      refine t_le l.length j h8 rfl (by omega) (by omega) (fun q => by omega) (fun hjl => ⟨vp_in_nI (by omega) (by decide), ?_⟩)
      rw [nx_s hjl] at hq
      have hp8 := hlp _ (mem_of_getD hjl)
      rw [nI_clamp (by omega), hA j hjl]
      refine t_eq (l.getD j 0) p rfl rfl (by omega) (by omega) (fun e => ?_) (fun e => ?_)
      · rw [if_pos e] at hq; exact hq
      · rw [if_neg e] at hq
        rw [show nI j + 1 = nI (j + 1) from nI_1 j]
        exact ih (j + 1) (by omega) hq
  exact ⟨_, key (l.length - (i + 1)) (i + 1) (by omega) h⟩
theorem w_latestOf {l : List Nat} {w i : Nat} (hw : w < 256) (hi : i < l.length) (hl : l.length ≤ 24) (hlp : ∀ p ∈ l, p < 8) (h8 : I 8 1 = nI l.length) (hA : ar (I 9) l) (h : Post (nI (lat l w i)) I) : wp_X1_latestOf (nI w) (nI i) I Post := by
  unfold wp_X1_latestOf
  have key : ∀ n p (q : Nat × Nat) (x4 : Int32), p + n = 8 → x4.toInt = (q.2 : Int) - 1 → Post (nI (latF l w i n p q).1) I → wp_X1_latestOf_8 Post (n + 1) (nI w) (nI i) (nI q.1) x4 (nI p) I := by
    intro n
    induction n with
    | zero =>
      intro p q x4 hp e4 hq
      unfold wp_X1_latestOf_8
      exact t_le 8 p rfl rfl (by omega) (by omega) (fun _ => hq) (fun q => by omega)
    | succ n ih =>
      intro p q x4 hp e4 hq
      unfold wp_X1_latestOf_8
      refine t_le 8 p rfl rfl (by omega) (by omega) (fun q => by omega) (fun hp8 => ?_)
      refine w_nextOf hp8 hi hl hlp h8 hA ?_
      simp only [latF] at hq
      have hnx := nx_le (l := l) (p := p) (j := i + 1) (by omega)
      have ej : nI p + 1 = nI (p + 1) := nI_1 p
      have hle : nI (nx l p (i + 1)) ≤ x4 ↔ ¬ q.2 < nx l p (i + 1) + 1 := by
        rw [Int32.le_iff_toInt_le, e4, nI_toInt (by omega)]; omega
      refine t_if (fun hb => ?_) (fun hb => ?_)
      · have hb := (bt_and w hw p hp8).mp hb
        rw [if_neg (fun hh => by rw [hb] at hh; exact absurd hh.1 (by decide))] at hq
        unfold wp_X1_latestOf_47
        rw [ej]
        exact ih (p + 1) q x4 (by omega) e4 hq
      · have hb : w.testBit p = true := by
          cases ht : w.testBit p with
          | true => rfl
          | false => exact absurd ((bt_and w hw p hp8).mpr ht) hb
        refine t_if (fun hc => ?_) (fun hc => ?_)
        · rw [if_neg (fun hh => (hle.mp hc) hh.2)] at hq
          unfold wp_X1_latestOf_47
          rw [ej]
          exact ih (p + 1) q x4 (by omega) e4 hq
        · have : q.2 < nx l p (i + 1) + 1 := Classical.byContradiction (fun hh => hc (hle.mpr hh))
          rw [if_pos ⟨hb, this⟩] at hq
          unfold wp_X1_latestOf_47
          rw [ej]
          exact ih (p + 1) (p, nx l p (i + 1) + 1) _ (by omega) (by rw [nI_toInt (by omega)]; show _ = ((nx l p (i + 1) + 1 : Nat) : Int) - 1; omega) hq
  exact ⟨_, key 8 0 (0, 0) (-1) rfl (by decide) h⟩
theorem P_follow {f : Nat} {Pt : Mm → Prop} (hw : wfS z) (hv : CV ki z I) (hf1 : 1 ≤ f) (hf : f ≤ 8) (h : ∀ I', SC I I' → I' 10 1 = nI (bel (s_l z) f (s_l z).length).2 → (∀ j, j < (s_l z).length → I' 11 j = gAt (s_l z) f j) → Pt I') : wp_X1_follow (nI f) I Pt := by
  have hn := hw.1
  have hl := hw.2.1
  have hlp := hw.2.2.1
  unfold wp_X1_follow
  have key : ∀ n j (J : Mm), j + n = (s_l z).length → SC I J → J 10 1 = nI (bel (s_l z) f j).2 → (∀ j', j' < j → J 11 j' = gAt (s_l z) f j') → wp_X1_follow_10 Pt (n + 1) (nI f) (nI (bel (s_l z) f j).1) (nI j) J := by
    intro n
    induction n with
    | zero =>
      intro j J hj hs e1 e2
      have hvJ := hv.sc hn hs
      unfold wp_X1_follow_10
      have : j = (s_l z).length := by omega
      subst this
      exact t_le _ _ hvJ.2.1.1 rfl (by omega) (by omega) (fun _ => h J hs e1 e2) (fun q => by omega)
    | succ n ih =>
      intro j J hj hs e1 e2
      have hvJ := hv.sc hn hs
      unfold wp_X1_follow_10
      refine t_le (s_l z).length j hvJ.2.1.1 rfl (by omega) (by omega) (fun q => by omega) (fun hjl => ⟨vp_in_nI (by omega) (by decide), vp_in_nI (by omega) (by decide), ?_⟩)
      have hp := hlp _ (mem_of_getD hjl)
      obtain ⟨hw1, hw2, hw3⟩ := bel_lt (l := s_l z) hf1 hlp j (by omega)
      rw [nI_clamp (by omega), hvJ.2.1.2 j hjl]
      have ej : nI j + 1 = nI (j + 1) := nI_1 j
      have s11 : ∀ (K : Mm) v, SC I K → SC I (up2 K 11 j v) := fun K v hK c hc => by rw [up2_oc (fun e => hc (by subst e; decide))]; exact hK c hc
      have s10 : ∀ (K : Mm) v, SC I K → SC I (up2 K 10 1 v) := fun K v hK c hc => by rw [up2_oc (fun e => hc (by subst e; decide))]; exact hK c hc
      have hb : bel (s_l z) f (j + 1) = if (bel (s_l z) f j).1.testBit ((s_l z).getD j 0) = true then bel (s_l z) f j else if p8 (bel (s_l z) f j).1 = f then (((bel (s_l z) f j).1 &&& (255 - 2 ^ (lat (s_l z) (bel (s_l z) f j).1 j))) ||| 2 ^ ((s_l z).getD j 0), (bel (s_l z) f j).2 + 1) else ((bel (s_l z) f j).1 ||| 2 ^ ((s_l z).getD j 0), (bel (s_l z) f j).2 + 1) := rfl
      have hg : gAt (s_l z) f j = if (bel (s_l z) f j).1.testBit ((s_l z).getD j 0) = true then -9 else if p8 (bel (s_l z) f j).1 = f then nI (lat (s_l z) (bel (s_l z) f j).1 j) else -9 := rfl
      have ih := ih (j + 1)
      rw [hb] at ih
      refine t_if (fun ht => ?_) (fun ht => ?_)
      · have ht := (bt_and _ hw1 _ hp).mp ht
        have ht' : ¬ (bel (s_l z) f j).1.testBit ((s_l z).getD j 0) = true := by rw [ht]; decide
        rw [if_neg ht'] at ih hg
        refine w_bits hw1 ?_
        have sA := s10 _ (up2 J 11 j (-9) 10 1 + 1) (s11 J (-9) hs)
        have eA : up2 (up2 J 11 j (-9)) 10 1 (up2 J 11 j (-9) 10 1 + 1) 10 1 = nI ((bel (s_l z) f j).2 + 1) := by
          rw [up2_c, upd_s, up2_oc (by decide), e1, nI_1]
        refine t_eq (p8 (bel (s_l z) f j).1) f rfl rfl (by omega) (by omega) (fun he => ?_) (fun he => ?_)
        · rw [if_pos he] at ih hg
          obtain ⟨a, b, -⟩ := lat_ok (l := s_l z) (i := j) hw1 (by omega)
          have hvA := hv.sc hn sA
          refine w_latestOf hw1 hjl hl hlp hvA.2.1.1 hvA.2.1.2 ⟨vp_in_nI (by omega) (by decide), vp_in_nI (by omega) (by decide), ?_⟩
          unfold wp_X1_follow_92 wp_X1_follow_97
          rw [up2_c, upd_s, show nI (bel (s_l z) f j).1 &&& (((1 : Int32) <<< (nI (lat (s_l z) (bel (s_l z) f j).1 j) &&& 31)) ^^^ (-1 : Int32)) = _ from bt_clr _ hw1 _ a, bt_or _ (bt_cl _ hw1 _ a) _ hp, ej]
          refine ih _ (by omega) (s11 _ _ sA) ?_ (fun j' hj' => ?_)
          · rw [up2_oc (by decide)]; exact eA
          · rw [up2_c]
            by_cases e : j' = j
            · subst e; rw [upd_s]; exact hg.symm
            · rw [upd_n _ _ e, up2_oc (by decide), up2_c, upd_n _ _ e]; exact e2 j' (by omega)
        · rw [if_neg he] at ih hg
          unfold wp_X1_follow_92 wp_X1_follow_97
          rw [bt_or _ hw1 _ hp, ej]
          refine ih _ (by omega) sA eA (fun j' hj' => ?_)
          rw [up2_oc (by decide), up2_c]
          by_cases e : j' = j
          · subst e; rw [upd_s]; exact hg.symm
          · rw [upd_n _ _ e]; exact e2 j' (by omega)
      · have ht : (bel (s_l z) f j).1.testBit ((s_l z).getD j 0) = true := by
          cases hh : (bel (s_l z) f j).1.testBit ((s_l z).getD j 0) with
          | true => rfl
          | false => exact absurd ((bt_and _ hw1 _ hp).mpr hh) ht
        rw [if_pos ht] at ih hg
        unfold wp_X1_follow_97
        rw [ej]
        refine ih _ (by omega) (s11 _ _ hs) (by rw [up2_oc (by decide)]; exact e1) (fun j' hj' => ?_)
        rw [up2_c]
        by_cases e : j' = j
        · subst e; rw [upd_s]; exact hg.symm
        · rw [upd_n _ _ e]; exact e2 j' (by omega)
  refine ⟨_, key (s_l z).length 0 _ (by omega) (fun c hc => up2_oc (fun e => hc (by subst e; decide))) (by rw [up2_c, upd_s]; rfl) (fun j hj => absurd hj (Nat.not_lt_zero _))⟩
theorem s9_fewest (hw : wfS z) (hv : CV ki z I) (h : ∀ I', SC I I' → Post (v_fewest z x) I') : wp_X9_fewest ki (s_n z) x I Post := by
  unfold wp_X9_fewest
  unfold v_fewest at h
  refine w_room hw.1 hv.1 ?_
  rw [ite01]
  refine t_if (fun hn => ?_) (fun hn => ?_)
  · simp only [if_pos hn] at h
    refine w9 (a := 1) (b := 9) (by decide) (by decide) ?_
    rw [ite01]
    refine t_if (fun hx => ?_) (fun hx => ?_)
    · simp only [if_pos hx] at h
      obtain ⟨ex, h1, h9⟩ := hx.n (by decide)
      rw [ex]
      exact P_follow hw hv h1 (by omega) (fun I' hs e1 _ => by rw [e1]; exact h I' hs)
    · simp only [if_neg hx] at h; exact h I SC.rf
  · simp only [if_neg hn] at h; exact h I SC.rf
theorem s9_latest (hw : wfS z) (hv : CV ki z I) (h : ∀ I', SC I I' → Post (v_latest z x y) I') : wp_X9_latest ki (s_n z) x y I Post := by
  have hl := hw.2.1
  unfold wp_X9_latest
  unfold v_latest at h
  refine w_has hw.2.1 hv.2.1.1 ?_
  rw [ite01]
  refine t_if (fun hy => ?_) (fun hy => ?_)
  · simp only [if_pos hy] at h
    obtain ⟨ey, -, hyl⟩ := hy.n (by omega)
    refine w9 (a := 1) (b := 9) (by decide) (by decide) ?_
    rw [ite01]
    refine t_if (fun hx => ?_) (fun hx => ?_)
    · simp only [if_pos hx] at h
      obtain ⟨ex, h1, h9⟩ := hx.n (by decide)
      rw [ex]
      refine P_follow hw hv h1 (by omega) (fun I' hs _ e2 => ⟨vp_n ey (by omega) (by decide), ?_⟩)
      rw [e2 _ hyl]; exact h I' hs
    · simp only [if_neg hx] at h; exact h I SC.rf
  · simp only [if_neg hy] at h; exact h I SC.rf
/-! the model -/
theorem m_isIn2 {w p : Nat} (hw : w < 256) (hp : p < 8) (h : Post (if w.testBit p = true then 1 else 0) I) : wp_X10_isIn (nI w) (nI p) I Post := by
  unfold wp_X10_isIn
  rw [bt_tst w hw p hp]
  by_cases ht : w.testBit p = true
  · rw [if_pos ht] at h
    rw [if_pos ht, if_pos (by decide)]; exact h
  · rw [if_neg ht] at h
    rw [if_neg ht, if_neg (by decide)]; exact h
def cvn (n m : Nat) : Nat := if m = n then 99 else m
theorem m_nextOf {l : List Nat} {p i : Nat} (hp : p < 8) (hi : i < l.length) (hl : l.length ≤ 24) (hlp : ∀ p ∈ l, p < 8) (h8 : I 100 2 = nI l.length) (hA : ar (I 106) l) (h : Post (nI (cvn l.length (nx l p (i + 1)))) I) : wp_X10_nextOf (nI p) (nI i) I Post := by
  unfold wp_X10_nextOf
  have key : ∀ n, i + n < l.length → ∀ x3 x4, x3 = nI (cvn l.length (nx l p (i + n + 1))) → x4 = nI (i + n) → wp_X10_nextOf_11 Post (n + 1) (nI p) (nI i) x3 x4 I := by
    intro n
    induction n with
    | zero =>
      intro hn x3 x4 e3 e4
      unfold wp_X10_nextOf_11
      exact t_le i i e4 rfl (by omega) (by omega) (fun _ => by rw [e3]; exact h) (fun q => by omega)
    | succ n ih =>
      intro hn x3 x4 e3 e4
      unfold wp_X10_nextOf_11
      refine t_le (i + (n + 1)) i e4 rfl (by omega) (by omega) (fun q => by omega) (fun _ => ⟨vp_n e4 (by omega) (by decide), ?_⟩)
      rw [cl_n e4 (by omega), hA _ hn]
      have hp8 := hlp _ (mem_of_getD hn)
      have hnx := nx_s (p := p) hn
      have ed : x4 + (-1) = nI (i + n) := by rw [e4]; exact nI_dn (i + n) (by omega)
      refine t_eq (l.getD (i + (n + 1)) 0) p rfl rfl (by omega) (by omega) (fun e => ?_) (fun e => ?_)
      · rw [if_pos e] at hnx
        unfold wp_X10_nextOf_34
        dsimp only
        rw [ed]
        refine ih (by omega) _ _ ?_ rfl
        rw [e4, show i + n + 1 = i + (n + 1) from Nat.add_assoc _ _ _, hnx]
        unfold cvn
        rw [if_neg (by omega)]
      · rw [if_neg e] at hnx
        unfold wp_X10_nextOf_34
        dsimp only
        rw [ed]
        refine ih (by omega) _ _ ?_ rfl
        rw [e3, show i + n + 1 = i + (n + 1) from Nat.add_assoc _ _ _, hnx]
  have e4 : I 100 2 - (1 : Int32) = nI (l.length - 1) := by rw [h8, show (1 : Int32) = nI 1 from rfl, pk_sub (by omega)]
  rw [e4]
  refine ⟨_, key (l.length - 1 - i) (by omega) _ _ ?_ (by congr 1; omega)⟩
  rw [nx_e (by omega)]
  unfold cvn
  rw [if_pos (by omega)]; rfl
def mmI (n : Nat) : Nat → Int32
  | 0 => -1
  | m + 1 => nI (cvn n m)
theorem mmI_le {n m a : Nat} (hn : n ≤ 24) (hm : m ≤ n + 1) (ha : a ≤ n) : nI (cvn n a) ≤ mmI n m ↔ ¬ m < a + 1 := by
  have hc : ∀ b, b ≤ n → cvn n b < 100 := fun b hb => by unfold cvn; split <;> omega
  cases m with
  | zero =>
    rw [Int32.le_iff_toInt_le, nI_toInt (by have := hc a ha; omega)]
    have : (mmI n 0).toInt = -1 := by show (-1 : Int32).toInt = -1; decide
    rw [this]; omega
  | succ m =>
    rw [Int32.le_iff_toInt_le, nI_toInt (by have := hc a ha; omega)]
    have : (mmI n (m + 1)).toInt = (cvn n m : Int) := nI_toInt (by have := hc m (by omega); omega)
    rw [this]
    unfold cvn
    split <;> split <;> omega
theorem mmI_m1 {n m : Nat} (hn : n ≤ 24) (hm : m ≤ n + 1) : (-1 : Int32) ≤ mmI n m := by
  have hc : ∀ b, b ≤ n → cvn n b < 100 := fun b hb => by unfold cvn; split <;> omega
  cases m with
  | zero => exact Int32.le_refl _
  | succ m =>
    rw [Int32.le_iff_toInt_le]
    have : (mmI n (m + 1)).toInt = (cvn n m : Int) := nI_toInt (by have := hc m (by omega); omega)
    rw [this]
    have h1 : (-1 : Int32).toInt = -1 := by decide
    omega
def bbI (q : Nat × Nat) : Int32 := if q.2 = 0 then -9 else nI q.1
theorem m_goes {l : List Nat} {w i : Nat} (hw : w < 256) (hw0 : 1 ≤ p8 w) (hi : i < l.length) (hl : l.length ≤ 24) (hlp : ∀ p ∈ l, p < 8) (h8 : I 100 2 = nI l.length) (hA : ar (I 106) l) (h : Post (nI (lat l w i)) I) : wp_X10_goesLatest (nI w) (nI i) I Post := by
  unfold wp_X10_goesLatest
  have key : ∀ n p (q : Nat × Nat), p + n = 8 → q.2 ≤ l.length + 1 → Post (bbI (latF l w i n p q)) I → wp_X10_goesLatest_9 Post (n + 1) (nI w) (nI i) (bbI q) (mmI l.length q.2) (nI p) I := by
    intro n
    induction n with
    | zero =>
      intro p q hp hq2 hq
      unfold wp_X10_goesLatest_9
      exact t_le 8 p rfl rfl (by omega) (by omega) (fun _ => hq) (fun q => by omega)
    | succ n ih =>
      intro p q hp hq2 hq
      unfold wp_X10_goesLatest_9
      refine t_le 8 p rfl rfl (by omega) (by omega) (fun q => by omega) (fun hp8 => ?_)
      refine m_isIn2 hw hp8 ?_
      simp only [latF] at hq
      have hnx := nx_le (l := l) (p := p) (j := i + 1) (by omega)
      have ej : nI p + 1 = nI (p + 1) := nI_1 p
      by_cases ht : w.testBit p = true
      · rw [if_pos ht, if_neg (by decide)]
        refine m_nextOf hp8 hi hl hlp h8 hA ?_
        have hle := mmI_le hl hq2 hnx
        unfold wp_X10_goesLatest_36
        refine t_if (fun hc => ?_) (fun hc => ?_)
        · rw [if_neg (fun hh => (hle.mp hc) hh.2)] at hq
          unfold wp_X10_goesLatest_51
          rw [if_pos hc]
          unfold wp_X10_goesLatest_66
          rw [ej]
          exact ih (p + 1) q (by omega) hq2 hq
        · have : q.2 < nx l p (i + 1) + 1 := Classical.byContradiction (fun hh => hc (hle.mpr hh))
          rw [if_pos ⟨ht, this⟩] at hq
          unfold wp_X10_goesLatest_51
          rw [if_neg hc]
          unfold wp_X10_goesLatest_66
          rw [ej]
          exact ih (p + 1) (p, nx l p (i + 1) + 1) (by omega) (by show nx l p (i + 1) + 1 ≤ _; omega) hq
      · rw [if_neg ht, if_pos rfl]
        rw [if_neg (fun hh => ht hh.1)] at hq
        have hc := mmI_m1 hl hq2
        unfold wp_X10_goesLatest_36
        rw [if_pos hc]
        unfold wp_X10_goesLatest_51
        rw [if_pos hc]
        unfold wp_X10_goesLatest_66
        rw [ej]
        exact ih (p + 1) q (by omega) hq2 hq
  refine ⟨_, key 8 0 (0, 0) rfl (by omega) ?_⟩
  unfold bbI
  rw [if_neg (lat_ne hw hw0)]; exact h
theorem s10_latest (hw : wfS z) (hv : MV z I) (h : Post (v_latest z x y) I) : wp_X10_latest x y I Post := by
  have hl := hw.2.1
  have hlp := hw.2.2.1
  unfold wp_X10_latest
  unfold v_latest at h
  refine m_noAsk hw.2.1 hv.2.1.1 ?_
  rw [ite10]
  refine t_if (fun hy => ?_) (fun hy => ?_)
  · rw [if_pos hy] at h
    obtain ⟨ey, -, hyl⟩ := hy.n (by omega)
    refine w10 (a := 1) (b := 9) (by decide) (by decide) ?_
    rw [ite01]
    refine t_if (fun hx => ?_) (fun hx => ?_)
    · rw [if_pos hx] at h
      obtain ⟨ex, h1, h9⟩ := hx.n (by decide)
      rw [ex, ey]
      generalize x.toNatClampNeg = f at *
      generalize y.toNatClampNeg = i at *
      have key : ∀ n j x4, j + n = i + 1 → (j = i + 1 → x4 = gAt (s_l z) f i) → wp_X10_latest_34 Post (n + 1) (nI f) (nI i) (nI (bel (s_l z) f j).1) x4 (nI j) I := by
        intro n
        induction n with
        | zero =>
          intro j x4 hj e4
          unfold wp_X10_latest_34
          exact t_lt i j rfl rfl (by omega) (by omega) (fun _ => by rw [e4 (by omega)]; exact h) (fun q => by omega)
        | succ n ih =>
          intro j x4 hj e4
          unfold wp_X10_latest_34
          refine t_lt i j rfl rfl (by omega) (by omega) (fun q => by omega) (fun _ => ⟨vp_in_nI (by omega) (by decide), ?_⟩)
          have hjl : j < (s_l z).length := by omega
          have hp := hlp _ (mem_of_getD hjl)
          obtain ⟨hw1, hw2, hw3⟩ := bel_lt (l := s_l z) h1 hlp j (by omega)
          have hln : I 106 (nI j).toNatClampNeg = nI ((s_l z).getD j 0) := by rw [nI_clamp (by omega)]; exact hv.2.1.2 j hjl
          rw [hln]
          refine m_isIn2 hw1 hp ?_
          have hb : bel (s_l z) f (j + 1) = if (bel (s_l z) f j).1.testBit ((s_l z).getD j 0) = true then bel (s_l z) f j else if p8 (bel (s_l z) f j).1 = f then (((bel (s_l z) f j).1 &&& (255 - 2 ^ (lat (s_l z) (bel (s_l z) f j).1 j))) ||| 2 ^ ((s_l z).getD j 0), (bel (s_l z) f j).2 + 1) else ((bel (s_l z) f j).1 ||| 2 ^ ((s_l z).getD j 0), (bel (s_l z) f j).2 + 1) := rfl
          have hg : gAt (s_l z) f j = if (bel (s_l z) f j).1.testBit ((s_l z).getD j 0) = true then -9 else if p8 (bel (s_l z) f j).1 = f then nI (lat (s_l z) (bel (s_l z) f j).1 j) else -9 := rfl
          have ih := ih (j + 1)
          rw [hb] at ih
          have ej : nI j + 1 = nI (j + 1) := nI_1 j
          have hin : vp_in (nI j) 24 := vp_in_nI (by omega) (by decide)
          by_cases ht : (bel (s_l z) f j).1.testBit ((s_l z).getD j 0) = true
          · rw [if_pos ht] at ih hg
            rw [if_pos ht, if_neg (by decide)]
            unfold wp_X10_latest_66 wp_X10_latest_67
            rw [if_pos rfl]
            unfold wp_X10_latest_86
            rw [if_pos rfl]
            unfold wp_X10_latest_105
            refine ⟨hin, ?_⟩
            rw [hln, bt_or _ hw1 _ hp, bt_or_in _ hw1 _ hp ht, ej]
            exact ih _ (by omega) (fun e => by rw [show i = j by omega]; exact hg.symm)
          · rw [if_neg ht] at ih hg
            rw [if_neg ht, if_pos rfl]
            refine m_bits hw1 ?_
            refine t_eq (p8 (bel (s_l z) f j).1) f rfl rfl (by omega) (by omega) (fun he => ?_) (fun he => ?_)
            · rw [if_pos he] at ih hg
              obtain ⟨a, b, -⟩ := lat_ok (l := s_l z) (i := j) hw1 (by omega)
              unfold wp_X10_latest_67
              rw [if_neg (by decide)]
              refine m_goes hw1 (by omega) hjl hl hlp hv.2.1.1 hv.2.1.2 ?_
              unfold wp_X10_latest_86
              rw [if_neg (by decide)]
              unfold wp_X10_latest_105
              refine ⟨hin, ?_⟩
              rw [hln, show nI (bel (s_l z) f j).1 &&& (((1 : Int32) <<< (nI (lat (s_l z) (bel (s_l z) f j).1 j) &&& 31)) ^^^ (-1 : Int32)) = _ from bt_clr _ hw1 _ a, bt_or _ (bt_cl _ hw1 _ a) _ hp, ej]
              exact ih _ (by omega) (fun e => by rw [show i = j by omega]; exact hg.symm)
            · rw [if_neg he] at ih hg
              unfold wp_X10_latest_66 wp_X10_latest_67
              rw [if_pos rfl]
              unfold wp_X10_latest_86
              rw [if_pos rfl]
              unfold wp_X10_latest_105
              refine ⟨hin, ?_⟩
              rw [hln, bt_or _ hw1 _ hp, ej]
              exact ih _ (by omega) (fun e => by rw [show i = j by omega]; exact hg.symm)
      exact ⟨_, key (i + 1) 0 _ (by omega) (fun e => by omega)⟩
    · rw [if_neg hx] at h; exact h
  · rw [if_neg hy] at h; exact h
end LTS
