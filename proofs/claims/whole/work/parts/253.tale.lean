/-! tale; what taking cells of a sheet is refused with (room too) -/
def bar (z : St) (k : Nat) (la i n : Int32) : Int32 := match s_s z k with
  | none => 1
  | some q => if nI q.1 = la then (if n < 0 then 4 else if Hs i n q.2.1 then 0 else 3) else 2
def fas (la : Int32) : Option (Nat × Nat × (Nat → Int32)) → Int32
  | none => 1
  | some q => if nI q.1 = la then 0 else 2
def cl (z : St) (k j : Nat) : Int32 := match s_s z k with
  | none => 0
  | some q => q.2.2 j
def tlF (k f : Nat) (c : Nat → Int32) : Nat → Nat → DS → Int32 → DS × Int32
  | 0, _, s, w => (s, w)
  | n + 1, j, s, w => tlF k f c n (j + 1) (stp k f s (c j).toNatClampNeg) (if (c j).toNatClampNeg ∈ s.1 then w else if w = -9 then nI j else w)
def tlV (k f : Nat) (s : DS) (R : DS × Int32) (w : Int32) : Int32 := if w = 0 then nI R.1.2.2 - nI s.2.2 else if w = 1 then nI (setL R.1.1) else if w = 2 then goV k f R.1 else if w = 3 then nI R.1.2.1 else R.2
abbrev allP (z : St) (k a m : Nat) : Prop := ∀ j, j < m → InR (cl z k (a + j)) 0 8
def u_tale (z : St) (x la i n d w : Int32) : Int32 × St := if InR x 0 4 then (if InR d 0 (s_n z) then (if InR la 0 3 then (if InR n 0 21 then (if InR w 0 5 then (if bar z x.toNatClampNeg la i n = 0 then (if allP z x.toNatClampNeg i.toNatClampNeg n.toNatClampNeg then (tlV (s_k z d.toNatClampNeg) (s_f z d.toNatClampNeg) (now z d.toNatClampNeg) (tlF (s_k z d.toNatClampNeg) (s_f z d.toNatClampNeg) (fun j => cl z x.toNatClampNeg (i.toNatClampNeg + j)) n.toNatClampNeg 0 (now z d.toNatClampNeg) (-9)) w, zt z 0) else (-2, zt z 0)) else (-10 - bar z x.toNatClampNeg la i n, zt z (bar z x.toNatClampNeg la i n))) else (-2, zt z 0)) else (-2, zt z 0)) else (-2, zt z 0)) else (-1, zt z 0)) else (-1, zt z 0)
theorem wf_zt {z : St} {t : Int32} (hw : wfS z) : wfS (zt z t) := hw
section TLE
variable {ki : Nat → Nat} {z : St} {I : Mm} {x y w la i n d : Int32} {Post : Int32 → Mm → Prop}
theorem wf_tale (hw : wfS z) : wfS (u_tale z x la i n d w).2 := by
  unfold u_tale
  repeat' split
  all_goals exact hw
/-- a sheet from which cells may be taken -/
theorem bar_0 {k : Nat} (h : bar z k la i n = 0) : ∃ q, s_s z k = some q ∧ nI q.1 = la ∧ Hs i n q.2.1 := by
  unfold bar at h
  cases hq : s_s z k with
  | none => rw [hq] at h; exact absurd h (show ¬ (1 : Int32) = 0 by decide)
  | some q =>
    simp only [hq] at h
    by_cases h1 : nI q.1 = la
    · rw [if_pos h1] at h
      by_cases h2 : n < 0
      · rw [if_pos h2] at h; exact absurd h (by decide)
      · rw [if_neg h2] at h
        by_cases h3 : Hs i n q.2.1
        · exact ⟨q, rfl, h1, h3⟩
        · rw [if_neg h3] at h; exact absurd h (by decide)
    · rw [if_neg h1] at h; exact absurd h (by decide)
theorem w_faultAs {dd : Nat} {A : Nat → Int32} {q : Option (Nat × Nat × (Nat → Int32))} (hq3 : ∀ r, q = some r → r.1 < 3) (hs : shC9 (I dd) A q) (h : Post (fas la q) I) : wp_X6_faultAs dd la I Post := by
  unfold wp_X6_faultAs
  refine w_nothing hq3 hs ?_
  rw [ite01]
  cases q with
  | none => rw [if_pos rfl]; exact h
  | some r =>
    rw [if_neg (by simp), hs.1]
    refine t_if (fun e => ?_) (fun e => ?_)
    · simp only [fas, if_pos e] at h; exact h
    · simp only [fas, if_neg e] at h; exact h
theorem m_barred (hw : wfS z) (hv : MV z I) (hx : InR x 0 4) (h0 : bar z x.toNatClampNeg la i n = 0 → Post 0 I) (hf : bar z x.toNatClampNeg la i n ≠ 0 → Post (-10 - bar z x.toNatClampNeg la i n) (up2 I 100 0 (bar z x.toNatClampNeg la i n))) : wp_X10_cellsBarred x la i n.toInt64 I Post := by
  obtain ⟨hin, ex, hk, hsh⟩ := c_msheet hw hv hx
  unfold wp_X10_cellsBarred
  refine ⟨hin, ?_⟩
  unfold bar at h0 hf
  cases hq : s_s z x.toNatClampNeg with
  | none =>
    rw [hq] at hsh
    have hsh : I 125 x.toNatClampNeg = -1 := hsh
    simp only [hq] at hf
    rw [hsh, if_pos (by decide)]
    unfold wp_X10_cellsBarred_25
    refine ⟨hin, ?_⟩
    rw [hsh, if_neg (by decide)]
    exact hf (by decide)
  | some q =>
    have hb := hw.2.2.2.2.2.2.1 _ q hk hq
    rw [hq] at hsh
    obtain ⟨e1, e2, -⟩ := hsh
    simp only [hq] at h0 hf
    rw [e1]
    refine t_lt q.2.1 0 rfl rfl (by omega) (by decide) (fun qq => absurd qq (Nat.not_lt_zero _)) (fun _ => ⟨hin, ?_⟩)
    rw [e2]
    refine t_if (fun hl => ?_) (fun hl => ?_)
    · rw [if_pos hl] at h0 hf
      unfold wp_X10_cellsBarred_25
      refine ⟨hin, ?_⟩
      rw [e1]
      refine t_le 0 q.2.1 rfl rfl (by decide) (by omega) (fun _ => ?_) (fun qq => by omega)
      have hl0 : 0 ≤ lg_cmp n.toInt64 (0 : Int64) ↔ ¬ n < 0 := by
        have h1 := lg_cmp_lt n.toInt64 (0 : Int64)
        rw [Int64.lt_iff_toInt_lt, Int32.toInt_toInt64] at h1
        rw [Int32.lt_iff_toInt_lt]
        have z1 : (0 : Int64).toInt = 0 := by decide
        have z2 : (0 : Int32).toInt = 0 := by decide
        rw [z1] at h1
        rw [z2, ← h1]
        exact Int32.not_lt.symm
      refine t_if (fun hn0 => ⟨hin, ?_⟩) (fun hn0 => ?_)
      · rw [if_neg (hl0.mp hn0)] at h0 hf
        refine m_beyond (len := q.2.1) hb.2 rfl ?_
        rw [ite10]
        refine t_if (fun hh => ?_) (fun hh => ?_)
        · rw [if_pos hh] at h0; exact h0 rfl
        · rw [if_neg hh] at hf; exact hf (by decide)
      · have : n < 0 := Classical.byContradiction (fun q => hn0 (hl0.mpr q))
        rw [if_pos this] at hf
        exact hf (by decide)
    · rw [if_neg hl] at hf
      exact hf (by decide)
theorem P_told {k a m : Nat} {q : Nat × Nat × (Nat → Int32)} {dk : Nat} (hw : wfS z) (hv : CV ki z I) (hd : dk < s_n z) (hk : k < 4) (hq : s_s z k = some q) (ha : a + m ≤ q.2.1) (hall : allP z k a m) (h : ∀ I', SC I I' → Post (tlV (s_k z dk) (s_f z dk) (now z dk) (tlF (s_k z dk) (s_f z dk) (fun j => cl z k (a + j)) m 0 (now z dk) (-9)) w) I') : wp_X9_toldOn ki (s_n z) (40 + dk) (20 + k) (nI a) (nI m) w I Post := by
  have hn := hw.1
  have hb := hw.2.2.2.2.2.2.1 _ q hk hq
  obtain ⟨ok, k3, f1, f5⟩ := wf_now hw hd
  obtain ⟨hki, hr⟩ := hv.2.2.2.1 _ hd
  have hki3 : ki (30 + s_k z dk) = kc (s_k z dk) := hv.2.2.2.2.2.2.2.2 _ k3
  unfold wp_X9_toldOn
  refine p_kind k3 hki ⟨vp_in_nI k3 (by decide), ?_⟩
  rw [nI_clamp (by omega)]
  have key : ∀ n j (s : DS) (v : Int32) (J : Mm), j + n = m → SC I J → okD (s_f z dk) s → rp (J (30 + s_k z dk)) (J (30 + s_k z dk + 20)) (s_f z dk) s → (∀ I', SC I I' → Post (tlV (s_k z dk) (s_f z dk) (now z dk) (tlF (s_k z dk) (s_f z dk) (fun j => cl z k (a + j)) n j s v) w) I') → wp_X9_toldOn_24 ki (s_n z) (40 + dk) (20 + k) (fun x5 c6 x7 I => wp_X9_toldOn_69 ki (s_n z) (40 + dk) (20 + k) Post x5 c6 x7 I) Post (n + 1) (nI a) (nI m) w (30 + s_k z dk) v (nI j) J := by
    intro n
    induction n with
    | zero =>
      intro j s v J hj hs hok hrJ hq
      unfold wp_X9_toldOn_24
      refine t_le m j rfl rfl (by omega) (by omega) (fun _ => ?_) (fun q => by omega)
      show wp_X9_toldOn_69 ki (s_n z) (40 + dk) (20 + k) Post w _ v J
      unfold wp_X9_toldOn_69
      have hP := hq J hs
      simp only [tlF, tlV] at hP
      have hrd := ((hv.sc hn hs).2.2.2.1 _ hd).2
      refine t_if (fun h0 => ?_) (fun h0 => t_if (fun h1 => ?_) (fun h1 => t_if (fun h2 => ?_) (fun h2 => t_if (fun h3 => ?_) (fun h3 => ?_))))
      · rw [if_pos h0] at hP
        rw [hrJ.2.2.2.1, hrd.2.2.2.1]; exact hP
      · rw [if_neg h0, if_pos h1] at hP
        exact P_pages hrJ hok (by omega) hP
      · rw [if_neg h0, if_neg h1, if_pos h2] at hP
        exact P_next k3 hki3 hrJ hok (by omega) f1 hP
      · rw [if_neg h0, if_neg h1, if_neg h2, if_pos h3] at hP
        rw [hrJ.2.2.1]; exact hP
      · rw [if_neg h0, if_neg h1, if_neg h2, if_neg h3] at hP
        exact hP
    | succ n ih =>
      intro j s v J hj hs hok hrJ hP
      unfold wp_X9_toldOn_24
      refine t_le m j rfl rfl (by omega) (by omega) (fun q => by omega) (fun _ => ?_)
      rw [nI_add, nI_clamp (by omega)]
      refine ⟨vp_in_nI (by omega) (by decide), ?_⟩
      have hcell : J (20 + k + 4) (a + j) = cl z k (a + j) := by
        have := (hv.sc hn hs).2.2.2.2.2.1 k hk
        rw [hq] at this
        unfold cl
        rw [hq]
        exact this.2.2 _ (by omega)
      rw [hcell]
      have hc8 := hall j (by omega)
      obtain ⟨ec, -, hc⟩ := hc8.n (by decide)
      rw [ec]
      refine P_serve k3 hki3 hrJ hok (by omega) f1 hc (fun J' hfr hr' => ?_)
      have hs' : SC I J' := hs.tr (hfr.sc k3)
      have hok' := stp_ok (k := s_k z dk) hok f1 hc
      simp only [tlF] at hP
      have ej : nI j + 1 = nI (j + 1) := nI_1 j
      by_cases hm : (cl z k (a + j)).toNatClampNeg ∈ s.1
      · simp only [if_pos hm] at hP
        rw [if_pos hm, if_neg (by decide)]
        unfold wp_X9_toldOn_63
        rw [ej]
        exact ih (j + 1) _ _ J' (by omega) hs' hok' hr' hP
      · simp only [if_neg hm] at hP
        rw [if_neg hm, if_pos rfl]
        refine t_if (fun h9 => ?_) (fun h9 => ?_)
        · simp only [if_pos h9] at hP
          unfold wp_X9_toldOn_63
          rw [ej]
          exact ih (j + 1) _ _ J' (by omega) hs' hok' hr' hP
        · simp only [if_neg h9] at hP
          unfold wp_X9_toldOn_63
          rw [ej]
          exact ih (j + 1) _ _ J' (by omega) hs' hok' hr' hP
  refine P_become (by omega) (by omega) hr ok (by omega) (fun J hfr hrJ => ?_)
  exact ⟨_, key m 0 (now z dk) (-9) J (by omega) (hfr.sc k3) ok hrJ h⟩
theorem s9_tale (hw : wfS z) (hv : CV ki z I) (h : ∀ I', FC I I' → CV ki (u_tale z x la i n d w).2 I' → Post (u_tale z x la i n d w).1 I') : wp_X9_tale ki (s_n z) x la i n d w I Post := by
  have hn := hw.1
  unfold wp_X9_tale
  unfold u_tale at h
  have rf1 : (∀ I', FC I I' → CV ki (zt z 0) I' → Post (-1) I') → wp_X9_tale_16 ki (s_n z) Post I := fun hh => by
    unfold wp_X9_tale_16 wp_X9_refused
    exact hh _ (FC.up (by decide)) hv.t
  have rf2 : (∀ I', FC I I' → CV ki (zt z 0) I' → Post (-2) I') → wp_X9_tale_52 ki (s_n z) Post I := fun hh => by
    unfold wp_X9_tale_52 wp_X9_refused
    exact hh _ (FC.up (by decide)) hv.t
  refine w_sheet ?_
  rw [ite01]
  refine t_if (fun hx => ?_) (fun hx => ?_)
  · simp only [if_pos hx] at h
    refine w_isDesk hw.1 hv.1 ?_
    rw [ite01]
    refine t_if (fun hd => ?_) (fun hd => ?_)
    · simp only [if_pos hd] at h
      obtain ⟨ed, -, hdk⟩ := hd.n (by omega)
      refine w9 (a := 0) (b := 3) (by decide) (by decide) ?_
      rw [ite01]
      refine t_if (fun hla => ?_) (fun hla => ?_)
      · simp only [if_pos hla] at h
        refine w9 (a := 0) (b := 21) (by decide) (by decide) ?_
        rw [ite01]
        refine t_if (fun hnn => ?_) (fun hnn => ?_)
        · simp only [if_pos hnn] at h
          obtain ⟨en, -, hn21⟩ := hnn.n (by decide)
          refine w9 (a := 0) (b := 5) (by decide) (by decide) ?_
          rw [ite01]
          refine t_if (fun hww => ?_) (fun hww => ?_)
          · simp only [if_pos hww] at h
            obtain ⟨hin, ex, hk, hsh⟩ := c_sheet hw hv hx
            refine ⟨hin, w_faultAs (fun r hr => (hw.2.2.2.2.2.2.1 _ r hk hr).1) hsh ?_⟩
            have bad : ∀ t : Int32, t ≠ 0 → bar z x.toNatClampNeg la i n = t → wp_X9_tale_94 ki (s_n z) Post i n d w (20 + x.toNatClampNeg) t I := by
              intro t ht hb
              unfold wp_X9_tale_94
              rw [if_neg ht]
              simp only [hb, if_neg ht] at h
              exact h _ (FC.up (by decide)) hv.t
            have n0 : ¬ n < 0 := by
              rw [en, show (0 : Int32) = nI 0 from rfl, nI_ltI (by omega) (by decide)]; omega
            cases hq : s_s z x.toNatClampNeg with
            | none =>
              rw [show fas la none = 1 from rfl, if_neg (by decide)]
              exact bad 1 (by decide) (by unfold bar; rw [hq])
            | some q =>
              have hb := hw.2.2.2.2.2.2.1 _ q hk hq
              rw [hq] at hsh
              by_cases hl : nI q.1 = la
              · rw [show fas la (some q) = 0 from if_pos hl, if_pos rfl]
                refine w_hasS (len := q.2.1) hb.2 hsh.2.1 ?_
                rw [ite01]
                refine t_if (fun hh => ?_) (fun hh => ?_)
                · have hbar : bar z x.toNatClampNeg la i n = 0 := by unfold bar; simp only [hq]; rw [if_pos hl, if_neg n0, if_pos hh]
                  simp only [if_pos hbar] at h
                  unfold wp_X9_tale_94
                  rw [if_pos rfl]
                  obtain ⟨ei, -, hsum, -⟩ := Hs_n hh hb.2
                  rw [ei, en, ed]
                  generalize x.toNatClampNeg = k at *
                  generalize i.toNatClampNeg = a at *
                  generalize n.toNatClampNeg = m at *
                  generalize d.toNatClampNeg = dk at *
                  have hv0 : CV ki (zt z 0) (up2 I 0 10 0) := hv.t
                  have fc0 : FC I (up2 I 0 10 0) := FC.up (by decide)
                  have key : ∀ nn j, j + nn = m → (∀ j', j' < j → InR (cl z k (a + j')) 0 8) → wp_X9_tale_114 ki (s_n z) (fun x3 x4 x5 x6 c7 I => wp_X9_tale_146 ki (s_n z) Post x3 x4 x5 x6 c7 I) Post (nn + 1) (nI a) (nI m) (nI dk) w (20 + k) (nI (a + j)) (up2 I 0 10 0) := by
                    intro nn
                    induction nn with
                    | zero =>
                      intro j hj hpre
                      have : j = m := by omega
                      subst this
                      unfold wp_X9_tale_114
                      rw [nI_add]
                      refine t_le (a + j) (a + j) rfl rfl (by omega) (by omega) (fun _ => ?_) (fun q => by omega)
                      show wp_X9_tale_146 ki (s_n z) Post _ _ _ _ _ _
                      unfold wp_X9_tale_146
                      refine ⟨vp_in_nI hdk (by omega), ?_⟩
                      rw [nI_clamp (by omega)]
                      have hall : allP z k a j := fun j' hj' => hpre j' hj'
                      simp only [if_pos hall] at h
                      exact P_told (z := zt z 0) (wf_zt hw) hv0 hdk hk hq hsum hall (fun I' hs => h I' (fc0.tr hs.fc) (hv0.sc (z := zt z 0) hn hs))
                    | succ nn ih =>
                      intro j hj hpre
                      unfold wp_X9_tale_114
                      rw [nI_add]
                      refine t_le (a + m) (a + j) rfl rfl (by omega) (by omega) (fun q => by omega) (fun _ => ⟨vp_in_nI (by omega) (by decide), ?_⟩)
                      rw [nI_clamp (by omega)]
                      have hcell : up2 I 0 10 0 (20 + k + 4) (a + j) = cl z k (a + j) := by
                        rw [up2_oc (by omega)]
                        unfold cl
                        rw [hq]
                        exact hsh.2.2 _ (by omega)
                      rw [hcell]
                      refine w_page ?_
                      rw [ite01]
                      refine t_if (fun hp => ?_) (fun hp => ?_)
                      · rw [show nI (a + j) + 1 = nI (a + j + 1) from nI_1 _, Nat.add_assoc]
                        refine ih (j + 1) (by omega) (fun j' hj' => ?_)
                        by_cases e : j' = j
                        · subst e; exact hp
                        · exact hpre j' (by omega)
                      · have hall : ¬ allP z k a m := fun hh => hp (hh j (by omega))
                        simp only [if_neg hall] at h
                        exact h _ fc0 hv0
                  have := key m 0 (by omega) (fun j' hj' => absurd hj' (Nat.not_lt_zero _))
                  exact ⟨_, this⟩
                · exact bad 3 (by decide) (by unfold bar; simp only [hq]; rw [if_pos hl, if_neg n0, if_neg hh])
              · rw [show fas la (some q) = 2 from if_neg hl, if_neg (by decide)]
                exact bad 2 (by decide) (by unfold bar; simp only [hq]; rw [if_neg hl])
          · simp only [if_neg hww] at h; exact rf2 h
        · simp only [if_neg hnn] at h; exact rf2 h
      · simp only [if_neg hla] at h; exact rf2 h
    · simp only [if_neg hd] at h; exact rf1 h
  · simp only [if_neg hx] at h; exact rf1 h
theorem M_told {k a m : Nat} {q : Nat × Nat × (Nat → Int32)} {dk : Nat} {K : Int32 → Int32 → Int32 → Mm → Prop} {x9 : Int32} (hw : wfS z) (hv : MV z I) (hk : k < 4) (hdk : dk < s_n z) (hq : s_s z k = some q) (ha : a + m ≤ q.2.1) (hall : allP z k a m) : ∀ n j (s : DS) (v : Int32) (J : Mm), j + n = m → SM I J → okD (s_f z dk) s → mp (J 100) (J 118) (s_k z dk) (s_f z dk) s → (v = -9 ∨ 0 ≤ v) → (∀ I', SM I I' → mp (I' 100) (I' 118) (s_k z dk) (s_f z dk) (tlF (s_k z dk) (s_f z dk) (fun j => cl z k (a + j)) n j s v).1 → okD (s_f z dk) (tlF (s_k z dk) (s_f z dk) (fun j => cl z k (a + j)) n j s v).1 → K w x9 (tlF (s_k z dk) (s_f z dk) (fun j => cl z k (a + j)) n j s v).2 I') → wp_X10_tale_153 K Post (n + 1) (nI m) w (nI (60 * k + a)) x9 v (nI j) J := by
  have hn := hw.1
  have hb := hw.2.2.2.2.2.2.1 _ q hk hq
  obtain ⟨ok, k3, f1, f5⟩ := wf_now hw hdk
  intro n
  induction n with
  | zero =>
    intro j s v J hj hs hok hrJ hv9 hK
    unfold wp_X10_tale_153
    refine t_le m j rfl rfl (by omega) (by omega) (fun _ => ?_) (fun q => by omega)
    exact hK J hs hrJ hok
  | succ n ih =>
    intro j s v J hj hs hok hrJ hv9 hK
    unfold wp_X10_tale_153
    refine t_le m j rfl rfl (by omega) (by omega) (fun q => by omega) (fun _ => ?_)
    rw [nI_add, nI_clamp (by omega)]
    refine ⟨vp_in_nI (by omega) (by decide), ?_⟩
    have hcell : J 127 (60 * k + a + j) = cl z k (a + j) := by
      have := (hv.sm hs).2.2.2.2.2.1 k hk
      rw [hq] at this
      unfold cl
      rw [hq, Nat.add_assoc]
      exact this.2.2 _ (by omega)
    rw [hcell]
    have hc8 := hall j (by omega)
    obtain ⟨ec, -, hc⟩ := hc8.n (by decide)
    rw [ec]
    refine M_plays k3 hrJ hok (by omega) f1 hc (fun J' hs1 hr' => ?_)
    have hs' : SM I J' := hs.tr hs1
    have hok' := stp_ok (k := s_k z dk) hok f1 hc
    simp only [tlF] at hK
    have ej : nI j + 1 = nI (j + 1) := nI_1 j
    have hj0 : (0 : Int32) ≤ nI j := by
      rw [show (0 : Int32) = nI 0 from rfl, nI_leI (by decide) (by omega)]; omega
    by_cases hm : (cl z k (a + j)).toNatClampNeg ∈ s.1
    · simp only [if_pos hm] at hK
      rw [if_pos hm, if_pos rfl]
      unfold wp_X10_tale_191 wp_X10_tale_193
      rw [ej]
      exact ih (j + 1) _ _ J' (by omega) hs' hok' hr' hv9 hK
    · simp only [if_neg hm] at hK
      rw [if_neg hm, if_neg (by decide)]
      refine t_if (fun h9 => ?_) (fun h9 => ?_)
      · have e9 : ¬ v = -9 := by
          intro e; subst e; exact absurd h9 (by decide)
        simp only [if_neg e9] at hK
        unfold wp_X10_tale_191 wp_X10_tale_193
        rw [ej]
        exact ih (j + 1) _ _ J' (by omega) hs' hok' hr' hv9 hK
      · have e9 : v = -9 := by
          rcases hv9 with e | e
          · exact e
          · exact absurd e h9
        simp only [if_pos e9] at hK
        unfold wp_X10_tale_193
        rw [ej]
        exact ih (j + 1) _ _ J' (by omega) hs' hok' hr' (Or.inr hj0) hK
theorem s10_tale (hw : wfS z) (hv : MV z I) (h : ∀ I', FM I I' → MV (u_tale z x la i n d w).2 I' → Post (u_tale z x la i n d w).1 I') : wp_X10_tale x la i n d w I Post := by
  have hn := hw.1
  unfold wp_X10_tale
  unfold u_tale at h
  have rf1 : (∀ I', FM I I' → MV (zt z 0) I' → Post (-1) I') → wp_X10_tale_16 Post I := fun hh => by
    unfold wp_X10_tale_16 wp_X10_refused
    exact hh _ (FM.up (by decide)) hv.t
  have rf2 : (∀ I', FM I I' → MV (zt z 0) I' → Post (-2) I') → wp_X10_tale_60 Post I := fun hh => by
    unfold wp_X10_tale_60 wp_X10_refused
    exact hh _ (FM.up (by decide)) hv.t
  refine m_noSheet ?_
  rw [ite10]
  refine t_if (fun hx => ?_) (fun hx => ?_)
  · simp only [if_pos hx] at h
    refine m_noDesk hw.1 hv.1 ?_
    rw [ite10]
    refine t_if (fun hd => ?_) (fun hd => ?_)
    · simp only [if_pos hd] at h
      obtain ⟨ed, -, hdk⟩ := hd.n (by omega)
      refine w10 (a := 0) (b := 3) (by decide) (by decide) ?_
      rw [ite01]
      refine t_if (fun hla => ?_) (fun hla => ?_)
      · simp only [if_pos hla] at h
        refine w10 (a := 0) (b := 21) (by decide) (by decide) ?_
        rw [ite01]
        refine t_if (fun hnn => ?_) (fun hnn => ?_)
        · simp only [if_pos hnn] at h
          obtain ⟨en, -, hn21⟩ := hnn.n (by decide)
          refine w10 (a := 0) (b := 5) (by decide) (by decide) ?_
          rw [ite01]
          refine t_if (fun hww => ?_) (fun hww => ?_)
          · simp only [if_pos hww] at h
            obtain ⟨hin, ex, hk, hsh⟩ := c_msheet hw hv hx
            refine m_barred hw hv hx (fun hbar => ?_) (fun hbar => ?_)
            · obtain ⟨q, hq, hl, hh⟩ := bar_0 hbar
              have hb := hw.2.2.2.2.2.2.1 _ q hk hq
              rw [hq] at hsh
              simp only [if_pos hbar] at h
              rw [if_pos (by decide)]
              obtain ⟨ei, -, hsum, -⟩ := Hs_n hh hb.2
              rw [idx60 ex ei]
              rw [en]
              obtain ⟨ok, k3, f1, f5⟩ := wf_now hw hdk
              generalize x.toNatClampNeg = k at *
              generalize i.toNatClampNeg = a at *
              generalize n.toNatClampNeg = m at *
              have key : ∀ nn j, j + nn = m → (∀ j', j' < j → InR (cl z k (a + j')) 0 8) → wp_X10_tale_98 (fun I => wp_X10_tale_121 Post I) (fun x4 x5 x6 x8 I => wp_X10_tale_134 Post x4 x5 x6 x8 I) Post (nn + 1) (nI m) d w (nI (60 * k + a)) (nI j) I := by
                intro nn
                induction nn with
                | zero =>
                  intro j hj hpre
                  have : j = m := by omega
                  subst this
                  unfold wp_X10_tale_98
                  refine t_le j j rfl rfl (by omega) (by omega) (fun _ => ?_) (fun q => by omega)
                  show wp_X10_tale_134 Post _ _ _ _ _
                  unfold wp_X10_tale_134
                  have hall : allP z k a j := fun j' hj' => hpre j' hj'
                  simp only [if_pos hall] at h
                  refine M_now hw hv hd (fun J hs hr => ?_)
                  refine ⟨_, M_told (z := z) (I := I) hw hv hk hdk hq hsum hall j 0 _ (-9) J (by omega) hs ok hr (Or.inl rfl) (fun I' hs' hr' hok' => ?_)⟩
                  show wp_X10_tale_201 Post _ _ _ _
                  unfold wp_X10_tale_201
                  have fin : ∀ v, (∀ I', FM I I' → MV (zt z 0) I' → Post v I') → wp_X10_tale_258 Post v I' := fun v hh => by
                    unfold wp_X10_tale_258 wp_X10_refused
                    exact hh _ (hs'.fm.tr (FM.up (by decide))) ((hv.sm hs').t)
                  have hP := h
                  simp only [tlV] at hP
                  refine t_if (fun h0 => ?_) (fun h0 => t_if (fun h1 => ?_) (fun h1 => t_if (fun h2 => ?_) (fun h2 => t_if (fun h3 => ?_) (fun h3 => ?_))))
                  · simp only [if_pos h0] at hP
                    rw [hr'.2.2.2.2.1, hr.2.2.2.2.1]; exact fin _ hP
                  · simp only [if_neg h0, if_pos h1] at hP
                    exact M_set hr' hok' (by omega) (fin _ hP)
                  · simp only [if_neg h0, if_neg h1, if_pos h2] at hP
                    exact M_go k3 hr' hok' (by omega) f1 (fin _ hP)
                  · simp only [if_neg h0, if_neg h1, if_neg h2, if_pos h3] at hP
                    rw [hr'.2.2.2.1]; exact fin _ hP
                  · simp only [if_neg h0, if_neg h1, if_neg h2, if_neg h3] at hP
                    exact fin _ hP
                | succ nn ih =>
                  intro j hj hpre
                  unfold wp_X10_tale_98
                  refine t_le m j rfl rfl (by omega) (by omega) (fun q => by omega) (fun _ => ?_)
                  rw [nI_add, nI_clamp (by omega)]
                  refine ⟨vp_in_nI (by omega) (by decide), ?_⟩
                  have hcell : I 127 (60 * k + a + j) = cl z k (a + j) := by
                    unfold cl
                    rw [hq, Nat.add_assoc]
                    exact hsh.2.2 _ (by omega)
                  rw [hcell]
                  refine m_page ?_
                  rw [ite01]
                  refine t_if (fun hp => ?_) (fun hp => ?_)
                  · rw [show nI j + 1 = nI (j + 1) from nI_1 _]
                    refine ih (j + 1) (by omega) (fun j' hj' => ?_)
                    by_cases e : j' = j
                    · subst e; exact hp
                    · exact hpre j' (by omega)
                  · have hall : ¬ allP z k a m := fun hh => hp (hh j (by omega))
                    simp only [if_neg hall] at h
                    show wp_X10_tale_121 Post _
                    unfold wp_X10_tale_121 wp_X10_refused
                    exact h _ (FM.up (by decide)) hv.t
              exact ⟨_, key m 0 (by omega) (fun j' hj' => absurd hj' (Nat.not_lt_zero _))⟩
            · simp only [if_neg hbar] at h
              have hneg : ¬ (0 : Int32) ≤ -10 - bar z x.toNatClampNeg la i n := by
                unfold bar
                cases s_s z x.toNatClampNeg with
                | none => exact (by decide : ¬ (0 : Int32) ≤ -10 - 1)
                | some q =>
                  dsimp only
                  repeat' split
                  all_goals decide
              rw [if_neg hneg]
              exact h _ (FM.up (by decide)) hv.t
          · simp only [if_neg hww] at h; exact rf2 h
        · simp only [if_neg hnn] at h; exact rf2 h
      · simp only [if_neg hla] at h; exact rf2 h
    · simp only [if_neg hd] at h; exact rf1 h
  · simp only [if_neg hx] at h; exact rf1 h
end TLE
