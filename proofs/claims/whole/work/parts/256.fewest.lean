/-! fewest of the model: the table over all sets -/
def tb (A : Nat → Int32) (T : Nat → Nat) : Prop := ∀ s, s < 256 → A s = nI (T s) ∧ T s ≤ 99
def FX (I J : Mm) : Prop := ∀ d, d ≠ 119 → d ≠ 120 → J d = I d
theorem FX.rf {I : Mm} : FX I I := fun _ _ _ => rfl
theorem FX.tr {I J K : Mm} (h1 : FX I J) (h2 : FX J K) : FX I K := fun d a b => (h2 d a b).trans (h1 d a b)
theorem FX.a {I : Mm} {j : Nat} {v : Int32} : FX I (up2 I 119 j v) := fun d a _ => up2_oc a
theorem FX.b {I : Mm} {j : Nat} {v : Int32} : FX I (up2 I 120 j v) := fun d _ b => up2_oc b
theorem FX.sm {I J : Mm} (h : FX I J) : SM I J := ⟨fun c hc => h c (fun e => hc (by subst e; decide)) (fun e => hc (by subst e; decide)), fun j _ => by rw [h 100 (by decide) (by decide)]⟩
/-- every entry of the table is no better than the desk that knows the line -/
def GT (l : List Nat) (f j : Nat) (T : Nat → Nat) : Prop := ∀ s, s < 256 → T s < 99 → Iv l f j (bel l f j).1 (bel l f j).2 s (T s)
section FWM
variable {z : St} {I : Mm} {x y w : Int32} {Post : Int32 → Mm → Prop} {Pt : Mm → Prop} {l : List Nat} {f j : Nat}
theorem GT_up {T : Nat → Nat} {s c : Nat} (h : GT l f j T) (hc : c < 99 → Iv l f j (bel l f j).1 (bel l f j).2 s c) : GT l f j (va_up T s (min (T s) c)) := by
  intro r hr ht
  by_cases e : r = s
  · subst e
    rw [va_up_self] at ht ⊢
    rcases Nat.le_total (T r) c with h1 | h1
    · rw [Nat.min_eq_left h1] at ht ⊢; exact h r hr ht
    · rw [Nat.min_eq_right h1] at ht ⊢; exact hc ht
  · rw [va_up_ne _ _ e] at ht ⊢; exact h r hr ht
theorem tb_up {A : Nat → Int32} {T : Nat → Nat} {s c : Nat} (h : tb A T) (hc : c ≤ 99) : tb (upd A s (nI c)) (va_up T s c) := by
  intro r hr
  by_cases e : r = s
  · subst e; rw [upd_s, va_up_self]; exact ⟨rfl, hc⟩
  · rw [upd_n _ _ e, va_up_ne _ _ e]; exact h r hr
theorem m_lets {T : Nat → Nat} {s c : Nat} (hs : s < 256) (hc : c ≤ 99) (ht : tb (I 120) T) (h : ∀ I', (∀ d, d ≠ 120 → I' d = I d) → tb (I' 120) (va_up T s (min (T s) c)) → Pt I') : wp_X10_lets (nI s) (nI c) I Pt := by
  have hin : vp_in (nI s) 256 := vp_in_nI hs (by decide)
  obtain ⟨e, b⟩ := ht s hs
  unfold wp_X10_lets
  refine ⟨hin, ?_⟩
  rw [nI_clamp (by omega), e]
  refine t_le (T s) c rfl rfl (by omega) (by omega) (fun q => ⟨hin, hin, ?_⟩) (fun q => ⟨hin, ?_⟩)
  · refine h _ (fun d hd => up2_oc hd) ?_
    rw [up2_c, Nat.min_eq_left q]
    exact tb_up ht b
  · refine h _ (fun d hd => up2_oc hd) ?_
    rw [up2_c, Nat.min_eq_right (by omega)]
    exact tb_up ht hc
theorem va_min_le {T : Nat → Nat} {s c r : Nat} : va_up T s (min (T s) c) r ≤ T r := by
  by_cases e : r = s
  · subst e; rw [va_up_self]; exact Nat.min_le_left _ _
  · rw [va_up_ne _ _ e]; exact Nat.le_refl _
theorem va_min_s {T : Nat → Nat} {s c : Nat} : va_up T s (min (T s) c) s ≤ c := by
  rw [va_up_self]; exact Nat.min_le_right _ _
theorem m_asksOne {A B : Nat → Nat} {s : Nat} (hf1 : 1 ≤ f) (hf : f ≤ 8) (hl : ∀ p ∈ l, p < 8) (hl24 : l.length ≤ 24) (hj : j < l.length) (hs : s < 256) (hA : tb (I 119) A) (hB : tb (I 120) B) (hi : Iv l f j (bel l f j).1 (bel l f j).2 s (A s)) (hG : GT l f (j + 1) B) (h : ∀ I' B', (∀ d, d ≠ 120 → I' d = I d) → tb (I' 120) B' → GT l f (j + 1) B' → (∀ r, B' r ≤ B r) → (s = (bel l f j).1 → A s ≤ (bel l f j).2 → B' (bel l f (j + 1)).1 ≤ (bel l f (j + 1)).2) → Pt I') : wp_X10_asksOne (nI s) (nI (l.getD j 0)) (nI f) I Pt := by
  have hp := hl _ (mem_of_getD (L := l) (j := j) hj)
  obtain ⟨hw1, hw2, hw3⟩ := bel_lt (l := l) hf1 hl j (by omega)
  have hb : bel l f (j + 1) = if (bel l f j).1.testBit (l.getD j 0) = true then bel l f j else if p8 (bel l f j).1 = f then (((bel l f j).1 &&& (255 - 2 ^ (lat l (bel l f j).1 j))) ||| 2 ^ (l.getD j 0), (bel l f j).2 + 1) else ((bel l f j).1 ||| 2 ^ (l.getD j 0), (bel l f j).2 + 1) := rfl
  have hcs := cn_p8 s hs
  obtain ⟨-, i2, i3, -, -⟩ := id hi
  have hst := fun s' c' => iv_s (s' := s') (c' := c') hf1 hl hj hi
  rw [hb] at h
  unfold wp_X10_asksOne
  refine ⟨vp_in_nI hs (by decide), ?_⟩
  rw [nI_clamp (by omega), (hA s hs).1]
  refine m_isIn2 hs hp ?_
  by_cases ht : s.testBit (l.getD j 0) = true
  · rw [if_pos ht, if_neg (by decide)]
    refine m_lets hs (by omega) hB (fun I' o hB' => ?_)
    refine h I' _ o hB' (GT_up hG (fun _ => hst _ _ (sv_hit hs hp i2 ht))) (fun r => va_min_le) (fun e1 e2 => ?_)
    rw [← e1, if_pos ht, ← e1]
    exact Nat.le_trans va_min_s e2
  · rw [if_neg ht, if_pos rfl]
    have htf : s.testBit (l.getD j 0) = false := by simpa using ht
    refine m_bits hs ?_
    refine t_le f (p8 s) rfl rfl (by omega) (by omega) (fun hfull => ?_) (fun hfull => ?_)
    · have key : ∀ n u (J : Mm) (B1 : Nat → Nat), u + n = 8 → (∀ d, d ≠ 120 → J d = I d) → tb (J 120) B1 → GT l f (j + 1) B1 → (∀ r, B1 r ≤ B r) → (∀ v, v < u → s.testBit v = true → B1 ((s &&& (255 - 2 ^ v)) ||| 2 ^ (l.getD j 0)) ≤ A s + 1) → wp_X10_asksOne_53 Pt (n + 1) (nI s) (nI (l.getD j 0)) (nI (A s)) (nI u) J := by
        intro n
        induction n with
        | zero =>
          intro u J B1 hu o hB1 hG1 hle hdone
          unfold wp_X10_asksOne_53
          refine t_le 8 u rfl rfl (by omega) (by omega) (fun _ => ?_) (fun q => by omega)
          refine h J B1 o hB1 hG1 hle (fun e1 e2 => ?_)
          rw [← e1, if_neg ht]
          have he : p8 s = f := by rw [e1] at hfull ⊢; omega
          rw [if_pos he]
          obtain ⟨a, b, -⟩ := lat_ok (l := l) (i := j) hs (by omega)
          have := hdone _ (by omega) b
          show B1 ((s &&& (255 - 2 ^ lat l s j)) ||| 2 ^ l.getD j 0) ≤ (bel l f j).2 + 1
          omega
        | succ n ih =>
          intro u J B1 hu o hB1 hG1 hle hdone
          unfold wp_X10_asksOne_53
          refine t_le 8 u rfl rfl (by omega) (by omega) (fun q => by omega) (fun hu8 => ?_)
          refine m_isIn2 hs hu8 ?_
          have eu : nI u + 1 = nI (u + 1) := nI_1 u
          by_cases hut : s.testBit u = true
          · rw [if_pos hut, if_neg (by decide)]
            unfold wp_X10_asksOne_86
            refine m_isIn2 hs hu8 ?_
            rw [if_pos hut, if_neg (by decide)]
            unfold wp_X10_asksOne_104
            have h1c := bt_cl s hs u hu8
            rw [show nI s &&& (((1 : Int32) <<< (nI u &&& 31)) ^^^ (-1 : Int32)) = _ from bt_clr _ hs _ hu8, bt_or _ h1c _ hp, show nI (A s) + 1 = nI (A s + 1) from nI_1 _]
            refine m_lets (bt_sl _ h1c _ hp) (by omega) hB1 (fun I' o' hB' => ?_)
            rw [eu]
            refine ih (u + 1) I' _ (by omega) (fun d hd => (o' d hd).trans (o d hd)) hB' (GT_up hG1 (fun _ => hst _ _ (sv_out hs hp hu8 i2 htf hut))) (fun r => Nat.le_trans va_min_le (hle r)) (fun v hv hvt => ?_)
            by_cases e : v = u
            · subst e; exact va_min_s
            · exact Nat.le_trans va_min_le (hdone v (by omega) hvt)
          · rw [if_neg hut, if_pos rfl]
            unfold wp_X10_asksOne_86
            refine m_isIn2 hs hu8 ?_
            rw [if_neg hut, if_pos rfl]
            unfold wp_X10_asksOne_104
            refine m_lets (s := 0) (c := 99) (by decide) (by decide) hB1 (fun I' o' hB' => ?_)
            rw [eu]
            refine ih (u + 1) I' _ (by omega) (fun d hd => (o' d hd).trans (o d hd)) hB' (GT_up hG1 (fun hh => absurd hh (by decide))) (fun r => Nat.le_trans va_min_le (hle r)) (fun v hv hvt => ?_)
            by_cases e : v = u
            · subst e; exact absurd hvt hut
            · exact Nat.le_trans va_min_le (hdone v (by omega) hvt)
      exact ⟨_, key 8 0 I B rfl (fun _ _ => rfl) hB hG (fun _ => Nat.le_refl _) (fun v hv => absurd hv (Nat.not_lt_zero _))⟩
    · rw [bt_or _ hs _ hp, show nI (A s) + 1 = nI (A s + 1) from nI_1 _]
      refine m_lets (bt_sl _ hs _ hp) (by omega) hB (fun I' o hB' => ?_)
      refine h I' _ o hB' (GT_up hG (fun _ => hst _ _ (sv_add hs hp (by omega) htf))) (fun r => va_min_le) (fun e1 e2 => ?_)
      rw [← e1, if_neg ht, if_neg (by omega)]
      show va_up B _ _ (s ||| 2 ^ l.getD j 0) ≤ (bel l f j).2 + 1
      exact Nat.le_trans va_min_s (by omega)
theorem s10_fewest (hw : wfS z) (hv : MV z I) (h : ∀ I', SM I I' → Post (v_fewest z x) I') : wp_X10_fewest x I Post := by
  have hn := hw.1
  have hl24 := hw.2.1
  have hlp := hw.2.2.1
  unfold wp_X10_fewest
  unfold v_fewest at h
  refine t_eq (s_n z) 0 hv.1 rfl (by omega) (by decide) (fun h0 => ?_) (fun h0 => ?_)
  · simp only [if_neg (show ¬ 0 < s_n z by omega)] at h; exact h I SM.rf
  simp only [if_pos (show 0 < s_n z by omega)] at h
  refine w10 (a := 1) (b := 9) (by decide) (by decide) ?_
  rw [ite01]
  refine t_if (fun hx => ?_) (fun hx => ?_)
  · simp only [if_pos hx] at h
    obtain ⟨ex, hf1, hf9⟩ := hx.n (by decide)
    rw [ex]
    generalize x.toNatClampNeg = f at *
    -- the least of the last table
    have k165 : ∀ (A : Nat → Nat) n s v (J : Mm), s + n = 256 → FX I J → tb (J 119) A → v ≤ 99 → (∀ r, r < s → v ≤ A r) → (v = 99 ∨ ∃ r, r < 256 ∧ v = A r) → GT (s_l z) f (s_l z).length A → A (bel (s_l z) f (s_l z).length).1 ≤ (bel (s_l z) f (s_l z).length).2 → wp_X10_fewest_165 Post (n + 1) (nI v) (nI s) J := by
      intro A n
      induction n with
      | zero =>
        intro s v J hs hx2 hA hv99 hle hor hG hB
        unfold wp_X10_fewest_165
        refine t_le 256 s rfl rfl (by omega) (by omega) (fun _ => ?_) (fun q => by omega)
        obtain ⟨hw1, -, hw3⟩ := bel_lt (l := s_l z) hf1 hlp (s_l z).length (Nat.le_refl _)
        have h1 : v ≤ (bel (s_l z) f (s_l z).length).2 := Nat.le_trans (hle _ (by omega)) hB
        have h2 : (bel (s_l z) f (s_l z).length).2 ≤ v := by
          rcases hor with e | ⟨r, hr, e⟩
          · omega
          · have := hG r hr (by omega)
            rw [e]; exact this.2.2.2.1
        rw [show v = (bel (s_l z) f (s_l z).length).2 by omega]
        exact h J hx2.sm
      | succ n ih =>
        intro s v J hs hx2 hA hv99 hle hor hG hB
        unfold wp_X10_fewest_165
        refine t_le 256 s rfl rfl (by omega) (by omega) (fun q => by omega) (fun hs8 => ⟨vp_in_nI (by omega) (by decide), ?_⟩)
        obtain ⟨e, b⟩ := hA s hs8
        rw [nI_clamp (by omega), e]
        have es : nI s + 1 = nI (s + 1) := nI_1 s
        refine t_le v (A s) rfl rfl (by omega) (by omega) (fun q => ?_) (fun q => ⟨vp_in_nI (by omega) (by decide), ?_⟩)
        · unfold wp_X10_fewest_192
          rw [es]
          refine ih (s + 1) v J (by omega) hx2 hA hv99 (fun r hr => ?_) hor hG hB
          by_cases e : r = s
          · subst e; exact q
          · exact hle r (by omega)
        · unfold wp_X10_fewest_192
          rw [es]
          refine ih (s + 1) (A s) J (by omega) hx2 hA b (fun r hr => ?_) (Or.inr ⟨s, hs8, rfl⟩) hG hB
          by_cases e : r = s
          · subst e; exact Nat.le_refl _
          · have := hle r (by omega); omega
    -- the table goes over
    have k129 : ∀ (B : Nat → Nat) (Kb : Int32 → Int32 → Mm → Prop) (x1 x2 : Int32) n s (J : Mm), s + n = 256 → FX I J → tb (J 120) B → (∀ r, r < s → J 119 r = nI (B r)) → (∀ J', FX I J' → tb (J' 119) B → Kb x1 x2 J') → wp_X10_fewest_129 Kb Post (n + 1) x1 x2 (nI s) J := by
      intro B Kb x1 x2 n
      induction n with
      | zero =>
        intro s J hs hx2 hB hpre hK
        unfold wp_X10_fewest_129
        exact t_le 256 s rfl rfl (by omega) (by omega) (fun _ => hK J hx2 (fun r hr => ⟨hpre r (by omega), (hB r hr).2⟩)) (fun q => by omega)
      | succ n ih =>
        intro s J hs hx2 hB hpre hK
        unfold wp_X10_fewest_129
        refine t_le 256 s rfl rfl (by omega) (by omega) (fun q => by omega) (fun hs8 => ⟨vp_in_nI (by omega) (by decide), vp_in_nI (by omega) (by decide), ?_⟩)
        rw [nI_clamp (by omega), (hB s hs8).1, show nI s + 1 = nI (s + 1) from nI_1 s]
        refine ih (s + 1) _ (by omega) (hx2.tr FX.a) (by rw [up2_oc (by decide)]; exact hB) (fun r hr => ?_) hK
        rw [up2_c]
        by_cases e : r = s
        · subst e; rw [upd_s]
        · rw [upd_n _ _ e]; exact hpre r (by omega)
    -- all sets of the table serve ask j
    have k91 : ∀ (A : Nat → Nat) (K127 : Int32 → Int32 → Mm → Prop) (j : Nat) n s (J : Mm) (B : Nat → Nat), j < (s_l z).length → s + n = 256 → FX I J → tb (J 119) A → GT (s_l z) f j A → A (bel (s_l z) f j).1 ≤ (bel (s_l z) f j).2 → tb (J 120) B → GT (s_l z) f (j + 1) B → ((bel (s_l z) f j).1 < s → B (bel (s_l z) f (j + 1)).1 ≤ (bel (s_l z) f (j + 1)).2) → (∀ J' B', FX I J' → tb (J' 120) B' → GT (s_l z) f (j + 1) B' → B' (bel (s_l z) f (j + 1)).1 ≤ (bel (s_l z) f (j + 1)).2 → K127 (nI f) (nI j) J') → wp_X10_fewest_91 K127 Post (n + 1) (nI f) (nI j) (nI s) J := by
      intro A K127 j n
      induction n with
      | zero =>
        intro s J B hj hs hx2 hA hGA hbA hB hGB hbB hK
        unfold wp_X10_fewest_91
        obtain ⟨hw1, -, -⟩ := bel_lt (l := s_l z) hf1 hlp j (by omega)
        exact t_le 256 s rfl rfl (by omega) (by omega) (fun _ => hK J B hx2 hB hGB (hbB (by omega))) (fun q => by omega)
      | succ n ih =>
        intro s J B hj hs hx2 hA hGA hbA hB hGB hbB hK
        unfold wp_X10_fewest_91
        refine t_le 256 s rfl rfl (by omega) (by omega) (fun q => by omega) (fun hs8 => ⟨vp_in_nI (by omega) (by decide), ?_⟩)
        obtain ⟨hw1, -, hw3⟩ := bel_lt (l := s_l z) hf1 hlp j (by omega)
        obtain ⟨e, b⟩ := hA s hs8
        rw [nI_clamp (show s < 2 ^ 31 by omega), e]
        have es : nI s + 1 = nI (s + 1) := nI_1 s
        refine t_le 99 (A s) rfl rfl (by decide) (by omega) (fun q => ?_) (fun q => ⟨vp_in_nI (by omega) (by decide), ?_⟩)
        · unfold wp_X10_fewest_121
          rw [es]
          refine ih (s + 1) J B hj (by omega) hx2 hA hGA hbA hB hGB (fun hlt => ?_) hK
          by_cases e2 : (bel (s_l z) f j).1 = s
          · rw [e2] at hbA; omega
          · exact hbB (by omega)
        · have hln : J 106 (nI j).toNatClampNeg = nI ((s_l z).getD j 0) := by
            rw [nI_clamp (by omega), hx2 106 (by decide) (by decide)]; exact hv.2.1.2 j hj
          rw [hln]
          refine m_asksOne hf1 (by omega) hlp hl24 hj hs8 hA hB (hGA s hs8 q) hGB (fun J' B' o hB' hG' hle hdone => ?_)
          unfold wp_X10_fewest_121
          rw [es]
          refine ih (s + 1) J' B' hj (by omega) (hx2.tr (fun d _ hd => o d hd)) (by rw [o 119 (by decide)]; exact hA) hGA hbA hB' hG' (fun hlt => ?_) hK
          by_cases e2 : (bel (s_l z) f j).1 = s
          · exact hdone e2.symm (by rw [← e2]; exact hbA)
          · exact Nat.le_trans (hle _) (hbB (by omega))
    -- the next table is empty at first
    have k68 : ∀ (K89 : Int32 → Int32 → Mm → Prop) (x1 x2 : Int32) n s (J : Mm) (A : Nat → Nat), s + n = 256 → FX I J → tb (J 119) A → (∀ r, r < s → J 120 r = nI 99) → (∀ J', FX I J' → tb (J' 119) A → tb (J' 120) (fun _ => 99) → K89 x1 x2 J') → wp_X10_fewest_68 K89 Post (n + 1) x1 x2 (nI s) J := by
      intro K89 x1 x2 n
      induction n with
      | zero =>
        intro s J A hs hx2 hA hpre hK
        unfold wp_X10_fewest_68
        exact t_le 256 s rfl rfl (by omega) (by omega) (fun _ => hK J hx2 hA (fun r hr => ⟨hpre r (by omega), Nat.le_refl _⟩)) (fun q => by omega)
      | succ n ih =>
        intro s J A hs hx2 hA hpre hK
        unfold wp_X10_fewest_68
        refine t_le 256 s rfl rfl (by omega) (by omega) (fun q => by omega) (fun hs8 => ⟨vp_in_nI (by omega) (by decide), ?_⟩)
        rw [nI_clamp (by omega), show nI s + 1 = nI (s + 1) from nI_1 s]
        refine ih (s + 1) _ A (by omega) (hx2.tr FX.b) (by rw [up2_oc (by decide)]; exact hA) (fun r hr => ?_) hK
        rw [up2_c]
        by_cases e : r = s
        · subst e; rw [upd_s]; rfl
        · rw [upd_n _ _ e]; exact hpre r (by omega)
    -- ask by ask
    have k58 : ∀ n j (J : Mm) (A : Nat → Nat), j + n = (s_l z).length → FX I J → tb (J 119) A → GT (s_l z) f j A → A (bel (s_l z) f j).1 ≤ (bel (s_l z) f j).2 → wp_X10_fewest_58 (fun I => wp_X10_fewest_160 Post I) Post (n + 1) (nI f) (nI j) J := by
      intro n
      induction n with
      | zero =>
        intro j J A hj hx2 hA hG hbA
        unfold wp_X10_fewest_58
        have : j = (s_l z).length := by omega
        subst this
        refine t_le _ _ (hv.sm hx2.sm).2.1.1 rfl (by omega) (by omega) (fun _ => ?_) (fun q => by omega)
        show wp_X10_fewest_160 Post J
        unfold wp_X10_fewest_160
        exact ⟨_, k165 A 256 0 99 J rfl hx2 hA (by decide) (fun r hr => absurd hr (Nat.not_lt_zero _)) (Or.inl rfl) hG hbA⟩
      | succ n ih =>
        intro j J A hj hx2 hA hG hbA
        unfold wp_X10_fewest_58
        refine t_le (s_l z).length j (hv.sm hx2.sm).2.1.1 rfl (by omega) (by omega) (fun q => by omega) (fun hjl => ?_)
        refine ⟨_, k68 _ _ _ 256 0 J A rfl hx2 hA (fun r hr => absurd hr (Nat.not_lt_zero _)) (fun J1 hx3 hA1 hB1 => ?_)⟩
        show wp_X10_fewest_89 _ _ _ _ _ _
        unfold wp_X10_fewest_89
        obtain ⟨hw1, -, hw3⟩ := bel_lt (l := s_l z) hf1 hlp j (by omega)
        refine ⟨_, k91 A _ j 256 0 J1 _ hjl rfl hx3 hA1 hG hbA hB1 (fun s hs hh => absurd hh (by decide)) (fun hh => absurd hh (Nat.not_lt_zero _)) (fun J2 B2 hx4 hB2 hG2 hb2 => ?_)⟩
        show wp_X10_fewest_127 _ _ _ _ _ _
        unfold wp_X10_fewest_127
        refine ⟨_, k129 B2 _ _ _ 256 0 J2 rfl hx4 hB2 (fun r hr => absurd hr (Nat.not_lt_zero _)) (fun J3 hx5 hA3 => ?_)⟩
        show wp_X10_fewest_154 _ _ _ _ _ _
        unfold wp_X10_fewest_154
        rw [show nI j + 1 = nI (j + 1) from nI_1 j]
        exact ih (j + 1) J3 B2 (by omega) hx5 hA3 hG2 hb2
    have k27 : ∀ n s (J : Mm), s + n = 256 → FX I J → (∀ r, r < s → J 119 r = nI (if r = 0 then 0 else 99)) → wp_X10_fewest_27 (fun x1 I => wp_X10_fewest_56 Post x1 I) Post (n + 1) (nI f) (nI s) J := by
      intro n
      induction n with
      | zero =>
        intro s J hs hx2 hpre
        unfold wp_X10_fewest_27
        refine t_le 256 s rfl rfl (by omega) (by omega) (fun _ => ?_) (fun q => by omega)
        show wp_X10_fewest_56 Post (nI f) J
        unfold wp_X10_fewest_56
        refine ⟨_, k58 (s_l z).length 0 J (fun r => if r = 0 then 0 else 99) (by omega) hx2 (fun r hr => ⟨hpre r (by omega), by dsimp only; split <;> omega⟩) (fun r hr hlt => ?_) (Nat.le_refl _)⟩
        by_cases e : r = 0
        · subst e; exact iv_0 _ _
        · dsimp only at hlt; rw [if_neg e] at hlt; exact absurd hlt (by decide)
      | succ n ih =>
        intro s J hs hx2 hpre
        unfold wp_X10_fewest_27
        refine t_le 256 s rfl rfl (by omega) (by omega) (fun q => by omega) (fun hs8 => ?_)
        have es : nI s + 1 = nI (s + 1) := nI_1 s
        have nxt : ∀ v : Int32, v = nI (if s = 0 then 0 else 99) → ∀ r, r < s + 1 → up2 J 119 s v 119 r = nI (if r = 0 then 0 else 99) := by
          intro v hv r hr
          rw [up2_c]
          by_cases e : r = s
          · subst e; rw [upd_s]; exact hv
          · rw [upd_n _ _ e]; exact hpre r (by omega)
        refine t_eq s 0 rfl rfl (by omega) (by decide) (fun e => ?_) (fun e => ?_)
        · unfold wp_X10_fewest_49
          refine ⟨vp_in_nI (by omega) (by decide), ?_⟩
          rw [nI_clamp (by omega), es]
          exact ih (s + 1) _ (by omega) (hx2.tr FX.a) (nxt _ (by rw [if_pos e]; rfl))
        · unfold wp_X10_fewest_49
          refine ⟨vp_in_nI (by omega) (by decide), ?_⟩
          rw [nI_clamp (by omega), es]
          exact ih (s + 1) _ (by omega) (hx2.tr FX.a) (nxt _ (by rw [if_neg e]; rfl))
    exact ⟨_, k27 256 0 I rfl FX.rf (fun r hr => absurd hr (Nat.not_lt_zero _))⟩
  · simp only [if_neg hx] at h; exact h I SM.rf
end FWM
