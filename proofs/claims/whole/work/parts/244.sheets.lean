/-! WHAT EACH CALL ANSWERS AND CHANGES (5): sheet, lose, put, cell, copy -/
abbrev Hs (i n : Int32) (len : Nat) : Prop := 0 ≤ i.toInt ∧ 0 ≤ n.toInt ∧ i.toInt + n.toInt ≤ (len : Int)
def cutl (la : Nat) (v : Int32) : Int32 := if la = 0 then v.toInt8.toInt32 else if la = 1 then v.toInt16.toInt32 else v
abbrev LOSTv : Int64 := -9223372036854775808
theorem l_add (x y : Int32) : (x.toInt64 + y.toInt64).toInt = x.toInt + y.toInt := by
  rw [Int64.toInt_add, Int32.toInt_toInt64, Int32.toInt_toInt64]
  have h1 := Int32.toInt_lt x; have h2 := Int32.le_toInt x; have h3 := Int32.toInt_lt y; have h4 := Int32.le_toInt y
  rw [Int.bmod_eq_of_le] <;> omega
theorem i_sub {x y : Int32} (h : -2147483648 ≤ x.toInt - y.toInt) (h2 : x.toInt - y.toInt < 2147483648) : (x - y).toInt = x.toInt - y.toInt := by
  rw [Int32.toInt_sub]
  rw [Int.bmod_eq_of_le] <;> omega
section SHT
variable {ki : Nat → Nat} {nd : Nat} {z : St} {I : Mm} {x y w : Int32} {Post : Int32 → Mm → Prop}
theorem w_hasS {d len : Nat} {i n : Int32} (hl : len ≤ 60) (h2 : I d 2 = nI len) (h : Post (if Hs i n len then 1 else 0) I) : wp_X6_has d i n I Post := by
  have e2 : (I d 2).toInt = (len : Int) := by rw [h2, nI_toInt (by omega)]
  unfold wp_X6_has
  refine w9 (a := 0) (b := len + 1) (by decide) (by rw [e2]; omega) ?_
  rw [ite01]
  refine t_if (fun hi => ?_) (fun hi => ?_)
  · obtain ⟨hi1, hi2⟩ := hi
    have e3 : (I d 2 - i).toInt = (len : Int) - i.toInt := by rw [i_sub (by omega) (by omega), e2]
    refine w9 (a := 0) (b := len + 1 - i.toInt.toNat) (by decide) (by rw [e3]; omega) ?_
    rw [ite01]
    refine t_if (fun hn => ?_) (fun hn => ?_)
    · rw [if_pos (by obtain ⟨a, b⟩ := hn; omega)] at h; exact h
    · rw [if_neg (by intro q; apply hn; constructor <;> omega)] at h; exact h
  · rw [if_neg (by intro q; apply hi; constructor <;> omega)] at h; exact h
theorem m_beyond {len : Nat} {i n : Int32} {a : Int32} (hl : len ≤ 60) (ha : a = nI len) (h : Post (if Hs i n len then 0 else 1) I) : wp_X10_isBeyond i n.toInt64 a I Post := by
  have e2 : a.toInt64.toInt = (len : Int) := by rw [ha, Int32.toInt_toInt64, nI_toInt (by omega)]
  have z0 : (0 : Int32).toInt = 0 := by decide
  have z64 : (0 : Int64).toInt = 0 := by decide
  unfold wp_X10_isBeyond
  refine t_if (fun h1 => ?_) (fun h1 => ?_)
  · rw [Int32.lt_iff_toInt_lt, z0] at h1
    rw [if_neg (by omega)] at h; exact h
  · rw [Int32.lt_iff_toInt_lt, z0] at h1
    refine t_if (fun h2 => ?_) (fun h2 => ?_)
    · rw [lg_cmp_lt, Int64.lt_iff_toInt_lt, z64, Int32.toInt_toInt64] at h2
      rw [if_neg (by omega)] at h; exact h
    · rw [lg_cmp_lt, Int64.lt_iff_toInt_lt, z64, Int32.toInt_toInt64] at h2
      refine t_if (fun h3 => ?_) (fun h3 => ?_)
      · rw [lg_cmp_le, Int64.le_iff_toInt_le, l_add, e2] at h3
        rw [if_pos (by omega)] at h; exact h
      · rw [lg_cmp_le, Int64.le_iff_toInt_le, l_add, e2] at h3
        rw [if_neg (by omega)] at h; exact h
theorem CV.s {I' : Mm} {s' : Nat → Option (Nat × Nat × (Nat → Int32))} {t : Int32} (hv : CV ki z I) (hn : s_n z ≤ 4) (o : ∀ c, c ≠ 0 → ¬ (20 ≤ c ∧ c < 28) → I' c = I c) (o0 : ∀ j, j ≠ 10 → I' 0 j = I 0 j) (e10 : I' 0 10 = t) (hs : ∀ k, k < 4 → shC9 (I' (20 + k)) (I' (20 + k + 4)) (s' k)) : CV ki (zs z s' t) I' := by
  obtain ⟨h1, h2, h3, h4, h5, h6, h7, h8, h9⟩ := hv
  refine ⟨by rw [o0 8 (by decide)]; exact h1, ⟨by rw [o 8 (by decide) (by decide)]; exact h2.1, by rw [o 9 (by decide) (by decide)]; exact h2.2⟩, by rw [o0 9 (by decide)]; exact h3, fun k hk => ?_, ⟨by rw [o 12 (by decide) (by decide)]; exact h5.1, by rw [o 13 (by decide) (by decide), o 14 (by decide) (by decide), o 15 (by decide) (by decide)]; exact h5.2⟩, hs, e10, by rw [o 16 (by decide) (by decide)]; exact h8, h9⟩
  rw [o (40 + k) (by omega) (by omega), o (40 + k + 20) (by omega) (by omega)]; exact h4 k hk
theorem MV.s {I' : Mm} {s' : Nat → Option (Nat × Nat × (Nat → Int32))} {t : Int32} (hv : MV z I) (o : ∀ c, c ≠ 100 → c ≠ 125 → c ≠ 126 → c ≠ 127 → c ≠ 128 → I' c = I c) (oj : ∀ j, j ≠ 0 → I' 100 j = I 100 j) (e0 : I' 100 0 = t) (hs : ∀ k, k < 4 → shM10 (I' 125 k) (I' 126 k) (I' 127) k (s' k)) : MV (zs z s' t) I' := by
  obtain ⟨h1, h2, h3, h4, h5, h6, h7, h8⟩ := hv
  have oo : ∀ c, c = 104 ∨ c = 105 ∨ c = 106 ∨ c = 122 ∨ c = 123 ∨ c = 124 → I' c = I c := fun c hc => o c (by omega) (by omega) (by omega) (by omega) (by omega)
  refine ⟨by rw [oj 1 (by decide)]; exact h1, ⟨by rw [oj 2 (by decide)]; exact h2.1, by rw [oo 106 (by decide)]; exact h2.2⟩, by rw [oj 3 (by decide)]; exact h3, by rw [oo 104 (by decide), oo 105 (by decide)]; exact h4, ⟨by rw [oj 21 (by decide)]; exact h5.1, by rw [oo 122 (by decide), oo 123 (by decide), oo 124 (by decide)]; exact h5.2⟩, hs, e0, by rw [oj 29 (by decide)]; exact h8⟩
/-- a sheet as the class has it -/
theorem c_sheet (hw : wfS z) (hv : CV ki z I) (hx : InR x 0 4) : vp_in x 4 ∧ x = nI x.toNatClampNeg ∧ x.toNatClampNeg < 4 ∧ shC9 (I (20 + x.toNatClampNeg)) (I (20 + x.toNatClampNeg + 4)) (s_s z x.toNatClampNeg) := by
  obtain ⟨e, -, hk⟩ := hx.n (by decide)
  exact ⟨vp_n e hk (by decide), e, hk, hv.2.2.2.2.2.1 _ hk⟩
theorem c_msheet (hw : wfS z) (hv : MV z I) (hx : InR x 0 4) : vp_in x 4 ∧ x = nI x.toNatClampNeg ∧ x.toNatClampNeg < 4 ∧ shM10 (I 125 x.toNatClampNeg) (I 126 x.toNatClampNeg) (I 127) x.toNatClampNeg (s_s z x.toNatClampNeg) := by
  obtain ⟨e, -, hk⟩ := hx.n (by decide)
  exact ⟨vp_n e hk (by decide), e, hk, hv.2.2.2.2.2.1 _ hk⟩
def u_sheet (z : St) (x y w : Int32) : Int32 × St := if InR x 0 4 then (if InR y 0 3 then (if w ≤ 60 then (if 0 ≤ w then (1, zs z (va_up (s_s z) x.toNatClampNeg (some (y.toNatClampNeg, w.toNatClampNeg, fun _ => 0))) 0) else (-14, zt z 4)) else (-2, zt z 0)) else (-2, zt z 0)) else (-1, zt z 0)
theorem w_in61 (h1 : w ≤ 60) (h2 : 0 ≤ w) : w = nI w.toNatClampNeg ∧ w.toNatClampNeg ≤ 60 := by
  have hr : InR w 0 61 := by
    rw [Int32.le_iff_toInt_le] at h1 h2
    have e1 : (60 : Int32).toInt = 60 := by decide
    have e2 : (0 : Int32).toInt = 0 := by decide
    rw [e1] at h1; rw [e2] at h2
    constructor <;> omega
  obtain ⟨e, -, hk⟩ := hr.n (by decide)
  exact ⟨e, by omega⟩
theorem P_renew {d : Nat} {a b : Int32} {Pt : Mm → Prop} (h : ∀ I', (∀ c, c ≠ d → c ≠ d + 4 → I' c = I c) → I' d = upd (upd (I d) 1 a) 2 b → (∀ j, j < 60 → I' (d + 4) j = 0) → Pt I') : wp_X6_renew d a b I Pt := by
  have key : ∀ n j (J : Mm), j + n = 60 → (∀ c, c ≠ d → c ≠ d + 4 → J c = I c) → J d = upd (upd (I d) 1 a) 2 b → (∀ i, i < j → J (d + 4) i = 0) → wp_X6_renew_12 d Pt (n + 1) (nI j) J := by
    intro n
    induction n with
    | zero =>
      intro j J hj h1 h2 h3
      unfold wp_X6_renew_12
      exact t_le 60 j rfl rfl (by decide) (by omega) (fun _ => h J h1 h2 (fun i hi => h3 i (by omega))) (fun q => by omega)
    | succ n ih =>
      intro j J hj h1 h2 h3
      unfold wp_X6_renew_12
      refine t_le 60 j rfl rfl (by decide) (by omega) (fun q => by omega) (fun q => ?_)
      refine ⟨vp_in_nI (by omega) (by decide), ?_⟩
      rw [nI_clamp (by omega), show nI j + 1 = nI (j + 1) from nI_1 j]
      refine ih (j + 1) _ (by omega) (fun c a1 a2 => by rw [up2_oc a2]; exact h1 c a1 a2) (by rw [up2_oc (by omega)]; exact h2) (fun i hi => ?_)
      rw [up2_c]
      by_cases e : i = j
      · rw [e, upd_s]
      · rw [upd_n _ _ e]; exact h3 i (by omega)
  unfold wp_X6_renew
  refine ⟨61, key 60 0 _ rfl (fun c a1 _ => by rw [up2_oc a1, up2_oc a1]) (by rw [up2_c, up2_c]) (fun i hi => absurd hi (Nat.not_lt_zero _))⟩
theorem s9_sheet (hw : wfS z) (hv : CV ki z I) (h : ∀ I', FC I I' → CV ki (u_sheet z x y w).2 I' → Post (u_sheet z x y w).1 I') : wp_X9_sheet ki nd x y w I Post := by
  unfold wp_X9_sheet
  unfold u_sheet at h
  refine w_sheet ?_
  rw [ite01]
  refine t_if (fun hx => ?_) (fun hx => ?_)
  · simp only [if_pos hx] at h
    obtain ⟨hin, ex, hk, hsh⟩ := c_sheet hw hv hx
    refine w9 (a := 0) (b := 3) (by decide) (by decide) ?_
    rw [ite01]
    refine t_if (fun hy => ?_) (fun hy => ?_)
    · simp only [if_pos hy] at h
      obtain ⟨ey, -, hy3⟩ := hy.n (by decide)
      refine t_if (fun h60 => ?_) (fun h60 => ?_)
      · simp only [if_pos h60] at h
        refine t_if (fun h0 => ?_) (fun h0 => ?_)
        · simp only [if_pos h0] at h
          obtain ⟨ew, hw60⟩ := w_in61 h60 h0
          refine ⟨hin, ?_⟩
          refine P_renew (fun I' h1 h2 h3 => ?_)
          have o : ∀ c, c ≠ 0 → c ≠ 20 + x.toNatClampNeg → c ≠ 20 + x.toNatClampNeg + 4 → I' c = I c := fun c a1 a2 a3 => by rw [h1 c a2 a3, up2_oc a1]
          have o0 : I' 0 = upd (I 0) 10 0 := by rw [h1 0 (by omega) (by omega), up2_c]
          refine h I' (fun c hc => o c (by omega) (by omega) (by omega)) ?_
          refine hv.s hw.1 (fun c a1 a2 => o c a1 (by omega) (by omega)) (fun j hj => by rw [o0, upd_n _ _ hj]) (by rw [o0, upd_s]) (fun k hk4 => ?_)
          by_cases hkx : k = x.toNatClampNeg
          · subst hkx
            rw [va_up_self, h2]
            refine ⟨?_, ?_, fun j hj => h3 j (by have : j < w.toNatClampNeg := hj; omega)⟩
            · rw [upd_n _ _ (by decide), upd_s]; exact ey
            · rw [upd_s]; exact ew
          · rw [va_up_ne _ _ hkx, o (20 + k) (by omega) (by omega) (by omega), o (20 + k + 4) (by omega) (by omega) (by omega)]
            exact hv.2.2.2.2.2.1 k hk4
        · simp only [if_neg h0] at h
          unfold wp_X9_faulted
          exact h _ (FC.up (by decide)) hv.t
      · simp only [if_neg h60] at h
        unfold wp_X9_sheet_28 wp_X9_refused
        exact h _ (FC.up (by decide)) hv.t
    · simp only [if_neg hy] at h
      unfold wp_X9_sheet_28 wp_X9_refused
      exact h _ (FC.up (by decide)) hv.t
  · simp only [if_neg hx] at h
    unfold wp_X9_refused
    exact h _ (FC.up (by decide)) hv.t
theorem idx60 {k j : Nat} (hx : x = nI k) (hy : y = nI j) : (60 : Int32) * x + y = nI (60 * k + j) := by
  rw [hx, hy]
  show nI 60 * nI k + nI j = _
  rw [pk_mul, nI_add]
theorem s10_sheet (hw : wfS z) (hv : MV z I) (h : ∀ I', FM I I' → MV (u_sheet z x y w).2 I' → Post (u_sheet z x y w).1 I') : wp_X10_sheet x y w I Post := by
  unfold wp_X10_sheet
  unfold u_sheet at h
  refine m_noSheet ?_
  rw [ite10]
  refine t_if (fun hx => ?_) (fun hx => ?_)
  · simp only [if_pos hx] at h
    obtain ⟨hin, ex, hk, hsh⟩ := c_msheet hw hv hx
    refine w10 (a := 0) (b := 3) (by decide) (by decide) ?_
    rw [ite01]
    refine t_if (fun hy => ?_) (fun hy => ?_)
    · simp only [if_pos hy] at h
      obtain ⟨ey, -, hy3⟩ := hy.n (by decide)
      refine t_if (fun h60 => ?_) (fun h60 => ?_)
      · simp only [if_pos h60] at h
        refine t_if (fun h0 => ?_) (fun h0 => ?_)
        · simp only [if_pos h0] at h
          obtain ⟨ew, hw60⟩ := w_in61 h60 h0
          refine ⟨hin, hin, ?_⟩
          have key : ∀ n j (J : Mm), j + n = w.toNatClampNeg → (∀ c, c ≠ 125 → c ≠ 126 → c ≠ 127 → J c = I c) → J 125 = upd (I 125) x.toNatClampNeg w → J 126 = upd (I 126) x.toNatClampNeg y → (∀ i, i < j → J 127 (60 * x.toNatClampNeg + i) = 0) → (∀ i, i < 60 * x.toNatClampNeg ∨ 60 * x.toNatClampNeg + 60 ≤ i → J 127 i = I 127 i) → wp_X10_sheet_65 (fun I => wp_X10_sheet_90 Post I) Post (n + 1) x w (nI j) J := by
            intro n
            induction n with
            | zero =>
              intro j J hj h1 h2 h3 h4 h5
              unfold wp_X10_sheet_65
              refine t_le w.toNatClampNeg j ew rfl (by omega) (by omega) (fun _ => ?_) (fun q => by omega)
              unfold wp_X10_sheet_90 wp_X10_refused
              refine h _ (fun c hc => by rw [up2_oc (by omega)]; exact h1 c (by omega) (by omega) (by omega)) ?_
              refine hv.s (fun c a0 a1 a2 a3 _ => by rw [up2_oc a0]; exact h1 c a1 a2 a3) (fun q hq => by rw [up2_c, upd_n _ _ hq, h1 100 (by decide) (by decide) (by decide)]) (by rw [up2_c, upd_s]) (fun k hk4 => ?_)
              rw [up2_oc (by decide), up2_oc (by decide), up2_oc (by decide), h2, h3]
              by_cases hkx : k = x.toNatClampNeg
              · subst hkx
                rw [va_up_self, upd_s, upd_s]
                exact ⟨ew, ey, fun i hi => h4 i (by have : i < w.toNatClampNeg := hi; omega)⟩
              · rw [va_up_ne _ _ hkx, upd_n _ _ hkx, upd_n _ _ hkx]
                have := hv.2.2.2.2.2.1 k hk4
                unfold shM10 at this ⊢
                cases hq : s_s z k with
                | none => rw [hq] at this; exact this
                | some q =>
                  rw [hq] at this
                  refine ⟨this.1, this.2.1, fun i hi => ?_⟩
                  have hb := (hw.2.2.2.2.2.2.1 k q hk4 hq).2
                  rw [h5 _ (by omega)]; exact this.2.2 i hi
            | succ n ih =>
              intro j J hj h1 h2 h3 h4 h5
              unfold wp_X10_sheet_65
              refine t_le w.toNatClampNeg j ew rfl (by omega) (by omega) (fun q => by omega) (fun q => ?_)
              rw [idx60 ex rfl]
              refine ⟨vp_in_nI (by omega) (by decide), ?_⟩
              rw [nI_clamp (by omega), show nI j + 1 = nI (j + 1) from nI_1 j]
              refine ih (j + 1) _ (by omega) (fun c a1 a2 a3 => by rw [up2_oc a3]; exact h1 c a1 a2 a3) (by rw [up2_oc (by decide)]; exact h2) (by rw [up2_oc (by decide)]; exact h3) (fun i hi => ?_) (fun i hi => ?_)
              · rw [up2_c]
                by_cases e : i = j
                · rw [e, upd_s]
                · rw [upd_n _ _ (by omega)]; exact h4 i (by omega)
              · rw [up2_c, upd_n _ _ (by omega)]; exact h5 i hi
          refine ⟨_, key w.toNatClampNeg 0 _ (by omega) (fun c a1 a2 _ => by rw [up2_oc a2, up2_oc a1]) (by rw [up2_oc (by decide), up2_c]) (by rw [up2_c, up2_oc (by decide)]) (fun i hi => absurd hi (Nat.not_lt_zero _)) (fun i _ => by rw [up2_oc (by decide), up2_oc (by decide)])⟩
        · simp only [if_neg h0] at h
          unfold wp_X10_failed
          exact h _ (FM.up (by decide)) hv.t
      · simp only [if_neg h60] at h
        unfold wp_X10_sheet_31 wp_X10_refused
        exact h _ (FM.up (by decide)) hv.t
    · simp only [if_neg hy] at h
      unfold wp_X10_sheet_31 wp_X10_refused
      exact h _ (FM.up (by decide)) hv.t
  · simp only [if_neg hx] at h
    unfold wp_X10_refused
    exact h _ (FM.up (by decide)) hv.t
theorem wf_zs {s' : Nat → Option (Nat × Nat × (Nat → Int32))} {t : Int32} (hw : wfS z) (h : ∀ k q, k < 4 → s' k = some q → q.1 < 3 ∧ q.2.1 ≤ 60) : wfS (zs z s' t) := by
  obtain ⟨h1, h2, h3, h4, h5, h6, h7, h8, h9⟩ := hw
  exact ⟨h1, h2, h3, h4, h5, h6, h, h8, h9⟩
theorem wf_sheet (hw : wfS z) : wfS (u_sheet z x y w).2 := by
  unfold u_sheet
  by_cases hx : InR x 0 4
  · rw [if_pos hx]
    by_cases hy : InR y 0 3
    · rw [if_pos hy]
      by_cases h60 : w ≤ 60
      · rw [if_pos h60]
        by_cases h0 : 0 ≤ w
        · rw [if_pos h0]
          obtain ⟨ew, hw60⟩ := w_in61 h60 h0
          obtain ⟨ey, -, hy3⟩ := hy.n (by decide)
          refine wf_zs hw (fun k q hk hq => ?_)
          by_cases hkx : k = x.toNatClampNeg
          · rw [hkx, va_up_self] at hq
            cases hq; exact ⟨hy3, hw60⟩
          · rw [va_up_ne _ _ hkx] at hq; exact hw.2.2.2.2.2.2.1 k q hk hq
        · rw [if_neg h0]; exact hw
      · rw [if_neg h60]; exact hw
    · rw [if_neg hy]; exact hw
  · rw [if_neg hx]; exact hw
end SHT
