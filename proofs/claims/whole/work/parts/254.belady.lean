/-! WHO LETS THE LATEST GO MISSES THE FEWEST: as numbers -/
def nxF (l : List Nat) (p : Nat) : Nat → Nat → Nat
  | 0, j => j
  | n + 1, j => if l.getD j 0 = p then j else nxF l p n (j + 1)
/-- the next ask of p from j on; how many there are, if none -/
def nx (l : List Nat) (p j : Nat) : Nat := nxF l p (l.length - j) j
theorem nx_e {l : List Nat} {p j : Nat} (h : l.length ≤ j) : nx l p j = j := by
  unfold nx
  rw [show l.length - j = 0 by omega]; rfl
theorem nx_s {l : List Nat} {p j : Nat} (h : j < l.length) : nx l p j = if l.getD j 0 = p then j else nx l p (j + 1) := by
  unfold nx
  rw [show l.length - j = (l.length - (j + 1)) + 1 by omega]
  rfl
theorem nxF_ge (l : List Nat) (p : Nat) : ∀ n j, j ≤ nxF l p n j ∧ nxF l p n j ≤ j + n := by
  intro n
  induction n with
  | zero => intro j; exact ⟨Nat.le_refl _, Nat.le_refl _⟩
  | succ n ih =>
    intro j
    simp only [nxF]
    by_cases h : l.getD j 0 = p
    · rw [if_pos h]; omega
    · rw [if_neg h]; have := ih (j + 1); omega
theorem nx_ge (l : List Nat) (p j : Nat) : j ≤ nx l p j := (nxF_ge l p _ j).1
theorem nx_le {l : List Nat} {p j : Nat} (h : j ≤ l.length) : nx l p j ≤ l.length := by
  have := (nxF_ge l p (l.length - j) j).2
  unfold nx; omega
def latF (l : List Nat) (w i : Nat) : Nat → Nat → Nat × Nat → Nat × Nat
  | 0, _, q => q
  | n + 1, p, q => latF l w i n (p + 1) (if w.testBit p = true ∧ q.2 < nx l p (i + 1) + 1 then (p, nx l p (i + 1) + 1) else q)
def lat (l : List Nat) (w i : Nat) : Nat := (latF l w i 8 0 (0, 0)).1
theorem latF_ok (l : List Nat) (w i : Nat) : ∀ n p q, p + n = 8 → ((q.2 = 0 ∧ ∀ r, r < p → w.testBit r = false) ∨ (q.1 < 8 ∧ w.testBit q.1 = true ∧ q.2 = nx l q.1 (i + 1) + 1)) → (∀ r, r < p → w.testBit r = true → nx l r (i + 1) + 1 ≤ q.2) → (((latF l w i n p q).2 = 0 ∧ ∀ r, r < 8 → w.testBit r = false) ∨ ((latF l w i n p q).1 < 8 ∧ w.testBit (latF l w i n p q).1 = true ∧ (latF l w i n p q).2 = nx l (latF l w i n p q).1 (i + 1) + 1)) ∧ (∀ r, r < 8 → w.testBit r = true → nx l r (i + 1) + 1 ≤ (latF l w i n p q).2) := by
  intro n
  induction n with
  | zero =>
    intro p q hp h1 h2
    have : p = 8 := by omega
    subst this
    exact ⟨h1, h2⟩
  | succ n ih =>
    intro p q hp h1 h2
    simp only [latF]
    by_cases hb : w.testBit p = true ∧ q.2 < nx l p (i + 1) + 1
    · rw [if_pos hb]
      refine ih (p + 1) _ (by omega) (Or.inr ⟨by show p < 8; omega, hb.1, rfl⟩) (fun r hr ht => ?_)
      show nx l r (i + 1) + 1 ≤ nx l p (i + 1) + 1
      by_cases e : r = p
      · subst e; omega
      · have := h2 r (by omega) ht; omega
    · rw [if_neg hb]
      refine ih (p + 1) q (by omega) ?_ (fun r hr ht => ?_)
      · rcases h1 with ⟨a, b⟩ | h1
        · refine Or.inl ⟨a, fun r hr => ?_⟩
          by_cases e : r = p
          · subst e
            cases ht : w.testBit r with
            | false => rfl
            | true => exact absurd ⟨ht, by omega⟩ hb
          · exact b r (by omega)
        · exact Or.inr h1
      · by_cases e : r = p
        · subst e
          exact Nat.le_of_not_lt (fun h => hb ⟨ht, h⟩)
        · exact h2 r (by omega) ht
def s8 (g : Nat → Nat) : Nat := g 0 + g 1 + g 2 + g 3 + g 4 + g 5 + g 6 + g 7
theorem s8_le {g h : Nat → Nat} (e : ∀ q, q < 8 → g q ≤ h q) : s8 g ≤ s8 h := by
  have e0 := e 0 (by decide); have e1 := e 1 (by decide); have e2 := e 2 (by decide); have e3 := e 3 (by decide); have e4 := e 4 (by decide); have e5 := e 5 (by decide); have e6 := e 6 (by decide); have e7 := e 7 (by decide)
  unfold s8; omega
theorem s8_eq {g h : Nat → Nat} (e : ∀ q, q < 8 → g q = h q) : s8 g = s8 h := by
  have e0 := e 0 (by decide); have e1 := e 1 (by decide); have e2 := e 2 (by decide); have e3 := e 3 (by decide); have e4 := e 4 (by decide); have e5 := e 5 (by decide); have e6 := e 6 (by decide); have e7 := e 7 (by decide)
  unfold s8; omega
theorem s8_1 {g h : Nat → Nat} {p c : Nat} (hp : p < 8) (e : ∀ q, q < 8 → g q = h q + if q = p then c else 0) : s8 g = s8 h + c := by
  have e0 := e 0 (by decide); have e1 := e 1 (by decide); have e2 := e 2 (by decide); have e3 := e 3 (by decide); have e4 := e 4 (by decide); have e5 := e 5 (by decide); have e6 := e 6 (by decide); have e7 := e 7 (by decide)
  unfold s8
  rw [e0, e1, e2, e3, e4, e5, e6, e7]
  rcases (show p = 0 ∨ p = 1 ∨ p = 2 ∨ p = 3 ∨ p = 4 ∨ p = 5 ∨ p = 6 ∨ p = 7 by omega) with rfl | rfl | rfl | rfl | rfl | rfl | rfl | rfl <;> simp <;> omega
def cn (w : Nat) (P : Nat → Bool) : Nat := s8 (fun q => (w.testBit q && P q).toNat)
def cx (w p : Nat) (P : Nat → Bool) : Nat := s8 (fun q => (!decide (q = p) && w.testBit q && P q).toNat)
theorem cn_p8 : ∀ w, w < 256 → cn w (fun _ => true) = p8 w := by decide +kernel
theorem cn_cx {w p : Nat} {P : Nat → Bool} (hp : p < 8) : cn w P = cx w p P + (w.testBit p && P p).toNat := by
  refine s8_1 hp (fun q hq => ?_)
  by_cases e : q = p
  · subst e; simp
  · simp [e]
theorem cx_or {w p : Nat} {P : Nat → Bool} (hw : w < 256) (hp : p < 8) : cx (w ||| 2 ^ p) p P = cx w p P := by
  refine s8_eq (fun q hq => ?_)
  rw [bt_ts w hw p hp q hq]
  by_cases e : q = p
  · simp [e]
  · have e' : ¬ p = q := fun h => e h.symm
    simp [e, e']
theorem cx_clr {w p u : Nat} {P : Nat → Bool} (hw : w < 256) (hu : u < 8) : cx w p P = cx (w &&& (255 - 2 ^ u)) p P + (!decide (u = p) && w.testBit u && P u).toNat := by
  refine s8_1 hu (fun q hq => ?_)
  rw [bt_tc w hw u hu q hq]
  by_cases e : q = u
  · subst e; simp
  · have e' : ¬ u = q := fun h => e h.symm
    simp [e, e']
theorem cx_le {w p : Nat} {P Q : Nat → Bool} (h : ∀ q, q < 8 → P q = true → Q q = true) : cx w p P ≤ cx w p Q := by
  refine s8_le (fun q hq => ?_)
  cases hP : P q with
  | false => simp
  | true => rw [h q hq hP]; exact Nat.le_refl _
theorem cx_eq {w p : Nat} {P Q : Nat → Bool} (h : ∀ q, q < 8 → q ≠ p → P q = Q q) : cx w p P = cx w p Q := by
  refine s8_eq (fun q hq => ?_)
  by_cases e : q = p
  · simp [e]
  · rw [h q hq e]
theorem cx_eqw {w p : Nat} {P Q : Nat → Bool} (h : ∀ q, q < 8 → q ≠ p → w.testBit q = true → P q = Q q) : cx w p P = cx w p Q := by
  refine s8_eq (fun q hq => ?_)
  by_cases e : q = p
  · simp [e]
  · cases ht : w.testBit q with
    | false => simp
    | true => rw [h q hq e ht]
theorem cn_0 {w : Nat} {P : Nat → Bool} (h : ∀ q, q < 8 → P q = false) : cn w P = 0 := by
  have : cn w P = s8 (fun _ => 0) := s8_eq (fun q hq => by rw [h q hq]; simp)
  rw [this]; rfl
theorem cx_0 {w p : Nat} {P : Nat → Bool} (h : ∀ q, q < 8 → q ≠ p → P q = false) : cx w p P = 0 := by
  have h2 : ∀ q, q < 8 → (!decide (q = p) && w.testBit q && P q).toNat = 0 := by
    intro q hq
    by_cases e : q = p
    · simp [e]
    · rw [h q hq e]; simp
  have : cx w p P = s8 (fun _ => 0) := s8_eq h2
  rw [this]; rfl
/-- the desk that knows the line: what lies there, how often it missed, after j asks -/
def bel (l : List Nat) (f : Nat) : Nat → Nat × Nat
  | 0 => (0, 0)
  | j + 1 => if (bel l f j).1.testBit (l.getD j 0) = true then bel l f j else if p8 (bel l f j).1 = f then (((bel l f j).1 &&& (255 - 2 ^ (lat l (bel l f j).1 j))) ||| 2 ^ (l.getD j 0), (bel l f j).2 + 1) else ((bel l f j).1 ||| 2 ^ (l.getD j 0), (bel l f j).2 + 1)
def gAt (l : List Nat) (f j : Nat) : Int32 := if (bel l f j).1.testBit (l.getD j 0) = true then -9 else if p8 (bel l f j).1 = f then nI (lat l (bel l f j).1 j) else -9
/-- of a set that isn't empty: the latest is in it, and none is later -/
theorem lat_ok {l : List Nat} {w i : Nat} (hw : w < 256) (h0 : 1 ≤ p8 w) : lat l w i < 8 ∧ w.testBit (lat l w i) = true ∧ ∀ r, r < 8 → w.testBit r = true → nx l r (i + 1) ≤ nx l (lat l w i) (i + 1) := by
  have := latF_ok l w i 8 0 (0, 0) rfl (Or.inl ⟨rfl, fun r hr => absurd hr (Nat.not_lt_zero _)⟩) (fun r hr => absurd hr (Nat.not_lt_zero _))
  rcases this.1 with ⟨a, b⟩ | ⟨a, b, c⟩
  · exfalso
    rw [← cn_p8 w hw] at h0
    have : cn w (fun _ => true) = s8 (fun _ => 0) := s8_eq (fun q hq => by rw [b q hq]; rfl)
    rw [this] at h0
    exact absurd h0 (by decide)
  · refine ⟨a, b, fun r hr ht => ?_⟩
    have := this.2 r hr ht
    rw [c] at this
    exact Nat.le_of_succ_le_succ this
/-- a set that serves an ask of p: how it may change -/
def Sv (f p s c s' c' : Nat) : Prop := s' < 256 ∧ s'.testBit p = true ∧ (∀ P, cx s' p P ≤ cx s p P) ∧ cx s' p (fun _ => true) + 1 ≤ f ∧ c' + (s.testBit p).toNat = c + 1
theorem sv_hit {f p s c : Nat} (hs : s < 256) (hp : p < 8) (hc : cn s (fun _ => true) ≤ f) (ht : s.testBit p = true) : Sv f p s c s c := by
  refine ⟨hs, ht, fun _ => Nat.le_refl _, ?_, by rw [ht]; rfl⟩
  rw [cn_cx hp, ht] at hc
  simpa using hc
theorem sv_add {f p s c : Nat} (hs : s < 256) (hp : p < 8) (hc : cn s (fun _ => true) < f) (ht : s.testBit p = false) : Sv f p s c (s ||| 2 ^ p) (c + 1) := by
  refine ⟨bt_sl s hs p hp, by rw [bt_ts s hs p hp p hp]; simp, fun _ => Nat.le_of_eq (cx_or hs hp), ?_, by rw [ht]; rfl⟩
  rw [cx_or hs hp]
  rw [cn_cx hp, ht] at hc
  simp only [Bool.false_and, Bool.toNat_false, Nat.add_zero] at hc
  omega
theorem sv_out {f p s c u : Nat} (hs : s < 256) (hp : p < 8) (hu : u < 8) (hc : cn s (fun _ => true) ≤ f) (ht : s.testBit p = false) (hut : s.testBit u = true) : Sv f p s c ((s &&& (255 - 2 ^ u)) ||| 2 ^ p) (c + 1) := by
  have h1 := bt_cl s hs u hu
  have hne : ¬ u = p := fun e => by rw [e, ht] at hut; exact absurd hut (by decide)
  refine ⟨bt_sl _ h1 p hp, by rw [bt_ts _ h1 p hp p hp]; simp, fun P => ?_, ?_, by rw [ht]; rfl⟩
  · rw [cx_or h1 hp, cx_clr (P := P) hs hu]; omega
  · rw [cx_or h1 hp]
    rw [cn_cx hp, ht] at hc
    have := cx_clr (p := p) (P := fun _ => true) hs hu
    simp only [hut, hne, decide_false, Bool.not_false, Bool.and_self, Bool.toNat_true] at this
    simp only [Bool.false_and, Bool.toNat_false, Nat.add_zero] at hc
    omega
def Iv (l : List Nat) (f j w m s c : Nat) : Prop := s < 256 ∧ cn s (fun _ => true) ≤ f ∧ c ≤ j ∧ m ≤ c ∧ ∀ t, cn s (fun q => decide (nx l q j ≤ t)) + m ≤ cn w (fun q => decide (nx l q j ≤ t)) + c
theorem bel_lt {l : List Nat} {f : Nat} (hf : 1 ≤ f) (hl : ∀ p ∈ l, p < 8) : ∀ j, j ≤ l.length → (bel l f j).1 < 256 ∧ p8 (bel l f j).1 ≤ f ∧ (bel l f j).2 ≤ j := by
  intro j
  induction j with
  | zero => intro _; exact ⟨by show 0 < 256; decide, by show p8 0 ≤ f; rw [show p8 0 = 0 by decide]; omega, Nat.le_refl _⟩
  | succ j ih =>
    intro hj
    obtain ⟨h1, h2, h3⟩ := ih (by omega)
    have hp := hl _ (mem_of_getD (L := l) (j := j) (by omega))
    simp only [bel]
    generalize bel l f j = q at *
    generalize l.getD j 0 = p at *
    have hcn := cn_p8 q.1 h1
    by_cases ht : q.1.testBit p = true
    · rw [if_pos ht]; exact ⟨h1, h2, by omega⟩
    · rw [if_neg ht]
      have ht : q.1.testBit p = false := by simpa using ht
      by_cases he : p8 q.1 = f
      · rw [if_pos he]
        obtain ⟨a, b, -⟩ := lat_ok (l := l) (i := j) h1 (by omega)
        obtain ⟨c1, c2, -, c4, -⟩ := sv_out (c := 0) h1 hp a (f := f) (by omega) ht b
        refine ⟨c1, ?_, by show q.2 + 1 ≤ j + 1; omega⟩
        show p8 ((q.1 &&& (255 - 2 ^ lat l q.1 j)) ||| 2 ^ p) ≤ f
        rw [← cn_p8 _ c1, cn_cx hp, c2]
        simpa using c4
      · rw [if_neg he]
        obtain ⟨c1, c2, -, c4, -⟩ := sv_add (c := 0) (f := f) h1 hp (by omega) ht
        refine ⟨c1, ?_, by show q.2 + 1 ≤ j + 1; omega⟩
        show p8 (q.1 ||| 2 ^ p) ≤ f
        rw [← cn_p8 _ c1, cn_cx hp, c2]
        simpa using c4
theorem iv_0 (l : List Nat) (f : Nat) : Iv l f 0 0 0 0 0 := by
  refine ⟨by decide, ?_, Nat.le_refl _, Nat.le_refl _, fun t => Nat.le_refl _⟩
  rw [show cn 0 (fun _ => true) = 0 by decide]; omega
/-- the exchange: whatever else is let go, no fewer are missed -/
theorem iv_s {l : List Nat} {f j s c s' c' : Nat} (hf : 1 ≤ f) (hl : ∀ p ∈ l, p < 8) (hj : j < l.length) (hi : Iv l f j (bel l f j).1 (bel l f j).2 s c) (hv : Sv f (l.getD j 0) s c s' c') : Iv l f (j + 1) (bel l f (j + 1)).1 (bel l f (j + 1)).2 s' c' := by
  obtain ⟨hw, hwf, hwm⟩ := bel_lt hf hl j (by omega)
  have hp := hl _ (mem_of_getD (L := l) (j := j) hj)
  obtain ⟨i1, i2, i3, i4, i5⟩ := hi
  obtain ⟨v1, v2, v3, v4, v5⟩ := hv
  have hnp : nx l (l.getD j 0) j = j := by rw [nx_s hj, if_pos rfl]
  have hnq : ∀ q, q ≠ l.getD j 0 → nx l q j = nx l q (j + 1) := fun q hq => by rw [nx_s hj, if_neg (fun e => hq e.symm)]
  have hb : bel l f (j + 1) = if (bel l f j).1.testBit (l.getD j 0) = true then bel l f j else if p8 (bel l f j).1 = f then (((bel l f j).1 &&& (255 - 2 ^ (lat l (bel l f j).1 j))) ||| 2 ^ (l.getD j 0), (bel l f j).2 + 1) else ((bel l f j).1 ||| 2 ^ (l.getD j 0), (bel l f j).2 + 1) := rfl
  rw [hb]
  generalize bel l f j = q at *
  generalize l.getD j 0 = p at *
  have hcnw := cn_p8 q.1 hw
  -- what holds before, told without p
  have H : ∀ t, j ≤ t → cx s p (fun r => decide (nx l r (j + 1) ≤ t)) + (s.testBit p).toNat + q.2 ≤ cx q.1 p (fun r => decide (nx l r (j + 1) ≤ t)) + (q.1.testBit p).toNat + c := by
    intro t ht
    have := i5 t
    rw [cn_cx hp, cn_cx (w := q.1) hp] at this
    have ed : decide (nx l p j ≤ t) = true := by rw [hnp]; exact decide_eq_true ht
    rw [ed, Bool.and_true, Bool.and_true] at this
    rw [cx_eq (w := s) (p := p) (Q := fun r => decide (nx l r (j + 1) ≤ t)) (fun r _ hr => by rw [hnq r hr]), cx_eq (w := q.1) (p := p) (Q := fun r => decide (nx l r (j + 1) ≤ t)) (fun r _ hr => by rw [hnq r hr])] at this
    omega
  have Hj := H j (Nat.le_refl _)
  rw [cx_0 (w := s) (fun r _ _ => by have := nx_ge l r (j + 1); simp only [decide_eq_false_iff_not]; omega), cx_0 (w := q.1) (fun r _ _ => by have := nx_ge l r (j + 1); simp only [decide_eq_false_iff_not]; omega)] at Hj
  have fin : ∀ w' m', w'.testBit p = true → m' + (q.1.testBit p).toNat = q.2 + 1 → (∀ t, j ≤ t → cx s' p (fun r => decide (nx l r (j + 1) ≤ t)) + m' ≤ cx w' p (fun r => decide (nx l r (j + 1) ≤ t)) + c') → Iv l f (j + 1) w' m' s' c' := by
    intro w' m' hw' hm' hG
    refine ⟨v1, ?_, by omega, by omega, fun t => ?_⟩
    · rw [cn_cx hp, v2]; simpa using v4
    · by_cases ht : j ≤ t
      · rw [cn_cx hp, cn_cx (w := w') hp, v2, hw']
        have := hG t ht
        omega
      · rw [cn_0 (fun r _ => by have := nx_ge l r (j + 1); simp only [decide_eq_false_iff_not]; omega), cn_0 (fun r _ => by have := nx_ge l r (j + 1); simp only [decide_eq_false_iff_not]; omega)]
        omega
  by_cases ht : q.1.testBit p = true
  · rw [if_pos ht]
    refine fin _ _ ht (by rw [ht]; rfl) (fun t htj => ?_)
    have h1 := H t htj
    have h2 := v3 (fun r => decide (nx l r (j + 1) ≤ t))
    rw [ht] at h1
    have : true.toNat = 1 := rfl
    omega
  · rw [if_neg ht]
    have ht : q.1.testBit p = false := by simpa using ht
    have tf : false.toNat = 0 := rfl
    by_cases he : p8 q.1 = f
    · rw [if_pos he]
      obtain ⟨a, b, hlate⟩ := lat_ok (l := l) (i := j) hw (by omega)
      have hne : ¬ lat l q.1 j = p := fun e => by rw [e, ht] at b; exact absurd b (by decide)
      have h1c := bt_cl q.1 hw _ a
      refine fin _ _ (by show ((q.1 &&& (255 - 2 ^ lat l q.1 j)) ||| 2 ^ p).testBit p = true; rw [bt_ts _ h1c p hp p hp]; simp) (by rw [ht]; rfl) (fun t htj => ?_)
      show cx s' p _ + (q.2 + 1) ≤ cx ((q.1 &&& (255 - 2 ^ lat l q.1 j)) ||| 2 ^ p) p _ + c'
      rw [cx_or h1c hp]
      have h1 := H t htj
      have h2 := v3 (fun r => decide (nx l r (j + 1) ≤ t))
      have h3 := cx_clr (p := p) (P := fun r => decide (nx l r (j + 1) ≤ t)) hw a
      simp only [hne, b, decide_false, Bool.not_false, Bool.true_and] at h3
      rw [ht] at h1 Hj
      by_cases hlt : nx l (lat l q.1 j) (j + 1) ≤ t
      · have e1 : cx q.1 p (fun r => decide (nx l r (j + 1) ≤ t)) = cx q.1 p (fun _ => true) := cx_eqw (fun r hr _ htr => by
          have := hlate r hr htr
          exact decide_eq_true (by omega))
        have e2 : cx q.1 p (fun _ => true) = f := by
          have := cn_cx (w := q.1) (P := fun _ => true) hp
          rw [ht] at this
          simp only [Bool.false_and, tf, Nat.add_zero] at this
          omega
        have e3 : cx s' p (fun r => decide (nx l r (j + 1) ≤ t)) ≤ cx s' p (fun _ => true) := cx_le (fun _ _ _ => rfl)
        rw [decide_eq_true hlt] at h3
        have : true.toNat = 1 := rfl
        omega
      · rw [decide_eq_false hlt] at h3
        omega
    · rw [if_neg he]
      refine fin _ _ (by show (q.1 ||| 2 ^ p).testBit p = true; rw [bt_ts _ hw p hp p hp]; simp) (by rw [ht]; rfl) (fun t htj => ?_)
      show cx s' p _ + (q.2 + 1) ≤ cx (q.1 ||| 2 ^ p) p _ + c'
      rw [cx_or hw hp]
      have h1 := H t htj
      have h2 := v3 (fun r => decide (nx l r (j + 1) ≤ t))
      rw [ht] at h1
      omega
