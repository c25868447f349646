/-! PLAIN FACTS: branches by natural numbers, two components of the memory at a time, rows as lists, sets of pages as numbers below 256 -/
theorem lit_nI (n : Nat) : (OfNat.ofNat n : Int32) = nI n := rfl
theorem t_le {x y : Int32} {P Q : Prop} (a b : Nat) (hx : x = nI a) (hy : y = nI b) (ha : a < 2 ^ 31) (hb : b < 2 ^ 31) (h1 : a ≤ b → P) (h2 : b < a → Q) : if x ≤ y then P else Q := by
  subst hx; subst hy
  by_cases h : a ≤ b
  · rw [if_pos ((nI_leI ha hb).mpr h)]; exact h1 h
  · rw [if_neg (fun q => h ((nI_leI ha hb).mp q))]; exact h2 (by omega)
theorem t_lt {x y : Int32} {P Q : Prop} (a b : Nat) (hx : x = nI a) (hy : y = nI b) (ha : a < 2 ^ 31) (hb : b < 2 ^ 31) (h1 : a < b → P) (h2 : b ≤ a → Q) : if x < y then P else Q := by
  subst hx; subst hy
  by_cases h : a < b
  · rw [if_pos ((nI_ltI ha hb).mpr h)]; exact h1 h
  · rw [if_neg (fun q => h ((nI_ltI ha hb).mp q))]; exact h2 (by omega)
theorem t_eq {x y : Int32} {P Q : Prop} (a b : Nat) (hx : x = nI a) (hy : y = nI b) (ha : a < 2 ^ 31) (hb : b < 2 ^ 31) (h1 : a = b → P) (h2 : a ≠ b → Q) : if x = y then P else Q := by
  subst hx; subst hy
  by_cases h : a = b
  · rw [if_pos ((nI_eq ha hb).mpr h)]; exact h1 h
  · rw [if_neg (fun q => h ((nI_eq ha hb).mp q))]; exact h2 h
theorem t_if {c : Prop} [Decidable c] {P Q : Prop} (h1 : c → P) (h2 : ¬ c → Q) : if c then P else Q := by
  by_cases h : c
  · rw [if_pos h]; exact h1 h
  · rw [if_neg h]; exact h2 h
theorem vp_n {x : Int32} {n N : Nat} (hx : x = nI n) (h : n < N) (hN : N < 2 ^ 31) : vp_in x N := by rw [hx]; exact vp_in_nI h hN
theorem cl_n {x : Int32} {n : Nat} (hx : x = nI n) (h : n < 2 ^ 31) : x.toNatClampNeg = n := by rw [hx]; exact nI_clamp h
/-- two components at a time -/
def mk2 (I : Mm) (d r : Nat) (D A : Nat → Int32) : Mm := va_up (va_up I d D) r A
theorem mk2_d {I : Mm} {d r : Nat} {D A : Nat → Int32} (h : d ≠ r) : mk2 I d r D A d = D := by simp [mk2, va_up, h]
theorem mk2_r {I : Mm} {d r : Nat} {D A : Nat → Int32} : mk2 I d r D A r = A := by simp [mk2, va_up]
theorem mk2_o {I : Mm} {d r c : Nat} {D A : Nat → Int32} (h1 : c ≠ d) (h2 : c ≠ r) : mk2 I d r D A c = I c := by simp [mk2, va_up, h1, h2]
theorem mk2_ud {I : Mm} {d r j : Nat} {D A : Nat → Int32} {v : Int32} (h : d ≠ r) : up2 (mk2 I d r D A) d j v = mk2 I d r (upd D j v) A := by
  funext c
  by_cases hc : c = r
  · subst hc; simp [mk2, up2, va_up, Ne.symm h]
  · by_cases hd : c = d
    · subst hd; simp [mk2, up2, va_up, h]
    · simp [mk2, up2, va_up, hc, hd]
theorem mk2_ur {I : Mm} {d r j : Nat} {D A : Nat → Int32} {v : Int32} : up2 (mk2 I d r D A) r j v = mk2 I d r D (upd A j v) := by
  funext c
  by_cases hc : c = r
  · subst hc; simp [mk2, up2, va_up]
  · simp [mk2, up2, va_up, hc]
theorem mk2_self (I : Mm) (d r : Nat) : mk2 I d r (I d) (I r) = I := by
  funext c
  by_cases hc : c = r
  · subst hc; simp [mk2, va_up]
  · by_cases hd : c = d
    · subst hd; simp [mk2, va_up, hc]
    · simp [mk2, va_up, hc, hd]
theorem upd_s (f : Nat → Int32) (k : Nat) (x : Int32) : upd f k x k = x := by simp [upd]
theorem upd_n (f : Nat → Int32) {k j : Nat} (x : Int32) (h : j ≠ k) : upd f k x j = f j := by simp [upd, h]
/-- a row of cells holds a list of small numbers -/
def ar (A : Nat → Int32) (L : List Nat) : Prop := ∀ j, j < L.length → A j = nI (L.getD j 0)
theorem ar_nil (A : Nat → Int32) : ar A [] := fun j h => absurd h (Nat.not_lt_zero j)
theorem ar_push {A : Nat → Int32} {L : List Nat} (h : ar A L) (p : Nat) : ar (upd A L.length (nI p)) (L ++ [p]) := by
  intro j hj
  rw [List.length_append, List.length_singleton] at hj
  by_cases q : j = L.length
  · subst q; rw [upd_s]; simp [List.getD_eq_getElem?_getD]
  · rw [upd_n _ _ q, h j (by omega)]
    congr 1
    simp [List.getD_eq_getElem?_getD, List.getElem?_append_left (show j < L.length by omega)]
/-- cells from p up to q come up by one -/
def shf (A : Nat → Int32) (p q : Nat) : Nat → Int32 := fun j => if p ≤ j ∧ j < q then A (j + 1) else A j
theorem shf_0 (A : Nat → Int32) {p q : Nat} (h : q ≤ p) : shf A p q = A := by
  funext j; simp only [shf]; rw [if_neg (by omega)]
theorem shf_1 (A : Nat → Int32) {p q : Nat} (h : p < q) : shf (upd A p (A (p + 1))) (p + 1) q = shf A p q := by
  funext j
  simp only [shf]
  by_cases h1 : p + 1 ≤ j ∧ j < q
  · rw [if_pos h1, if_pos (by omega), upd_n _ _ (by omega)]
  · rw [if_neg h1]
    by_cases h2 : j = p
    · subst h2; rw [if_pos (by omega), upd_s]
    · rw [if_neg (by omega), upd_n _ _ h2]
theorem ar_shf {A : Nat → Int32} {L : List Nat} (h : ar A L) {q : Nat} (hq : q < L.length) : ar (shf A q (L.length - 1)) (L.eraseIdx q) := by
  intro j hj
  rw [List.length_eraseIdx, if_pos hq] at hj
  simp only [shf]
  by_cases h1 : q ≤ j
  · rw [if_pos ⟨h1, by omega⟩, h (j + 1) (by omega)]
    congr 1
    simp [List.getD_eq_getElem?_getD, List.getElem?_eraseIdx, Nat.not_lt.mpr h1]
  · rw [if_neg (by omega), h j (by omega)]
    congr 1
    simp [List.getD_eq_getElem?_getD, List.getElem?_eraseIdx, Nat.lt_of_not_le h1]
/-- sets of pages, below 256 -/
def bt1 (p : Nat) : Int32 := (1 : Int32) <<< (nI p &&& 31)
theorem bt_set : ∀ w, w < 256 → ∀ p, p < 8 → nI w ||| bt1 p = nI (w ||| 2 ^ p) := by decide +kernel
theorem bt_clr : ∀ w, w < 256 → ∀ p, p < 8 → nI w &&& (bt1 p ^^^ (-1)) = nI (w &&& (255 - 2 ^ p)) := by decide +kernel
theorem bt_tst : ∀ w, w < 256 → ∀ p, p < 8 → ((nI w >>> (nI p &&& 31)) &&& 1) = nI (if w.testBit p then 1 else 0) := by decide +kernel
theorem bt_sl : ∀ w, w < 256 → ∀ p, p < 8 → w ||| 2 ^ p < 256 := by decide +kernel
theorem bt_cl : ∀ w, w < 256 → ∀ p, p < 8 → w &&& (255 - 2 ^ p) < 256 := by decide +kernel
theorem bt_ts : ∀ w, w < 256 → ∀ p, p < 8 → ∀ q, q < 8 → (w ||| 2 ^ p).testBit q = (w.testBit q || decide (p = q)) := by decide +kernel
theorem bt_tc : ∀ w, w < 256 → ∀ p, p < 8 → ∀ q, q < 8 → (w &&& (255 - 2 ^ p)).testBit q = (w.testBit q && !decide (p = q)) := by decide +kernel
/-! DESKS AS NUMBERS: the pages that lie there in their row, which are used, how often it was missed -/
abbrev DS : Type := List Nat × Nat × Nat
/-- the used ones at the head are spared, n times at most -/
def spr : Nat → List Nat → Nat → List Nat × Nat
  | 0, L, w => (L, w)
  | n + 1, L, w => match L with
    | [] => (L, w)
    | a :: r => if w.testBit a then spr n (r ++ [a]) (w &&& (255 - 2 ^ a)) else (L, w)
def gone (k : Nat) (L : List Nat) (w : Nat) : List Nat × Nat :=
  let q := if k = 1 then spr 8 L w else (L, w)
  (q.1.tail, q.2 &&& (255 - 2 ^ (q.1.headD 0)))
def stp (k f : Nat) (s : DS) (p : Nat) : DS :=
  if p ∈ s.1 then (if k = 0 then s else if k = 1 then (s.1, s.2.1 ||| 2 ^ p, s.2.2) else (s.1.eraseIdx (s.1.idxOf p) ++ [p], s.2.1 ||| 2 ^ p, s.2.2))
  else
    let t := if s.1.length < f then (s.1, s.2.1) else gone k s.1 s.2.1
    (t.1 ++ [p], t.2, s.2.2 + 1)
/-- a desk by the asks in a list -/
def ply (k f : Nat) (l : List Nat) : DS := l.foldl (stp k f) ([], 0, 0)
/-- what always holds of a desk -/
def okD (f : Nat) (s : DS) : Prop := s.1.Nodup ∧ (∀ p ∈ s.1, p < 8) ∧ s.1.length ≤ f ∧ s.2.1 < 256
theorem spr_ok : ∀ (n : Nat) (L : List Nat) (w : Nat), L.Nodup → (∀ p ∈ L, p < 8) → w < 256 → ((spr n L w).1.Nodup ∧ (∀ p ∈ (spr n L w).1, p < 8) ∧ (spr n L w).1.length = L.length ∧ (spr n L w).2 < 256) := by
  intro n
  induction n with
  | zero => intro L w h1 h2 h3; exact ⟨h1, h2, rfl, h3⟩
  | succ n ih =>
    intro L w h1 h2 h3
    cases L with
    | nil => exact ⟨h1, h2, rfl, h3⟩
    | cons a r =>
      simp only [spr]
      by_cases hb : w.testBit a
      · rw [if_pos hb]
        have hn : (r ++ [a]).Nodup := by
          have := List.nodup_cons.mp h1
          rw [List.nodup_append]
          refine ⟨this.2, by simp, ?_⟩
          intro x hx y hy
          simp only [List.mem_singleton] at hy
          subst hy
          intro e; subst e; exact this.1 hx
        have ha : a < 8 := h2 a (by simp)
        have := ih (r ++ [a]) (w &&& (255 - 2 ^ a)) hn (by
          intro p hp
          rcases List.mem_append.mp hp with h | h
          · exact h2 p (by simp [h])
          · simp only [List.mem_singleton] at h; subst h; exact ha) (bt_cl w h3 a ha)
        refine ⟨this.1, this.2.1, ?_, this.2.2.2⟩
        rw [this.2.2.1]; simp
      · rw [if_neg hb]; exact ⟨h1, h2, rfl, h3⟩
/-- how many of a list are used -/
def cntU (L : List Nat) (w : Nat) : Nat := (L.filter (fun a => w.testBit a)).length
theorem cntU_le (L : List Nat) (w : Nat) : cntU L w ≤ L.length := List.length_filter_le _ _
/-- beyond as many turns as there are used ones nothing more is spared -/
theorem spr_more : ∀ (n m : Nat) (L : List Nat) (w : Nat), L.Nodup → (∀ p ∈ L, p < 8) → w < 256 → cntU L w ≤ n → cntU L w ≤ m → spr n L w = spr m L w := by
  intro n
  induction n with
  | zero =>
    intro m L w h1 h2 h3 hn hm
    cases m with
    | zero => rfl
    | succ m =>
      cases L with
      | nil => rfl
      | cons a r =>
        simp only [spr]
        have : ¬ w.testBit a := by
          intro hb
          simp [cntU, List.filter_cons, hb] at hn
        rw [if_neg this]
  | succ n ih =>
    intro m L w h1 h2 h3 hn hm
    cases L with
    | nil => cases m <;> rfl
    | cons a r =>
      by_cases hb : w.testBit a
      · cases m with
        | zero => simp [cntU, List.filter_cons, hb] at hm
        | succ m =>
          simp only [spr]
          rw [if_pos hb, if_pos hb]
          have hnr := List.nodup_cons.mp h1
          have ha : a < 8 := h2 a (by simp)
          have hcnt : cntU (r ++ [a]) (w &&& (255 - 2 ^ a)) + 1 = cntU (a :: r) w := by
            simp only [cntU, List.filter_append, List.length_append, List.filter_cons, hb]
            have e2 : (r.filter (fun x => (w &&& (255 - 2 ^ a)).testBit x)) = r.filter (fun x => w.testBit x) := by
              apply List.filter_congr
              intro x hx
              have hxa : a ≠ x := fun e => hnr.1 (e ▸ hx)
              rw [bt_tc w h3 a ha x (h2 x (by simp [hx]))]
              simp [hxa]
            rw [e2]
            simp only [List.filter_nil]
            rw [if_neg (by rw [bt_tc w h3 a ha a ha]; simp)]
            simp
          have hn' : (r ++ [a]).Nodup := by
            rw [List.nodup_append]
            refine ⟨hnr.2, by simp, ?_⟩
            intro x hx y hy
            simp only [List.mem_singleton] at hy
            subst hy
            intro e; subst e; exact hnr.1 hx
          exact ih m (r ++ [a]) _ hn' (by
            intro p hp
            rcases List.mem_append.mp hp with h | h
            · exact h2 p (by simp [h])
            · simp only [List.mem_singleton] at h; subst h; exact ha) (bt_cl w h3 a ha) (by omega) (by omega)
      · cases m with
        | zero => simp only [spr]; rw [if_neg hb]
        | succ m => simp only [spr]; rw [if_neg hb, if_neg hb]
