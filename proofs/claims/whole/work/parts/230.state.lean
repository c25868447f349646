/-! THE STATE OF BOTH, as one mathematical value: desks, line, how many asks came, kinds, frames, readings, sheets, fault, trace -/
abbrev St : Type := Nat × List Nat × Nat × (Nat → Nat) × (Nat → Nat) × List (Nat × Nat × Nat) × (Nat → Option (Nat × Nat × (Nat → Int32))) × Int32 × Int32
abbrev s_n (z : St) : Nat := z.1
abbrev s_l (z : St) : List Nat := z.2.1
abbrev s_c (z : St) : Nat := z.2.2.1
abbrev s_k (z : St) : Nat → Nat := z.2.2.2.1
abbrev s_f (z : St) : Nat → Nat := z.2.2.2.2.1
abbrev s_r (z : St) : List (Nat × Nat × Nat) := z.2.2.2.2.2.1
abbrev s_s (z : St) : Nat → Option (Nat × Nat × (Nat → Int32)) := z.2.2.2.2.2.2.1
abbrev s_t (z : St) : Int32 := z.2.2.2.2.2.2.2.1
abbrev s_x (z : St) : Int32 := z.2.2.2.2.2.2.2.2
/-- what a desk has become by the asks that came -/
def now (z : St) (k : Nat) : DS := ply (s_k z k) (s_f z k) ((s_l z).take (s_c z))
/-- well formed -/
def wfS (z : St) : Prop := s_n z ≤ 4 ∧ (s_l z).length ≤ 24 ∧ (∀ p ∈ s_l z, p < 8) ∧ s_c z ≤ (s_l z).length ∧ (∀ k, k < s_n z → s_k z k < 3 ∧ 1 ≤ s_f z k ∧ s_f z k ≤ 5) ∧ ((s_r z).length ≤ 8 ∧ ∀ q ∈ s_r z, q.1 < s_n z ∧ q.2.1 < (s_l z).length ∧ q.2.2 < 2) ∧ (∀ k q, k < 4 → s_s z k = some q → q.1 < 3 ∧ q.2.1 ≤ 60) ∧ (s_n z = 0 → s_l z = []) ∧ (0 < s_n z → s_l z ≠ [])
def rdC (a b c : Nat → Int32) (r : List (Nat × Nat × Nat)) : Prop := ∀ j, j < r.length → a j = nI (r.getD j (0, 0, 0)).1 ∧ b j = nI (r.getD j (0, 0, 0)).2.1 ∧ c j = nI (r.getD j (0, 0, 0)).2.2
/-- the class holds it -/
def shC9 (S A : Nat → Int32) (q : Option (Nat × Nat × (Nat → Int32))) : Prop := match q with
  | none => S 1 = -1
  | some q => S 1 = nI q.1 ∧ S 2 = nI q.2.1 ∧ ∀ j, j < q.2.1 → A j = q.2.2 j
def CV (ki : Nat → Nat) (z : St) (I : Mm) : Prop :=
  I 0 8 = nI (s_n z) ∧ (I 8 1 = nI (s_l z).length ∧ ar (I 9) (s_l z)) ∧ I 0 9 = nI (s_c z) ∧ (∀ k, k < s_n z → ki (40 + k) = kc (s_k z k) ∧ rp (I (40 + k)) (I (40 + k + 20)) (s_f z k) (now z k)) ∧ (I 12 3 = nI (s_r z).length ∧ rdC (I 13) (I 14) (I 15) (s_r z)) ∧ (∀ k, k < 4 → shC9 (I (20 + k)) (I (20 + k + 4)) (s_s z k)) ∧ I 0 10 = s_t z ∧ I 16 0 = s_x z ∧ (∀ k, k < 3 → ki (30 + k) = kc k)
/-- the model holds it -/
def shM10 (a b : Int32) (A : Nat → Int32) (k : Nat) (q : Option (Nat × Nat × (Nat → Int32))) : Prop := match q with
  | none => a = -1
  | some q => a = nI q.2.1 ∧ b = nI q.1 ∧ ∀ j, j < q.2.1 → A (60 * k + j) = q.2.2 j
def MV (z : St) (I : Mm) : Prop :=
  I 100 1 = nI (s_n z) ∧ (I 100 2 = nI (s_l z).length ∧ ar (I 106) (s_l z)) ∧ I 100 3 = nI (s_c z) ∧ (∀ k, k < s_n z → I 104 k = nI (s_k z k) ∧ I 105 k = nI (s_f z k)) ∧ (I 100 21 = nI (s_r z).length ∧ rdC (I 122) (I 123) (I 124) (s_r z)) ∧ (∀ k, k < 4 → shM10 (I 125 k) (I 126 k) (I 127) k (s_s z k)) ∧ I 100 0 = s_t z ∧ I 100 29 = s_x z
/-- what may change besides: the class's own scratch, the model's -/
def scC : List Nat := [2, 3, 4, 5, 10, 11, 30, 31, 32, 50, 51, 52]
def scM : List Nat := [100, 110, 111, 112, 118, 119, 120, 128]
def scJ : List Nat := [7, 8, 9, 13, 14, 15, 16, 17]
def SC (I I' : Mm) : Prop := ∀ c, c ∉ scC → I' c = I c
def SM (I I' : Mm) : Prop := (∀ c, c ∉ scM → I' c = I c) ∧ ∀ j, j ∉ scJ → I' 100 j = I 100 j
/-- the one side leaves the other's components -/
def FC (I I' : Mm) : Prop := ∀ c, 100 ≤ c → I' c = I c
def FM (I I' : Mm) : Prop := ∀ c, c < 100 → I' c = I c
theorem SC.rf {I : Mm} : SC I I := fun _ _ => rfl
theorem SM.rf {I : Mm} : SM I I := ⟨fun _ _ => rfl, fun _ _ => rfl⟩
theorem SC.tr {I J K : Mm} (h1 : SC I J) (h2 : SC J K) : SC I K := fun c hc => (h2 c hc).trans (h1 c hc)
theorem SM.tr {I J K : Mm} (h1 : SM I J) (h2 : SM J K) : SM I K := ⟨fun c hc => (h2.1 c hc).trans (h1.1 c hc), fun j hj => (h2.2 j hj).trans (h1.2 j hj)⟩
theorem FC.rf {I : Mm} : FC I I := fun _ _ => rfl
theorem FM.rf {I : Mm} : FM I I := fun _ _ => rfl
theorem FC.tr {I J K : Mm} (h1 : FC I J) (h2 : FC J K) : FC I K := fun c hc => (h2 c hc).trans (h1 c hc)
theorem FM.tr {I J K : Mm} (h1 : FM I J) (h2 : FM J K) : FM I K := fun c hc => (h2 c hc).trans (h1 c hc)
theorem scC_lt : ∀ c ∈ scC, c < 100 := by decide
theorem scM_ge : ∀ c ∈ scM, 100 ≤ c := by decide
theorem SC.fc {I J : Mm} (h : SC I J) : FC I J := fun c hc => h c (fun hm => by have := scC_lt c hm; omega)
theorem SM.fm {I J : Mm} (h : SM I J) : FM I J := fun c hc => h.1 c (fun hm => by have := scM_ge c hm; omega)
theorem scC_n {c : Nat} (h : (12 ≤ c ∧ c < 30) ∨ (33 ≤ c ∧ c < 50) ∨ 53 ≤ c) : c ∉ scC := by
  intro hm
  simp only [scC, List.mem_cons, List.not_mem_nil, or_false] at hm
  omega
theorem CV.sc {ki : Nat → Nat} {z : St} {I J : Mm} (hw : s_n z ≤ 4) (h : SC I J) (hv : CV ki z I) : CV ki z J := by
  obtain ⟨h1, h2, h3, h4, h5, h6, h7, h8, h9⟩ := hv
  have e0 := h 0 (by decide); have e8 := h 8 (by decide); have e9 := h 9 (by decide); have e12 := h 12 (by decide); have e13 := h 13 (by decide); have e14 := h 14 (by decide); have e15 := h 15 (by decide); have e16 := h 16 (by decide)
  refine ⟨by rw [e0]; exact h1, ⟨by rw [e8]; exact h2.1, by rw [e9]; exact h2.2⟩, by rw [e0]; exact h3, fun k hk => ?_, ⟨by rw [e12]; exact h5.1, by rw [e13, e14, e15]; exact h5.2⟩, fun k hk => ?_, by rw [e0]; exact h7, by rw [e16]; exact h8, h9⟩
  · rw [h (40 + k) (scC_n (by omega)), h (40 + k + 20) (scC_n (by omega))]; exact h4 k hk
  · rw [h (20 + k) (scC_n (by omega)), h (20 + k + 4) (scC_n (by omega))]; exact h6 k hk
theorem CV.fm {ki : Nat → Nat} {z : St} {I J : Mm} (hw : s_n z ≤ 4) (h : FM I J) (hv : CV ki z I) : CV ki z J := by
  obtain ⟨h1, h2, h3, h4, h5, h6, h7, h8, h9⟩ := hv
  have e0 := h 0 (by decide); have e8 := h 8 (by decide); have e9 := h 9 (by decide); have e12 := h 12 (by decide); have e13 := h 13 (by decide); have e14 := h 14 (by decide); have e15 := h 15 (by decide); have e16 := h 16 (by decide)
  refine ⟨by rw [e0]; exact h1, ⟨by rw [e8]; exact h2.1, by rw [e9]; exact h2.2⟩, by rw [e0]; exact h3, fun k hk => ?_, ⟨by rw [e12]; exact h5.1, by rw [e13, e14, e15]; exact h5.2⟩, fun k hk => ?_, by rw [e0]; exact h7, by rw [e16]; exact h8, h9⟩
  · rw [h (40 + k) (by omega), h (40 + k + 20) (by omega)]; exact h4 k hk
  · rw [h (20 + k) (by omega), h (20 + k + 4) (by omega)]; exact h6 k hk
theorem MV.sm {z : St} {I J : Mm} (h : SM I J) (hv : MV z I) : MV z J := by
  obtain ⟨h1, h2, h3, h4, h5, h6, h7, h8⟩ := hv
  have e4 := h.1 104 (by decide); have e5 := h.1 105 (by decide); have e6 := h.1 106 (by decide); have e22 := h.1 122 (by decide); have e23 := h.1 123 (by decide); have e24 := h.1 124 (by decide); have e25 := h.1 125 (by decide); have e26 := h.1 126 (by decide); have e27 := h.1 127 (by decide)
  refine ⟨by rw [h.2 1 (by decide)]; exact h1, ⟨by rw [h.2 2 (by decide)]; exact h2.1, by rw [e6]; exact h2.2⟩, by rw [h.2 3 (by decide)]; exact h3, by rw [e4, e5]; exact h4, ⟨by rw [h.2 21 (by decide)]; exact h5.1, by rw [e22, e23, e24]; exact h5.2⟩, by rw [e25, e26, e27]; exact h6, by rw [h.2 0 (by decide)]; exact h7, by rw [h.2 29 (by decide)]; exact h8⟩
theorem MV.fc {z : St} {I J : Mm} (h : FC I J) (hv : MV z I) : MV z J := by
  obtain ⟨h1, h2, h3, h4, h5, h6, h7, h8⟩ := hv
  have e0 := h 100 (by decide); have e4 := h 104 (by decide); have e5 := h 105 (by decide); have e6 := h 106 (by decide); have e22 := h 122 (by decide); have e23 := h 123 (by decide); have e24 := h 124 (by decide); have e25 := h 125 (by decide); have e26 := h 126 (by decide); have e27 := h 127 (by decide)
  refine ⟨by rw [e0]; exact h1, ⟨by rw [e0]; exact h2.1, by rw [e6]; exact h2.2⟩, by rw [e0]; exact h3, by rw [e4, e5]; exact h4, ⟨by rw [e0]; exact h5.1, by rw [e22, e23, e24]; exact h5.2⟩, by rw [e25, e26, e27]; exact h6, by rw [e0]; exact h7, by rw [e0]; exact h8⟩
/-! numbers within bounds -/
abbrev InR (x : Int32) (a b : Nat) : Prop := (a : Int) ≤ x.toInt ∧ x.toInt < (b : Int)
theorem InR.n {x : Int32} {a b : Nat} (h : InR x a b) (hb : b ≤ 2 ^ 31) : x = nI x.toNatClampNeg ∧ a ≤ x.toNatClampNeg ∧ x.toNatClampNeg < b := by
  have h0 : ¬ x < 0 := by
    rw [Int32.lt_iff_toInt_lt]
    have : (0 : Int32).toInt = 0 := by decide
    rw [this]; have := h.1; omega
  obtain ⟨j, hj, e⟩ := nI_of h0
  have ej : x.toNatClampNeg = j := cl_n e hj
  rw [ej]
  have ht : x.toInt = (j : Int) := by rw [e, nI_toInt hj]
  have := h.1; have := h.2
  exact ⟨e, by omega, by omega⟩
theorem InR.of {j a b : Nat} (h1 : a ≤ j) (h2 : j < b) (hb : b ≤ 2 ^ 31) : InR (nI j) a b := by
  have : (nI j).toInt = (j : Int) := nI_toInt (by omega)
  constructor <;> rw [this] <;> omega
theorem ite01 {c : Prop} [Decidable c] {A B : Prop} : (if (if c then (1 : Int32) else 0) = 0 then A else B) = (if c then B else A) := by
  by_cases h : c
  · simp [h]
  · simp [h]
theorem b01 {c : Prop} [Decidable c] : (if c then (1 : Int32) else 0) = 0 ∨ (if c then (1 : Int32) else 0) = 1 := by
  by_cases h : c
  · right; rw [if_pos h]
  · left; rw [if_neg h]
theorem w9 {x z y : Int32} {a b : Nat} {I : Mm} {Post : Int32 → Mm → Prop} (hz : z.toInt = (a : Int)) (hy : y.toInt = (b : Int) - 1) (h : Post (if InR x a b then 1 else 0) I) : wp_X9_isWithin x z y I Post := by
  unfold wp_X9_isWithin
  refine t_if (fun h1 => ?_) (fun h1 => t_if (fun h2 => ?_) (fun h2 => ?_))
  · rw [Int32.lt_iff_toInt_lt, hz] at h1
    rw [if_neg (by omega)] at h; exact h
  · rw [Int32.lt_iff_toInt_lt, hy] at h2
    rw [if_neg (by omega)] at h; exact h
  · rw [Int32.lt_iff_toInt_lt, hz] at h1
    rw [Int32.lt_iff_toInt_lt, hy] at h2
    rw [if_pos (by omega)] at h; exact h
theorem w10 {x : Int32} {z y : Int64} {a b : Nat} {I : Mm} {Post : Int32 → Mm → Prop} (hz : z.toInt = (a : Int)) (hy : y.toInt = (b : Int) - 1) (h : Post (if InR x a b then 1 else 0) I) : wp_X10_in x.toInt64 z y I Post := by
  have ex : x.toInt64.toInt = x.toInt := Int32.toInt_toInt64 x
  unfold wp_X10_in
  refine t_if (fun h1 => ?_) (fun h1 => t_if (fun h2 => ?_) (fun h2 => ?_))
  · rw [lg_cmp_lt, Int64.lt_iff_toInt_lt, hz, ex] at h1
    rw [if_neg (by omega)] at h; exact h
  · rw [lg_cmp_gt, Int64.lt_iff_toInt_lt, hy, ex] at h2
    rw [if_neg (by omega)] at h; exact h
  · rw [lg_cmp_lt, Int64.lt_iff_toInt_lt, hz, ex] at h1
    rw [lg_cmp_gt, Int64.lt_iff_toInt_lt, hy, ex] at h2
    rw [if_pos (by omega)] at h; exact h
theorem nI_m1 : ∀ n, n ≤ 60 → (nI n - (1 : Int32)).toInt = (n : Int) - 1 := by decide +kernel
theorem nL_m1 : ∀ n, n ≤ 60 → ((nI n).toInt64 - (1 : Int64)).toInt = (n : Int) - 1 := by decide +kernel
section HLP
variable {ki : Nat → Nat} {nd : Nat} {x : Int32} {I : Mm} {Post : Int32 → Mm → Prop}
theorem w_isDesk {n : Nat} (hn : n ≤ 4) (h8 : I 0 8 = nI n) (h : Post (if InR x 0 n then 1 else 0) I) : wp_X9_isDesk ki nd x I Post := by
  unfold wp_X9_isDesk
  exact w9 (a := 0) (b := n) (by decide) (by rw [h8]; exact nI_m1 n (by omega)) ⟨b01, h⟩
theorem w_has {n : Nat} (hn : n ≤ 24) (h8 : I 8 1 = nI n) (h : Post (if InR x 0 n then 1 else 0) I) : wp_X2_has x I Post := by
  unfold wp_X2_has
  exact w9 (a := 0) (b := n) (by decide) (by rw [h8]; exact nI_m1 n (by omega)) ⟨b01, h⟩
theorem w_page (h : Post (if InR x 0 8 then 1 else 0) I) : wp_X9_isPage x I Post := by
  unfold wp_X9_isPage
  exact w9 (a := 0) (b := 8) (by decide) (by decide) ⟨b01, h⟩
theorem w_sheet (h : Post (if InR x 0 4 then 1 else 0) I) : wp_X9_isSheet x I Post := by
  unfold wp_X9_isSheet
  exact w9 (a := 0) (b := 4) (by decide) (by decide) ⟨b01, h⟩
theorem w_room {n : Nat} (hn : n ≤ 4) (h8 : I 0 8 = nI n) (h : Post (if 0 < n then 1 else 0) I) : wp_X9_hasRoom ki nd I Post := by
  unfold wp_X9_hasRoom
  refine t_le n 0 h8 rfl (by omega) (by decide) (fun h1 => ?_) (fun h1 => ?_)
  · rw [if_neg (by omega)] at h; exact h
  · rw [if_pos h1] at h; exact h
theorem m_noDesk {n : Nat} (hn : n ≤ 4) (h8 : I 100 1 = nI n) (h : Post (if InR x 0 n then 0 else 1) I) : wp_X10_noDesk x I Post := by
  unfold wp_X10_noDesk
  refine w10 (a := 0) (b := n) (by decide) (by rw [h8]; exact nL_m1 n (by omega)) ?_
  rw [ite01]
  exact t_if (fun q => by rw [if_pos q] at h; exact h) (fun q => by rw [if_neg q] at h; exact h)
theorem m_noAsk {n : Nat} (hn : n ≤ 24) (h8 : I 100 2 = nI n) (h : Post (if InR x 0 n then 0 else 1) I) : wp_X10_noAsk x I Post := by
  unfold wp_X10_noAsk
  refine w10 (a := 0) (b := n) (by decide) (by rw [h8]; exact nL_m1 n (by omega)) ?_
  rw [ite01]
  exact t_if (fun q => by rw [if_pos q] at h; exact h) (fun q => by rw [if_neg q] at h; exact h)
theorem m_page (h : Post (if InR x 0 8 then 1 else 0) I) : wp_X10_isPage x I Post := by
  unfold wp_X10_isPage
  exact w10 (a := 0) (b := 8) (by decide) (by decide) ⟨b01, h⟩
theorem m_noSheet (h : Post (if InR x 0 4 then 0 else 1) I) : wp_X10_noSheet x I Post := by
  unfold wp_X10_noSheet
  refine w10 (a := 0) (b := 4) (by decide) (by decide) ?_
  rw [ite01]
  exact t_if (fun q => by rw [if_pos q] at h; exact h) (fun q => by rw [if_neg q] at h; exact h)
theorem ite10 {c : Prop} [Decidable c] {A B : Prop} : (if (if c then (0 : Int32) else 1) = 0 then A else B) = (if c then A else B) := by
  by_cases h : c
  · simp [h]
  · simp [h]
end HLP
