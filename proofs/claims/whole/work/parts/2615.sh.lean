/-! the shape of the memory as a closed list: component, kind, length, references (slot, component) -/
abbrev SE : Type := Nat × Nat × Nat × List (Nat × Nat)
def Sh (g : Gm) (S : List SE) : Prop := gC g = S.map (fun e => e.1) ∧ ∀ e ∈ S, gK g e.1 = e.2.1 ∧ gL g e.1 = e.2.2.1 ∧ ∀ r ∈ e.2.2.2, gR g e.1 r.1 = some (gA g r.2)
def Vi (I : Mm) (L : List Nat) (W : List (Nat × Nat × Int32)) : Prop := ∀ c ∈ L, ∀ j, I c j = ((W.find? (fun w => w.1 == c && w.2.1 == j)).map (fun w => w.2.2)).getD 0
theorem Sh.m {g : Gm} {S : List SE} (h : Sh g S) (i : Nat) {e : SE} (he : S[i]? = some e) : e.1 ∈ gC g := by
  rw [h.1]; exact List.mem_map.mpr ⟨e, List.mem_of_getElem? he, rfl⟩
theorem Sh.n {g : Gm} {S : List SE} (h : Sh g S) {c : Nat} (hc : c ∉ S.map (fun e => e.1)) : c ∉ gC g := by rw [h.1]; exact hc
theorem Sh.k {g : Gm} {S : List SE} (h : Sh g S) (i : Nat) {e : SE} (he : S[i]? = some e) : gK g e.1 = e.2.1 := (h.2 e (List.mem_of_getElem? he)).1
theorem Sh.l {g : Gm} {S : List SE} (h : Sh g S) (i : Nat) {e : SE} (he : S[i]? = some e) : gL g e.1 = e.2.2.1 := (h.2 e (List.mem_of_getElem? he)).2.1
theorem Sh.r {g : Gm} {S : List SE} (h : Sh g S) (i q : Nat) {e : SE} {r : Nat × Nat} (he : S[i]? = some e) (hr : e.2.2.2[q]? = some r) : gR g e.1 r.1 = some (gA g r.2) := (h.2 e (List.mem_of_getElem? he)).2.2 r (List.mem_of_getElem? hr)
theorem Sh.add {g : Gm} {S S' : List SE} {c a k n : Nat} (h : Sh g S) (hc : c ∉ S.map (fun e => e.1)) (hw : ∀ e ∈ S, ∀ r ∈ e.2.2.2, r.2 ≠ c) (hS : S' = S ++ [(c, k, n, [])]) : Sh (gAdd g c a k n) S' := by
  subst hS
  constructor
  · show gC g ++ [c] = _
    rw [h.1, List.map_append]; rfl
  · intro e he
    rcases List.mem_append.mp he with he | he
    · have hne : e.1 ≠ c := fun q => hc (by rw [← q]; exact List.mem_map.mpr ⟨e, he, rfl⟩)
      obtain ⟨h1, h2, h3⟩ := h.2 e he
      refine ⟨(va_up_ne _ _ hne).trans h1, (va_up_ne _ _ hne).trans h2, fun r hr => ?_⟩
      show va_up (gR g) c (fun _ => none) e.1 r.1 = some (va_up (gA g) c a r.2)
      rw [va_up_ne _ _ hne, va_up_ne _ _ (hw e he r hr)]
      exact h3 r hr
    · rw [List.mem_singleton.mp he]
      exact ⟨va_up_self _ _ _, va_up_self _ _ _, fun r hr => absurd hr List.not_mem_nil⟩
theorem Sh.put {g : Gm} {S S' : List SE} {c j t a : Nat} (h : Sh g S) (ha : gA g t = a) (hS : S' = S.map (fun e => if e.1 = c then (e.1, e.2.1, e.2.2.1, (j, t) :: e.2.2.2.filter (fun r => !(r.1 == j))) else e)) : Sh (gPut g c j a) S' := by
  subst hS
  subst ha
  constructor
  · show gC g = _
    rw [h.1, List.map_map]
    apply List.map_congr_left
    intro e _
    show e.1 = (if e.1 = c then _ else e).1
    by_cases q : e.1 = c
    · rw [if_pos q]
    · rw [if_neg q]
  · intro e' he'
    obtain ⟨e, he, rfl⟩ := List.mem_map.mp he'
    obtain ⟨h1, h2, h3⟩ := h.2 e he
    by_cases q : e.1 = c
    · rw [if_pos q]
      refine ⟨h1, h2, fun r hr => ?_⟩
      show va_up (gR g) c (va_up (gR g c) j (some (gA g t))) e.1 r.1 = some (gA g r.2)
      rw [q, va_up_self]
      rcases List.mem_cons.mp hr with rfl | hr
      · exact va_up_self _ _ _
      · obtain ⟨hr1, hr2⟩ := List.mem_filter.mp hr
        have : r.1 ≠ j := by simpa using hr2
        rw [va_up_ne _ _ this, ← q]
        exact h3 r hr1
    · rw [if_neg q]
      refine ⟨h1, h2, fun r hr => ?_⟩
      show va_up (gR g) c (va_up (gR g c) j (some (gA g t))) e.1 r.1 = some (gA g r.2)
      rw [va_up_ne _ _ q]
      exact h3 r hr
theorem Vi.add {I : Mm} {L : List Nat} {W : List (Nat × Nat × Int32)} {c : Nat} (h : Vi I L W) (hW : ∀ w ∈ W, w.1 ≠ c) : Vi (iAdd I c) (L ++ [c]) W := by
  intro d hd j
  by_cases e : d = c
  · subst e
    show va_up I d (fun _ => 0) d j = _
    rw [va_up_self]
    have : W.find? (fun w => w.1 == d && w.2.1 == j) = none := by
      rw [List.find?_eq_none]
      intro w hw
      have := hW w hw
      simp [this]
    rw [this]; rfl
  · show va_up I c (fun _ => 0) d j = _
    rw [va_up_ne _ _ e]
    rcases List.mem_append.mp hd with hd | hd
    · exact h d hd j
    · exact absurd (List.mem_singleton.mp hd) e
theorem Vi.up {I : Mm} {L : List Nat} {W : List (Nat × Nat × Int32)} {c i : Nat} {v : Int32} (h : Vi I L W) : Vi (up2 I c i v) L ((c, i, v) :: W) := by
  intro d hd j
  rw [List.find?_cons]
  by_cases e : d = c
  · subst e
    by_cases q : j = i
    · subst q
      rw [up2_c, upd_s]
      simp
    · rw [up2_c, upd_n _ _ q]
      have : (d == d && i == j) = false := by simp; exact fun z => q z.symm
      rw [this]
      exact h d hd j
  · rw [up2_oc e]
    have : (c == d && i == j) = false := by simp; intro z; exact absurd z.symm e
    rw [this]
    exact h d hd j
theorem gA_ne {g : Gm} {c a k n d b : Nat} (h : gA g d = b) (e : d ≠ c) : gA (gAdd g c a k n) d = b := by
  show va_up (gA g) c a d = b
  rw [va_up_ne _ _ e]; exact h
theorem gA_s {g : Gm} {c a k n : Nat} : gA (gAdd g c a k n) c = a := by
  show va_up (gA g) c a c = a
  rw [va_up_self]
