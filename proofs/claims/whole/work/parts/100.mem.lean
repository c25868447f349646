/-! THE MEMORY OF THE SYSTEM: components (numbers that I give to its objects and arrays), their addresses, kinds, lengths, references; and the whole numbers in them. -/
abbrev Gm : Type := List Nat × (Nat → Nat) × (Nat → Nat) × (Nat → Nat) × (Nat → Nat → Option Nat)
abbrev Mm : Type := Nat → Nat → Int32
abbrev Gx : Type := va_G × ClassId × ClassId × ClassId
abbrev gC (g : Gm) : List Nat := g.1
abbrev gA (g : Gm) : Nat → Nat := g.2.1
abbrev gK (g : Gm) : Nat → Nat := g.2.2.1
abbrev gL (g : Gm) : Nat → Nat := g.2.2.2.1
abbrev gR (g : Gm) : Nat → Nat → Option Nat := g.2.2.2.2
/-- how many fields an object of a kind has -/
def fN (k : Nat) : Nat := match k with
  | 0 => 5 | 1 => 2 | 2 => 2 | 3 => 5 | 4 => 4 | 5 => 5 | 6 => 3 | 7 => 6 | 8 => 1 | 9 => 11 | _ => 30
/-- which of them are references -/
def fR (k j : Nat) : Bool := match k with
  | 0 => j == 0 | 1 => j == 0 | 2 => j == 0 | 3 => j == 0 | 4 => decide (j < 3) | 5 => j == 0 | 6 => j == 0 | 7 => decide (j < 3) | 8 => false | 9 => decide (j < 8)
  | _ => (j == 4 || j == 5 || j == 6 || j == 10 || j == 11 || j == 12 || j == 18 || j == 19 || j == 20 || j == 22 || j == 23 || j == 24 || j == 25 || j == 26 || j == 27 || j == 28)
def fld (g : Gm) (I : Mm) (c k j : Nat) : Value := if fR k j = true then va_rf (gR g c j) else .int (I c j)
def flds (g : Gm) (I : Mm) (c k : Nat) : List Value := (List.range (fN k)).map (fld g I c k)
def en (x : Gx) (g : Gm) (I : Mm) (c : Nat) : va_E :=
  if gK g c < 11 then .inr (gK g c, flds g I c (gK g c))
  else if gK g c = 11 then .inl (x.2.1, gL g c, .inl (I c))
  else if gK g c = 12 then .inl (x.2.2.1, gL g c, .inr (.inr (.inr (.inr (gR g c)))))
  else .inl (x.2.2.2, gL g c, .inr (.inr (.inr (.inr (gR g c)))))
def wd (x : Gx) (g : Gm) (I : Mm) : va_W := (gC g).map (fun c => (gA g c, en x g I c))
def tyL (x : Gx) : List (ClassId × FieldType) := [(x.2.1, .int), (x.2.2.1, .object RX3), (x.2.2.2, .object RX6)]
/-- one number of one component is changed -/
def up2 (I : Mm) (c j : Nat) (v : Int32) : Mm := va_up I c (upd (I c) j v)
theorem en_o (x : Gx) {g : Gm} (I : Mm) {c k : Nat} (hk : gK g c = k) (h : k < 11) : en x g I c = .inr (k, flds g I c k) := by
  unfold en; rw [hk, if_pos h]
theorem en_i (x : Gx) {g : Gm} (I : Mm) {c : Nat} (hk : gK g c = 11) : en x g I c = .inl (x.2.1, gL g c, .inl (I c)) := by
  unfold en; rw [hk, if_neg (by decide), if_pos rfl]
theorem en_q (x : Gx) {g : Gm} (I : Mm) {c : Nat} (hk : gK g c = 12) : en x g I c = .inl (x.2.2.1, gL g c, .inr (.inr (.inr (.inr (gR g c))))) := by
  unfold en; rw [hk, if_neg (by decide), if_neg (by decide), if_pos rfl]
theorem en_s (x : Gx) {g : Gm} (I : Mm) {c : Nat} (hk : gK g c = 13) : en x g I c = .inl (x.2.2.2, gL g c, .inr (.inr (.inr (.inr (gR g c))))) := by
  unfold en; rw [hk, if_neg (by decide), if_neg (by decide), if_neg (by decide)]
theorem flds_at {g : Gm} {I : Mm} {c k j : Nat} (h : j < fN k) : (flds g I c k)[j]? = some (fld g I c k j) := by
  simp [flds, h]
theorem flds_len (g : Gm) (I : Mm) (c k : Nat) : (flds g I c k).length = fN k := by simp [flds]
theorem wd_at (x : Gx) {g : Gm} (I : Mm) {c : Nat} (h : c ∈ gC g) : ∃ k : Nat, (wd x g I)[k]? = some (gA g c, en x g I c) := by
  obtain ⟨k, hk⟩ := List.getElem?_of_mem h
  exact ⟨k, by simp only [wd, List.getElem?_map, hk, Option.map_some]⟩
theorem wd_set {x : Gx} {g g' : Gm} {I I' : Mm} {A : Nat → Prop} {c k : Nat} {e : va_E} (hD : va_D A (wd x g I)) (hc : c ∈ gC g) (hk : (wd x g I)[k]? = some (gA g c, en x g I c)) (h1 : gC g' = gC g) (h2 : gA g' = gA g) (h3 : ∀ d, d ≠ c → en x g' I' d = en x g I d) (h4 : en x g' I' c = e) : (wd x g I).set k (gA g c, e) = wd x g' I' := by
  have key : ∀ j d, (gC g)[j]? = some d → (d = c ↔ j = k) := by
    intro j d hj
    have hw : (wd x g I)[j]? = some (gA g d, en x g I d) := by simp only [wd, List.getElem?_map, hj, Option.map_some]
    constructor
    · intro e; subst e; exact hD.1 j k _ _ hw hk rfl
    · intro e; subst e
      obtain ⟨k2, hk2⟩ := List.getElem?_of_mem hc
      have hw2 : (wd x g I)[k2]? = some (gA g c, en x g I c) := by simp only [wd, List.getElem?_map, hk2, Option.map_some]
      have := hD.1 j k2 _ _ hk hw2 rfl
      subst this
      rw [hj] at hk2
      exact Option.some.inj hk2
  apply List.ext_getElem?
  intro j
  simp only [wd, h1, h2]
  rw [List.getElem?_set]
  simp only [List.getElem?_map, List.length_map]
  by_cases hjk : k = j
  · subst hjk
    rw [if_pos rfl]
    have hl : k < (gC g).length := by
      have := (List.getElem?_eq_some_iff.mp hk).1
      simpa [wd] using this
    rw [if_pos hl]
    obtain ⟨d, hd⟩ : ∃ d, (gC g)[k]? = some d := ⟨_, List.getElem?_eq_getElem hl⟩
    have hdc := (key k d hd).mpr rfl
    subst hdc
    rw [hd, Option.map_some, h4]
  · rw [if_neg hjk]
    cases hd : (gC g)[j]? with
    | none => rfl
    | some d =>
      have hdc : d ≠ c := fun e => hjk ((key j d hd).mp e).symm
      rw [Option.map_some, Option.map_some, h3 d hdc]
theorem en_up2 {x : Gx} {g : Gm} {I : Mm} {c j : Nat} {v : Int32} (d : Nat) (h : d ≠ c) : en x g (up2 I c j v) d = en x g I d := by
  have e : (up2 I c j v) d = I d := by simp [up2, va_up, h]
  simp only [en, flds, fld, e]
  have e2 : ∀ k, (fld g (up2 I c j v) d k) = (fld g I d k) := by intro k; funext q; simp only [fld, e]
  rw [e2]
theorem flds_up2 {g : Gm} {I : Mm} {c k j : Nat} {v : Int32} (h : fR k j = false) : (flds g I c k).set j (.int v) = flds g (up2 I c j v) c k := by
  apply List.ext_getElem?
  intro i
  rw [List.getElem?_set]
  simp only [flds, List.length_map, List.length_range, List.getElem?_map]
  by_cases hij : j = i
  · subst hij
    rw [if_pos rfl]
    by_cases hl : j < fN k
    · rw [if_pos hl, List.getElem?_range hl, Option.map_some]
      simp [fld, h, up2, va_up, upd]
    · rw [if_neg hl, List.getElem?_eq_none (by simp; omega)]
      rfl
  · rw [if_neg hij]
    have e : fld g (up2 I c j v) c k i = fld g I c k i := by
      have hji : ¬ i = j := fun q => hij q.symm
      simp [fld, up2, va_up, upd, hji]
    cases hr : (List.range (fN k))[i]? with
    | none => rfl
    | some q =>
      have hq : q = i := by
        have := List.getElem?_eq_some_iff.mp hr
        obtain ⟨h1, h2⟩ := this
        simpa using h2.symm
      subst hq
      simp only [Option.map_some, e]
/-- words that hold at the start, and don't warm: links across the nest, casts, arrays -/
def nwL : List (String × Nat × MethodName × String) := [(RX9, 19, yX7_init, RX9), (RX9, 35, yX2_init, RX9), (RX9, 42, yX1_init, RX9), (RX9, 49, yX4_init, RX9), (RX9, 56, yX8_init, RX9), (RX9, 61, yX6_init, RX9), (RX9, 252, yX0_init, RX9), (RX0, 3, yX3_init, RX9), (RX9, 255, yX5_init, RX9), (RX5, 3, yX0_init, RX9), (RX9, 256, yX3_init, RX9), (RX6, 26, yX9_isWithin, RX9), (RX7, 56, yX9_isWithin, RX9), (RX7, 60, yX9_isPage, RX9), (RX2, 25, yX9_isWithin, RX9)]
def EN (U : State) : Prop := (∀ q ∈ nwL, va_Nw (.methodLinkNest q.1 q.2.1 q.2.2.1 q.2.2.2) U) ∧ va_Nw (.castable RX0 RX3) U ∧ va_Nw (.castable RX5 RX3) U ∧ va_Nw (.castable RX5 RX0) U ∧ va_Nc RX3 RX0 U ∧ va_Nc RX3 RX5 U ∧ va_Nc RX0 RX5 U ∧ va_AO RX3 U ∧ va_AO RX6 U
theorem EN.warm {s U : State} (hW : s.WarmedH U.vm) (h : EN s) : EN U :=
  ⟨fun q hq => va_Nw.warmM hW (h.1 q hq), va_Nw.warmC hW h.2.1, va_Nw.warmC hW h.2.2.1, va_Nw.warmC hW h.2.2.2.1, va_Nc.moved hW.alike h.2.2.2.2.1, va_Nc.moved hW.alike h.2.2.2.2.2.1, va_Nc.moved hW.alike h.2.2.2.2.2.2.1, va_AO.moved hW.alike h.2.2.2.2.2.2.2.1, va_AO.moved hW.alike h.2.2.2.2.2.2.2.2⟩
theorem EN.calling {U : State} {g : JFrame} {mk : MethodId} {a : Array Value} (h : EN U) : EN (U.calling g mk a) := EN.warm (s := U) (State.WarmedH.refl U) h
/-- a world at a state -/
def WD (x : Gx) (g : Gm) (I : Mm) (sz : Nat) (U : State) : Prop := U.heap.size = sz ∧ va_P x.1 vwCl (wd x g I) U.heap ∧ va_K x.1 vwCl (tyL x) U ∧ va_D (fun _ => True) (wd x g I) ∧ EN U
theorem WD.blind (x : Gx) (g : Gm) (I : Mm) (sz : Nat) (av : List Value) : FrameBlind (va_Pc av (WD x g I sz)) := by
  intro a U gf mk h
  obtain ⟨h0, h1, h2, h3, h4, h5⟩ := h
  exact ⟨h0, h1, h2, va_K.moved (u := U) (U := U.calling gf mk a) (Vm.Alike.refl U.vm) h3, h4, EN.calling h5⟩
/-- the world behind a method -/
def WB (x : Gx) (A : Nat → Prop) (u : Gm × Mm) (t : State) : Prop := va_P x.1 vwCl (wd x u.1 u.2) t.heap ∧ va_D A (wd x u.1 u.2)
/-- CONTRACTS: at any size of the heap, from the world of g and I, with the arguments av -/
def KI (l : Launch) (x : Gx) (y : MethodName) (ws : List Cond) (rm : Room) (g : Gm) (I : Mm) (av : List Value) (Post : Int32 → Gm × Mm → Prop) : Prop := ∀ sz, Met l y ws rm (va_Pc av (WD x g I sz)) (va_Qi Post (WB x (va_A (wd x g I) sz)) (va_A (wd x g I) sz)) rm.cells rm.slots (va_A (wd x g I) sz)
def KL (l : Launch) (x : Gx) (y : MethodName) (ws : List Cond) (rm : Room) (g : Gm) (I : Mm) (av : List Value) (Post : Int64 → Gm × Mm → Prop) : Prop := ∀ sz, Met l y ws rm (va_Pc av (WD x g I sz)) (va_Ql Post (WB x (va_A (wd x g I) sz)) (va_A (wd x g I) sz)) rm.cells rm.slots (va_A (wd x g I) sz)
def KV (l : Launch) (x : Gx) (y : MethodName) (ws : List Cond) (rm : Room) (g : Gm) (I : Mm) (av : List Value) (Post : Gm × Mm → Prop) : Prop := ∀ sz, Met l y ws rm (va_Pc av (WD x g I sz)) (va_Qv Post (WB x (va_A (wd x g I) sz)) (va_A (wd x g I) sz)) rm.cells rm.slots (va_A (wd x g I) sz)
def KR (l : Launch) (x : Gx) (y : MethodName) (ws : List Cond) (rm : Room) (g : Gm) (I : Mm) (av : List Value) (Post : Nat → Gm × Mm → Prop) : Prop := ∀ sz, Met l y ws rm (va_Pc av (WD x g I sz)) (va_Qr (S := Nat × Gm × Mm) (fun u => Post u.1 u.2) (fun u a t => a = u.1 ∧ WB x (va_A (wd x g I) sz) u.2 t) (va_A (wd x g I) sz)) rm.cells rm.slots (va_A (wd x g I) sz)
/-- a frame's surroundings -/
abbrev Fx : Type := Program × Launch × Env × Room × State × MethodId × Array Value × List Frame × Method × Code × Nat × (Nat → Prop) × Gx × (State → Prop)
abbrev f_p (f : Fx) : Program := f.1
abbrev f_l (f : Fx) : Launch := f.2.1
abbrev f_e (f : Fx) : Env := f.2.2.1
abbrev f_R (f : Fx) : Room := f.2.2.2.1
abbrev f_s (f : Fx) : State := f.2.2.2.2.1
abbrev f_m (f : Fx) : MethodId := f.2.2.2.2.2.1
abbrev f_a (f : Fx) : Array Value := f.2.2.2.2.2.2.1
abbrev f_b (f : Fx) : List Frame := f.2.2.2.2.2.2.2.1
abbrev f_M (f : Fx) : Method := f.2.2.2.2.2.2.2.2.1
abbrev f_c (f : Fx) : Code := f.2.2.2.2.2.2.2.2.2.1
abbrev f_n (f : Fx) : Nat := f.2.2.2.2.2.2.2.2.2.2.1
abbrev f_A (f : Fx) : Nat → Prop := f.2.2.2.2.2.2.2.2.2.2.2.1
abbrev f_x (f : Fx) : Gx := f.2.2.2.2.2.2.2.2.2.2.2.2.1
abbrev f_Q (f : Fx) : State → Prop := f.2.2.2.2.2.2.2.2.2.2.2.2.2
abbrev FW (f : Fx) (H : Heap) (locs : List Loc) (cells slots : Nat) (F : JFrame) : Prop := W (f_p f) (f_l f) (f_e f) (f_R f) (f_s f) (f_m f) (f_a f) (f_b f) (f_M f) (f_c f) H locs cells slots (f_Q f) F
/-- what is known of a frame: its code cc of nL locals in the class own, its words Ts, its room rm -/
def Cx (f : Fx) (cc : ByteArray) (nL : Nat) (own : String) (Ts : List Cond) (rm : Room) : Prop :=
  CallFix (f_p f) (f_m f) (f_c f) cc nL (f_s f) (f_a f) Ts own ∧ va_K (f_x f).1 vwCl (tyL (f_x f)) (f_s f) ∧ (∀ q : Nat, (f_s f).heap.size ≤ q → f_A f q) ∧ EN (f_s f) ∧ f_R f = rm ∧ f_n f = nL
/-- the machine at pc, with the locals lv, the operands st, the memory g and I, comes to f's end -/
def PW (f : Fx) (cells slots : Nat) (g : Gm) (I : Mm) (pc : Nat) (lv : List (Nat × Value)) (st : List Value) : Prop :=
  ∀ (H : Heap) (locs : List Loc) (ls : Array Slot), va_P (f_x f).1 vwCl (wd (f_x f) g I) H → va_D (f_A f) (wd (f_x f) g I) → va_S (f_A f) (f_s f).heap H locs → lv_has ls (f_n f) lv → FW f H locs cells slots (F0 (f_m f) pc ls st)
