/-! NEW OBJECTS AND ARRAYS -/
def gAdd (g : Gm) (c a k n : Nat) : Gm := (gC g ++ [c], va_up (gA g) c a, va_up (gK g) c k, va_up (gL g) c n, va_up (gR g) c (fun _ => none))
def gPut (g : Gm) (c j a : Nat) : Gm := (gC g, gA g, gK g, gL g, va_up (gR g) c (va_up (gR g c) j (some a)))
def iAdd (I : Mm) (c : Nat) : Mm := va_up I c (fun _ => 0)
def gDrop (g : Gm) (L : List Nat) : Gm := (L, g.2)
theorem en_cong {x : Gx} {g g' : Gm} {I I' : Mm} {d : Nat} (h1 : gK g' d = gK g d) (h2 : gL g' d = gL g d) (h3 : gR g' d = gR g d) (h4 : I' d = I d) : en x g' I' d = en x g I d := by
  have e2 : ∀ k, (fld g' I' d k) = (fld g I d k) := by intro k; funext q; simp only [fld, h3, h4]
  unfold en flds
  rw [h1, h2, h3, h4, e2]
theorem en_add {x : Gx} {g : Gm} {I : Mm} {c a k n d : Nat} (h : d ≠ c) : en x (gAdd g c a k n) (iAdd I c) d = en x g I d :=
  en_cong (va_up_ne _ _ h) (va_up_ne _ _ h) (va_up_ne _ _ h) (va_up_ne _ _ h)
theorem wd_add {x : Gx} {g : Gm} {I : Mm} {c a k n : Nat} (hc : c ∉ gC g) : wd x (gAdd g c a k n) (iAdd I c) = wd x g I ++ [(a, en x (gAdd g c a k n) (iAdd I c) c)] := by
  unfold wd
  show ((gC g ++ [c]).map _) = _
  rw [List.map_append]
  congr 1
  · apply List.map_congr_left
    intro d hd
    have hne : d ≠ c := fun e => hc (e ▸ hd)
    show (va_up (gA g) c a d, _) = _
    rw [va_up_ne _ _ hne, en_add hne]
  · show [(va_up (gA g) c a c, _)] = _
    rw [va_up_self]
/-- a world of fewer components -/
theorem wd_sub {x : Gx} {g : Gm} {I : Mm} {L : List Nat} (hL : ∀ c ∈ L, c ∈ gC g) {H : Heap} (hP : va_P x.1 vwCl (wd x g I) H) : va_P x.1 vwCl (wd x (gDrop g L) I) H := by
  intro k q hk
  have hm := List.mem_of_getElem? hk
  unfold wd at hm
  obtain ⟨c, hc, e⟩ := List.mem_map.mp hm
  have hc' : c ∈ gC g := hL c hc
  obtain ⟨k2, hk2⟩ := wd_at x I hc'
  have : q = (gA g c, en x g I c) := e.symm
  rw [this]
  exact hP k2 _ hk2
theorem nodup_of {x : Gx} {g : Gm} {I : Mm} {A : Nat → Prop} (hD : va_D A (wd x g I)) {c d : Nat} (hc : c ∈ gC g) (hd : d ∈ gC g) (h : gA g c = gA g d) : c = d := by
  obtain ⟨k1, h1⟩ := List.getElem?_of_mem hc
  obtain ⟨k2, h2⟩ := List.getElem?_of_mem hd
  have w1 : (wd x g I)[k1]? = some (gA g c, en x g I c) := by simp only [wd, List.getElem?_map, h1, Option.map_some]
  have w2 : (wd x g I)[k2]? = some (gA g d, en x g I d) := by simp only [wd, List.getElem?_map, h2, Option.map_some]
  have := hD.1 k1 k2 _ _ w1 w2 h
  subst this
  rw [h1] at h2
  exact Option.some.inj h2
theorem wd_subD {x : Gx} {g : Gm} {I : Mm} {L : List Nat} {A : Nat → Prop} (hL : ∀ c ∈ L, c ∈ gC g) (hN : L.Nodup) (hD : va_D A (wd x g I)) : va_D A (wd x (gDrop g L) I) := by
  constructor
  · intro i j p q hi hj e
    have li : ∃ c, L[i]? = some c ∧ p = (gA g c, en x g I c) := by
      simp only [wd, List.getElem?_map] at hi
      obtain ⟨c, hc, e⟩ := Option.map_eq_some_iff.mp hi
      exact ⟨c, hc, e.symm⟩
    have lj : ∃ c, L[j]? = some c ∧ q = (gA g c, en x g I c) := by
      simp only [wd, List.getElem?_map] at hj
      obtain ⟨c, hc, e⟩ := Option.map_eq_some_iff.mp hj
      exact ⟨c, hc, e.symm⟩
    obtain ⟨c, hc, e1⟩ := li
    obtain ⟨d, hd, e2⟩ := lj
    rw [e1, e2] at e
    have hcd := nodup_of hD (hL c (List.mem_of_getElem? hc)) (hL d (List.mem_of_getElem? hd)) e
    subst hcd
    obtain ⟨b1, c1⟩ := List.getElem?_eq_some_iff.mp hc
    obtain ⟨b2, c2⟩ := List.getElem?_eq_some_iff.mp hd
    exact (List.getElem_inj hN).mp (c1.trans c2.symm)
  · intro k q hk
    have hm := List.mem_of_getElem? hk
    unfold wd at hm
    obtain ⟨c, hc, e⟩ := List.mem_map.mp hm
    obtain ⟨k2, hk2⟩ := wd_at x I (hL c hc)
    rw [← e]
    exact hD.2 k2 _ hk2
def rfT : FieldType → Bool
  | .object _ => true
  | .array _ => true
  | _ => false
theorem flds_new {g : Gm} {I : Mm} {c a k n j : Nat} {ty : Nat → FieldType} (hj : j < fN k) (ht : (if fR k j = true then rfT (ty j) = true else ty j = .int)) : defaultValue (ty j) = vp_V (flds (gAdd g c a k n) (iAdd I c) c k) j := by
  unfold vp_V
  rw [List.getD_eq_getElem?_getD, flds_at hj]
  show _ = fld (gAdd g c a k n) (iAdd I c) c k j
  unfold fld
  by_cases h : fR k j = true
  · rw [if_pos h] at ht
    rw [if_pos h]
    show _ = va_rf (va_up (gR g) c (fun _ => none) c j)
    rw [va_up_self]
    cases hty : ty j <;> rw [hty] at ht <;> first | rfl | exact absurd ht (by decide)
  · rw [if_neg h] at ht
    rw [if_neg h, ht]
    show _ = Value.int (va_up I c (fun _ => 0) c j)
    rw [va_up_self]; rfl
theorem flds_put {g : Gm} {I : Mm} {c k j a : Nat} (h : fR k j = true) : (flds g I c k).set j (.ref a) = flds (gPut g c j a) I c k := by
  apply List.ext_getElem?
  intro i
  rw [List.getElem?_set]
  simp only [flds, List.length_map, List.length_range, List.getElem?_map]
  by_cases hij : j = i
  · subst hij
    rw [if_pos rfl]
    by_cases hl : j < fN k
    · rw [if_pos hl, List.getElem?_range hl, Option.map_some]
      show some (Value.ref a) = some (fld (gPut g c j a) I c k j)
      have e1 : gR (gPut g c j a) c j = some a := by
        show va_up (gR g) c (va_up (gR g c) j (some a)) c j = some a
        rw [va_up_self, va_up_self]
      unfold fld
      rw [if_pos h, e1]; rfl
    · rw [if_neg hl, List.getElem?_eq_none (by simp; omega)]
      rfl
  · rw [if_neg hij]
    have e : fld (gPut g c j a) I c k i = fld g I c k i := by
      have hji : ¬ i = j := fun q => hij q.symm
      have e1 : gR (gPut g c j a) c i = gR g c i := by
        show va_up (gR g) c (va_up (gR g c) j (some a)) c i = _
        rw [va_up_self, va_up_ne _ _ hji]
      unfold fld
      rw [e1]
    cases hr : (List.range (fN k))[i]? with
    | none => rfl
    | some q =>
      have hq : q = i := by
        obtain ⟨h1, h2⟩ := List.getElem?_eq_some_iff.mp hr
        simpa using h2.symm
      subst hq
      simp only [Option.map_some, e]
theorem en_put {x : Gx} {g : Gm} {I : Mm} {c j a d : Nat} (h : d ≠ c) : en x (gPut g c j a) I d = en x g I d := en_cong rfl rfl (va_up_ne _ _ h) rfl
section ALC
variable {f : Fx} {cc : ByteArray} {nL : Nat} {own : String} {Ts : List Cond} {rm : Room} {cells slots : Nat} {g : Gm} {I : Mm} {pc q : Nat} {lv : List (Nat × Value)} {st st0 : List Value} {rmc : Room}
theorem n_new (hC : Cx f cc nL own Ts rm) {k N index : Nat} {C : String} {T : u_T} {ty : Nat → FieldType} (c : Nat) (hd : decode cc pc = .ok (.new index, 3)) (hq : pc + 3 = q) (hc : c ∉ gC g) (hcl : vwCl[k]? = some (C, T, N)) (hk9 : k < 11) (hN : fN k = N) (hu : ∀ w ∈ u_ws C T N, w ∈ Ts) (hty : ∀ j, j < N → parseFieldDescriptor (T j).2.2.1 = some (ty j)) (hdf : ∀ j, j < N → (if fR k j = true then rfT (ty j) = true else ty j = .int)) (w1 : Cond.classLink own index C ∈ Ts) (w2 : Cond.instantiable C N ∈ Ts) (w3 : Cond.initialized C ∈ Ts) (h1 : cells + 1 ≤ rm.cells) (h2 : slots + N ≤ rm.slots) (kk : ∀ a, PW f (cells + 1) (slots + N) (gAdd g c a k 0) (iAdd I c) q lv (.ref a :: st)) : PW f cells slots g I pc lv st := by
  subst hq
  intro H locs ls hP hD hS hl
  refine va_new hC.1.1 hC.1.2.1 hC.1.2.2.2.2 hu ty hty hC.1.2.2.2.1 (hC.1.2.2.2.2 _ w1) (hC.1.2.2.2.2 _ w2) (hC.1.2.2.2.2 _ w3) hC.2.1 hP hD hS hC.2.2.1 hcl (fs := flds (gAdd g c 0 k 0) (iAdd I c) c k) (fun j hj => flds_new (by rw [hN]; exact hj) (hdf j hj)) (by rw [hC.2.2.2.2.1]; exact h1) (by rw [hC.2.2.2.2.1]; exact h2) hd (fun a H1 hP1 hD1 hS1 => ?_)
  have e : en (f_x f) (gAdd g c a k 0) (iAdd I c) c = .inr (k, flds (gAdd g c 0 k 0) (iAdd I c) c k) := by
    rw [en_o (f_x f) (iAdd I c) (show gK (gAdd g c a k 0) c = k from va_up_self _ _ _) hk9]
    rfl
  have ew := wd_add (x := f_x f) (I := I) (a := a) (k := k) (n := 0) hc
  rw [e] at ew
  rw [← ew] at hP1 hD1
  exact kk a H1 locs ls hP1 hD1 hS1 hl
theorem n_newa (hC : Cx f cc nL own Ts rm) {n : Int32} {N : Nat} (c : Nat) (hd : decode cc pc = .ok (.newarray .int, 2)) (hq : pc + 2 = q) (hc : c ∉ gC g) (w1 : Cond.arrayClass .int ∈ Ts) (hn : ¬ n < 0) (hN : n.toNatClampNeg = N) (hb : N * 4 ≤ 536870912) (h1 : cells + 1 ≤ rm.cells) (h2 : slots + N ≤ rm.slots) (kk : ∀ a, PW f (cells + 1) (slots + N) (gAdd g c a 11 N) (iAdd I c) q lv (.ref a :: st)) : PW f cells slots g I pc lv (.int n :: st) := by
  subst hq
  intro H locs ls hP hD hS hl
  refine va_newa (atype := .int) hC.1.1 hC.1.2.1 (hC.1.2.2.2.2 _ w1) (ty := .int) rfl hC.2.1 hP hD hS hC.2.2.1 (a0 := (N, .inl (fun _ => 0))) (fun cA => rfl) hn hN hb (by rw [hC.2.2.2.2.1]; exact h1) (by rw [hC.2.2.2.2.1]; exact h2) hd (fun a cA H1 hK1 hP1 hD1 hS1 => ?_)
  have ra : va_RA (f_s f) cA .int := (hK1.2 3 (cA, .int) rfl).2
  have rb : va_RA (f_s f) (f_x f).2.1 .int := (hC.2.1.2 0 ((f_x f).2.1, .int) rfl).2
  have ec : cA = (f_x f).2.1 := by
    have ra' : (f_s f).vm.findClass ("[" ++ FieldType.int.toString) = some cA := ra
    have rb' : (f_s f).vm.findClass ("[" ++ FieldType.int.toString) = some (f_x f).2.1 := rb
    exact Option.some.inj (ra'.symm.trans rb')
  subst ec
  have e : en (f_x f) (gAdd g c a 11 N) (iAdd I c) c = .inl ((f_x f).2.1, N, .inl (fun _ => 0)) := by
    rw [en_i (f_x f) (iAdd I c) (show gK (gAdd g c a 11 N) c = 11 from va_up_self _ _ _)]
    rw [show gL (gAdd g c a 11 N) c = N from va_up_self _ _ _, show iAdd I c c = fun _ => 0 from va_up_self _ _ _]
  have ew := wd_add (x := f_x f) (I := I) (a := a) (k := 11) (n := N) hc
  rw [e] at ew
  rw [← ew] at hP1 hD1
  exact kk a H1 locs ls hP1 hD1 hS1 hl
theorem n_newq (hC : Cx f cc nL own Ts rm) {n : Int32} {N k index : Nat} {C : String} (c : Nat) (hd : decode cc pc = .ok (.anewarray index, 3)) (hq : pc + 3 = q) (hc : c ∉ gC g) (hk : (k = 12 ∧ C = RX3) ∨ (k = 13 ∧ C = RX6)) (w1 : Cond.classLink own index C ∈ Ts) (hn : ¬ n < 0) (hN : n.toNatClampNeg = N) (hb : N * 4 ≤ 536870912) (h1 : cells + 1 ≤ rm.cells) (h2 : slots + N ≤ rm.slots) (kk : ∀ a, PW f (cells + 1) (slots + N) (gAdd g c a k N) (iAdd I c) q lv (.ref a :: st)) : PW f cells slots g I pc lv (.int n :: st) := by
  subst hq
  intro H locs ls hP hD hS hl
  have hov : va_AO C (f_s f) := by
    rcases hk with ⟨-, rfl⟩ | ⟨-, rfl⟩
    · exact hC.2.2.2.1.2.2.2.2.2.2.2.1
    · exact hC.2.2.2.1.2.2.2.2.2.2.2.2
  refine va_newq hC.1.1 hC.1.2.1 hC.1.2.2.2.1 (hC.1.2.2.2.2 _ w1) hov hC.2.1 hP hD hS hC.2.2.1 hn hN hb (by rw [hC.2.2.2.2.1]; exact h1) (by rw [hC.2.2.2.2.1]; exact h2) hd (fun a cA H1 hK1 hP1 hD1 hS1 => ?_)
  have ra : va_RA (f_s f) cA (.object C) := (hK1.2 3 (cA, .object C) rfl).2
  obtain ⟨-, -, -, -, -, ra⟩ := ra
  have e : en (f_x f) (gAdd g c a k N) (iAdd I c) c = .inl (cA, N, .inr (.inr (.inr (.inr (fun _ => none))))) := by
    rcases hk with ⟨rfl, rfl⟩ | ⟨rfl, rfl⟩
    · have rb : va_RA (f_s f) (f_x f).2.2.1 (.object RX3) := (hC.2.1.2 1 ((f_x f).2.2.1, .object RX3) rfl).2
      obtain ⟨-, -, -, -, -, rb⟩ := rb
      have ec : cA = (f_x f).2.2.1 := Option.some.inj (ra.symm.trans rb)
      subst ec
      rw [en_q (f_x f) (iAdd I c) (show gK (gAdd g c a 12 N) c = 12 from va_up_self _ _ _)]
      rw [show gL (gAdd g c a 12 N) c = N from va_up_self _ _ _, show gR (gAdd g c a 12 N) c = fun _ => none from va_up_self _ _ _]
    · have rb : va_RA (f_s f) (f_x f).2.2.2 (.object RX6) := (hC.2.1.2 2 ((f_x f).2.2.2, .object RX6) rfl).2
      obtain ⟨-, -, -, -, -, rb⟩ := rb
      have ec : cA = (f_x f).2.2.2 := Option.some.inj (ra.symm.trans rb)
      subst ec
      rw [en_s (f_x f) (iAdd I c) (show gK (gAdd g c a 13 N) c = 13 from va_up_self _ _ _)]
      rw [show gL (gAdd g c a 13 N) c = N from va_up_self _ _ _, show gR (gAdd g c a 13 N) c = fun _ => none from va_up_self _ _ _]
  have ew := wd_add (x := f_x f) (I := I) (a := a) (k := k) (n := N) hc
  rw [e] at ew
  rw [← ew] at hP1 hD1
  exact kk a H1 locs ls hP1 hD1 hS1 hl
/-- a final field of a reference, in a constructor -/
theorem n_putR (hC : Cx f cc nL own Ts rm) (hin : (f_M f).name = "<init>") {k N i index a : Nat} {C : String} {T : u_T} {ty0 : Nat → FieldType} {c : Nat} (hd : decode cc pc = .ok (.putfield index, 3)) (hq : pc + 3 = q) (hc : c ∈ gC g) (hk : gK g c = k) (hF : FF Ts own index k i) (hfR : fR k i = true) (hcl : vwCl[k]? = some (C, T, N)) (hty : ∀ j, j < N → parseFieldDescriptor (T j).2.2.1 = some (ty0 j)) (hnm : ∀ a, a < N → ∀ b, b < N → a ≠ b → (T a).2.1 ≠ (T b).2.1) (hfin : (T i).2.2.2 = true) (hdecl : (T i).1 = own) (hrf : rfT (ty0 i) = true) (hi : i < N) (kk : PW f cells slots (gPut g c i a) I q lv st) : PW f cells slots g I pc lv (.ref a :: .ref (gA g c) :: st) := by
  subst hq
  intro H locs ls hP hD hS hl
  obtain ⟨C', T', N', ref, h1, h2, h3, h4, h5, h6, h7⟩ := hF
  cases h1.symm.trans hcl
  obtain ⟨p0, hp⟩ := wd_at (f_x f) I hc
  have hp0 := hp
  rw [en_o (f_x f) I hk h3] at hp
  have hnr : narrow (ty0 i) (.ref a) = .ref a ∧ fits (ty0 i) (.ref a) = true := by
    cases ht : ty0 i <;> rw [ht] at hrf <;> first | exact ⟨rfl, rfl⟩ | exact absurd hrf (by decide)
  refine va_putF hC.1.1 hC.1.2.1 hC.1.2.2.2.2 h5 ty0 hty hnm hC.1.2.2.2.1 hC.2.1 hP hD hS p0 hp h1 i h4 (hC.1.2.2.2.2 _ h6) (fun z hz => ?_) hfin hin hdecl (hty i hi) (v := .ref a) hnr.1 hnr.2 (by rw [flds_len, h2]; exact h4) hd (fun H1 locs1 hP1 hD1 hS1 => ?_)
  · rcases h7 with h7 | h7
    · rw [← h7]; exact hz
    · exact u_same (hC.1.2.2.2.2 _ h7) z hz
  · have he := wd_set (g' := gPut g c i a) (I' := I) hD hc hp0 rfl rfl (fun d hd => en_put hd) (en_o (f_x f) _ hk h3)
    rw [flds_put hfR, he] at hP1 hD1
    exact kk H1 locs1 ls hP1 hD1 hS1 hl
/-- a row of desks or sheets takes one -/
theorem n_aast (hC : Cx f cc nL own Ts rm) {c v : Nat} {i : Int32} (hd : decode cc pc = .ok (.aastore, 1)) (hq : pc + 1 = q) (hc : c ∈ gC g) (hv : v ∈ gC g) (hk : (gK g c = 12 ∧ (gK g v = 0 ∨ gK g v = 3 ∨ gK g v = 5)) ∨ (gK g c = 13 ∧ gK g v = 6)) (hi : vp_in i (gL g c)) (kk : PW f cells slots (gPut g c i.toNatClampNeg (gA g v)) I q lv st) : PW f cells slots g I pc lv (.ref (gA g v) :: .int i :: .ref (gA g c) :: st) := by
  subst hq
  intro H locs ls hP hD hS hl
  obtain ⟨p0, hp⟩ := wd_at (f_x f) I hc
  obtain ⟨p1, hp1⟩ := wd_at (f_x f) I hv
  have hp0 := hp
  rcases hk with ⟨h12, hkv⟩ | ⟨h13, hkv⟩
  · have fin : ∀ (H1 : Heap) (locs1 : List Loc), va_P (f_x f).1 vwCl ((wd (f_x f) g I).set p0 (gA g c, .inl ((f_x f).2.2.1, gL g c, .inr (.inr (.inr (.inr (va_up (gR g c) i.toNatClampNeg (some (gA g v))))))))) H1 → va_D (f_A f) ((wd (f_x f) g I).set p0 (gA g c, .inl ((f_x f).2.2.1, gL g c, .inr (.inr (.inr (.inr (va_up (gR g c) i.toNatClampNeg (some (gA g v))))))))) → va_S (f_A f) (f_s f).heap H1 locs1 → FW f H1 locs1 cells slots (F0 (f_m f) (pc + 1) ls st) := by
      intro H1 locs1 hP1 hD1 hS1
      have he := wd_set (g' := gPut g c i.toNatClampNeg (gA g v)) (I' := I) hD hc hp0 rfl rfl (fun d hd => en_put hd) (e := .inl ((f_x f).2.2.1, gL g c, .inr (.inr (.inr (.inr (va_up (gR g c) i.toNatClampNeg (some (gA g v)))))))) (by
        rw [en_q (f_x f) I (show gK (gPut g c i.toNatClampNeg (gA g v)) c = 12 from h12)]
        show Sum.inl (_, gL g c, _) = _
        rw [show gR (gPut g c i.toNatClampNeg (gA g v)) c = va_up (gR g c) i.toNatClampNeg (some (gA g v)) from va_up_self _ _ _])
      rw [he] at hP1 hD1
      exact kk H1 locs1 ls hP1 hD1 hS1 hl
    rw [en_q (f_x f) I h12] at hp
    rcases hkv with h0 | h3 | h5
    · rw [en_o (f_x f) I h0 (by decide)] at hp1
      exact va_astqO hC.1.1 hC.1.2.1 hC.2.1 hP hD hS p0 1 p1 0 hp (E := RX3) rfl (r := (RX0, TX0, 5)) hC.2.2.2.1.2.1 hp1 rfl hi hd fin
    · rw [en_o (f_x f) I h3 (by decide)] at hp1
      exact va_astq hC.1.1 hC.1.2.1 hC.2.1 hP hD hS p0 1 p1 3 hp (r := (RX3, TX3, 5)) rfl hp1 rfl hi hd fin
    · rw [en_o (f_x f) I h5 (by decide)] at hp1
      exact va_astqO hC.1.1 hC.1.2.1 hC.2.1 hP hD hS p0 1 p1 5 hp (E := RX3) rfl (r := (RX5, TX5, 5)) hC.2.2.2.1.2.2.1 hp1 rfl hi hd fin
  · rw [en_s (f_x f) I h13] at hp
    rw [en_o (f_x f) I hkv (by decide)] at hp1
    refine va_astq hC.1.1 hC.1.2.1 hC.2.1 hP hD hS p0 2 p1 6 hp (r := (RX6, TX6, 3)) rfl hp1 rfl hi hd (fun H1 locs1 hP1 hD1 hS1 => ?_)
    have he := wd_set (g' := gPut g c i.toNatClampNeg (gA g v)) (I' := I) hD hc hp0 rfl rfl (fun d hd => en_put hd) (e := .inl ((f_x f).2.2.2, gL g c, .inr (.inr (.inr (.inr (va_up (gR g c) i.toNatClampNeg (some (gA g v)))))))) (by
      rw [en_s (f_x f) I (show gK (gPut g c i.toNatClampNeg (gA g v)) c = 13 from h13)]
      show Sum.inl (_, gL g c, _) = _
      rw [show gR (gPut g c i.toNatClampNeg (gA g v)) c = va_up (gR g c) i.toNatClampNeg (some (gA g v)) from va_up_self _ _ _])
    rw [he] at hP1 hD1
    exact kk H1 locs1 ls hP1 hD1 hS1 hl
theorem n_obj (hC : Cx f cc nL own Ts rm) {index a : Nat} (hd : decode cc pc = .ok (.invokespecial index, 3)) (hq : pc + 3 = q) (w1 : Cond.methodLink own index Lib.objectInit ∈ Ts) (w2 : Cond.instanceMethod Lib.objectInit ∈ Ts) (w3 : Cond.code Lib.objectInit ⟨#[0xb1]⟩ 1 none ∈ Ts) (hfr : 1 ≤ rm.frames) (hlo : (st.map fun v => v.category).sum + 12 ≤ rm.locals) (kk : PW f cells slots g I q lv st) : PW f cells slots g I pc lv (.ref a :: st) := by
  subst hq
  intro H locs ls hP hD hS hl
  exact W.objInit hC.1.1 hC.1.2.1 hC.1.2.2.2.1 (hC.1.2.2.2.2 _ w1) (hC.1.2.2.2.2 _ w2) (hC.1.2.2.2.2 _ w3) (g := F0 (f_m f) pc ls (.ref a :: st)) rfl (by rw [hC.1.2.2.1, ← hC.2.2.2.2.2]; exact hl.1) rfl hd (by rw [hC.2.2.2.2.1]; exact hfr) (by rw [hC.2.2.2.2.1]; exact (by show 2 * 0 + _ + 12 ≤ _; omega)) (kk H locs ls hP hD hS hl)
/-- some components are known no longer -/
theorem n_drop {L : List Nat} (hL : ∀ c ∈ L, c ∈ gC g) (hN : L.Nodup) (kk : PW f cells slots (gDrop g L) I pc lv st) : PW f cells slots g I pc lv st := by
  intro H locs ls hP hD hS hl
  exact kk H locs ls (wd_sub hL hP) (wd_subD hL hN hD) hS hl
variable {y : MethodName} {ws : List Cond} {bytes : ByteArray} {maxL n index : Nat} {As : List Value} {Qc : Nat → Array Value → State → Outcome → State → Prop}
/-- a constructor of the nest -/
theorem n_IN (hC : Cx f cc nL own Ts rm) {host : String} {b : Nat} (hM : ∀ sz, Met (f_l f) y ws rmc (va_Pc (.ref b :: As) (WD (f_x f) g I sz)) (Qc sz) rmc.cells rmc.slots (va_A (wd (f_x f) g I) sz)) (hI : CI y ws bytes maxL none n) (hG : GoodIn Ts ws) (hl1 : (own, index, y, host) ∈ nwL) (w1 : Cond.initialized y.cls ∈ Ts) (w2 : Cond.instanceMethod y ∈ Ts) (hy1 : y.name = "<init>") (hR : rmc.frames + 1 ≤ rm.frames ∧ 8 + (maxL + 11) + rmc.locals ≤ rm.locals) (hf : cells + rmc.cells ≤ rm.cells ∧ slots + rmc.slots ≤ rm.slots) (hn : As.length = n) (hst : st0 = As.reverse ++ .ref b :: st) (hW : (st.map fun v => v.category).sum ≤ 8) (hd : decode cc pc = .ok (.invokespecial index, 3)) : RN f cells slots g I pc lv st0 st rmc (fun sz => Qc sz (Value.ref b :: As).toArray) := by
  obtain ⟨⟨ws', hw⟩, h1, h2, h3⟩ := hI
  intro H locs ls hP hD hS hl
  exact va_runIN (As := As) (rest := st) hC.1 (hM H.size) ⟨va_cnB n hC.1.2.2.2.2 hG hw rfl rfl (hC.2.2.2.1.1 _ hl1) (hC.1.2.2.2.2 _ w1) ⟨h1, h2, h3⟩ (by rw [hC.2.2.2.2.1]; exact hR), hy1, hC.1.2.2.2.2 _ w2⟩ (pre_ok hC hP hD (.ref b :: As)) rfl hn (hl.1.trans hC.2.2.2.2.2) hst (lv_room hW) hd (by rw [hC.2.2.2.2.1]; exact hf)
/-- a constructor by its own link -/
theorem n_I (hC : Cx f cc nL own Ts rm) {b : Nat} (hM : ∀ sz, Met (f_l f) y ws rmc (va_Pc (.ref b :: As) (WD (f_x f) g I sz)) (Qc sz) rmc.cells rmc.slots (va_A (wd (f_x f) g I) sz)) (hI : CI y ws bytes maxL none n) (hG : GoodIn Ts ws) (w0 : Cond.methodLink own index y ∈ Ts) (w1 : Cond.initialized y.cls ∈ Ts) (w2 : Cond.instanceMethod y ∈ Ts) (hy1 : y.name = "<init>") (hR : rmc.frames + 1 ≤ rm.frames ∧ 8 + (maxL + 11) + rmc.locals ≤ rm.locals) (hf : cells + rmc.cells ≤ rm.cells ∧ slots + rmc.slots ≤ rm.slots) (hn : As.length = n) (hst : st0 = As.reverse ++ .ref b :: st) (hW : (st.map fun v => v.category).sum ≤ 8) (hd : decode cc pc = .ok (.invokespecial index, 3)) : RN f cells slots g I pc lv st0 st rmc (fun sz => Qc sz (Value.ref b :: As).toArray) := by
  obtain ⟨⟨ws', hw⟩, h1, h2, h3⟩ := hI
  intro H locs ls hP hD hS hl
  exact va_runI (As := As) (rest := st) hC.1 (hM H.size) (cwI n hC.1.2.2.2.2 hG hw rfl rfl (hC.1.2.2.2.2 _ w1) (hC.1.2.2.2.2 _ w0) (hC.1.2.2.2.2 _ w2) hy1 ⟨h1, h2, h3⟩ (by rw [hC.2.2.2.2.1]; exact hR)) (pre_ok hC hP hD (.ref b :: As)) rfl hn (hl.1.trans hC.2.2.2.2.2) hst (lv_room hW) hd (by rw [hC.2.2.2.2.1]; exact hf)
end ALC
section ALM
variable {l : Launch} {x : Gx} {y : MethodName} {ws ws' : List Cond} {rm : Room} {g : Gm} {I : Mm} {av : List Value} {cc : ByteArray} {maxL : Nat} {own : String}
/-- a constructor's contract: its body knows its name -/
theorem KN_of {Post : Gm × Mm → Prop} (hy : plainName y.cls = true) (hw : ws = Cond.code y cc maxL none :: ws') (ho : y.cls = own) (hyn : y.name = "<init>") (hm : (lg_sl av).length ≤ maxL) (body : ∀ f : Fx, Cx f cc maxL own ws rm → f_l f = l → f_x f = x → (f_M f).name = "<init>" → RtV f cc Post → PW f 0 0 g I 0 (lv_args 0 av) []) : KV l x y ws rm g I av Post := by
  intro sz
  refine Met.ofW (cc := cc) (maxL := maxL) (ret := none) hy hw ?_
  intro p e s m args below meth c s₁ B hml hv
  obtain ⟨rfl, hsz, hP, hK, hD0, hE⟩ := hv
  have hown : s.vm.findClass own = some m.cls := by rw [← ho]; exact findClass_of_methodNamed B.named
  subst hsz
  have hA : ∀ q : Nat, s.heap.size ≤ q → va_A (wd x g I) s.heap.size q := fun q h => Or.inr h
  have hl := lv_entry av (n := maxL) hm
  rw [lg_entry_eq]
  refine body (p, l, e, (headSpec ws rm).room, s, m, av.toArray, below, meth, c, maxL, va_A (wd x g I) s.heap.size, x, MQ below (va_Qv Post (WB x (va_A (wd x g I) s.heap.size)) (va_A (wd x g I) s.heap.size)) av.toArray s rm.cells rm.slots (va_A (wd x g I) s.heap.size)) ⟨⟨B.exec, B.bytes, hml, hown, atoms_spec (ws := ws) B.pre⟩, hK, hA, hE, rfl, rfl⟩ rfl rfl ?_ ?_ s.heap [] _ hP hD0.self va_S.rf hl
  · exact (name_of_methodNamed B.named B.method).1.trans hyn
  · intro g' I' pc lv hd hp H locs ls hP hD hS hlv
    exact W.vret B.exec B.bytes B.returns (fun t ht hW => ⟨⟨(g', I'), rfl, hp, by rw [ht]; exact hP, hD⟩, hS.F ht⟩) (fun q hq => hS.2.2 q hq) hd B.notSynchronized
end ALM
