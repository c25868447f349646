/-! FURNISH: old desks are known no longer, new ones come one by one -/
abbrev rm_X9_furnish : Room := { frames := 5, cells := 8, slots := 52, locals := 128 }
theorem ci_X9_furnish : CI yX9_furnish wsX9_furnish cX9_furnish 2 none 0 := ⟨⟨_, rfl⟩, by decide, by decide, by decide +kernel⟩
/-- all but the desks stays where it is -/
def oD (c : Nat) : Prop := ¬ (40 ≤ c ∧ c < 44) ∧ ¬ (60 ≤ c ∧ c < 64)
def Kp (g g' : Gm) : Prop := ∀ c, oD c → (c ∈ gC g → c ∈ gC g') ∧ gA g' c = gA g c ∧ gK g' c = gK g c ∧ gL g' c = gL g c ∧ (c ≠ 6 → gR g' c = gR g c)
theorem Kp.rf {g : Gm} : Kp g g := fun _ _ => ⟨id, rfl, rfl, rfl, fun _ => rfl⟩
theorem Kp.tr {g h k : Gm} (h1 : Kp g h) (h2 : Kp h k) : Kp g k := fun c hc => ⟨fun q => (h2 c hc).1 ((h1 c hc).1 q), (h2 c hc).2.1.trans (h1 c hc).2.1, (h2 c hc).2.2.1.trans (h1 c hc).2.2.1, (h2 c hc).2.2.2.1.trans (h1 c hc).2.2.2.1, fun e => ((h2 c hc).2.2.2.2 e).trans ((h1 c hc).2.2.2.2 e)⟩
theorem Kp.add {g : Gm} {d a k n : Nat} (hd : ¬ oD d) : Kp g (gAdd g d a k n) := fun c hc => by
  have hne : c ≠ d := fun e => hd (e ▸ hc)
  exact ⟨fun q => List.mem_append_left _ q, va_up_ne _ _ hne, va_up_ne _ _ hne, va_up_ne _ _ hne, fun _ => va_up_ne _ _ hne⟩
theorem Kp.put {g : Gm} {d j a : Nat} (hd : ¬ oD d ∨ d = 6) : Kp g (gPut g d j a) := fun c hc => by
  refine ⟨id, rfl, rfl, rfl, fun e6 => va_up_ne _ _ (fun e => ?_)⟩
  rcases hd with hd | hd
  · exact hd (e ▸ hc)
  · omega
theorem Kp.A {g g' : Gm} (h : Kp g g') {c n : Nat} (hc : oD c) (hs : shA g c n) : shA g' c n := ⟨(h c hc).1 hs.1, (h c hc).2.2.1.trans hs.2.1, (h c hc).2.2.2.1.trans hs.2.2⟩
theorem Kp.O {g g' : Gm} (h : Kp g g') {c k : Nat} (hc : oD c) (hs : shO g c k) : shO g' c k := ⟨(h c hc).1 hs.1, by rw [(h c hc).2.2.1]; exact hs.2⟩
theorem Kp.R {g g' : Gm} (h : Kp g g') {c j t : Nat} (hc : oD c) (h6 : c ≠ 6) (ht : oD t) (hs : gR g c j = some (gA g t)) : gR g' c j = some (gA g' t) := by
  rw [(h c hc).2.2.2.2 h6, (h t ht).2.1]; exact hs
theorem Kp.M {g g' : Gm} (h : Kp g g') (hs : shM g) : shM g' := by
  refine ⟨h.O (by unfold oD; omega) hs.1, fun q hq => ?_⟩
  have hb : oD (100 + q.1) := by unfold oD; omega
  exact ⟨h.A hb (hs.2 q hq).1, h.R (by unfold oD; omega) (by decide) hb (hs.2 q hq).2⟩
theorem Kp.P {g g' : Gm} {n m : Nat} (h : Kp g g') (hs : shP g n) (hm : m ≤ 4) (hd : ∀ k, k < m → gR g' 6 k = some (gA g' (40 + k)) ∧ shD g' [0, 3, 5] (40 + k)) : shP g' m := by
  obtain ⟨h1, h2, h3, h4, h5, h6, h7, h8, h9, h10, h11, h12, h13⟩ := hs
  have o : ∀ c, c < 40 → oD c := fun c hc => by unfold oD; omega
  have R0 : ∀ j t, t < 40 → gR g 0 j = some (gA g t) → gR g' 0 j = some (gA g' t) := fun j t ht e => h.R (o 0 (by decide)) (by decide) (o t ht) e
  refine ⟨hm, ⟨h.O (o 0 (by decide)) h2.1, R0 _ _ (by decide) h2.2.1, R0 _ _ (by decide) h2.2.2.1, R0 _ _ (by decide) h2.2.2.2.1, R0 _ _ (by decide) h2.2.2.2.2.1, R0 _ _ (by decide) h2.2.2.2.2.2.1, R0 _ _ (by decide) h2.2.2.2.2.2.2.1, R0 _ _ (by decide) h2.2.2.2.2.2.2.2.1, R0 _ _ (by decide) h2.2.2.2.2.2.2.2.2⟩, ?_, ?_, ?_, fun k hk => ?_, hd, fun k hk => ?_, ?_, ?_, ?_, ?_, h.O (o 16 (by decide)) h13⟩
  · exact ⟨(h 1 (o 1 (by decide))).1 h3.1, (h 1 (o 1 (by decide))).2.2.1.trans h3.2.1, (h 1 (o 1 (by decide))).2.2.2.1.trans h3.2.2⟩
  · exact ⟨(h 6 (o 6 (by decide))).1 h4.1, (h 6 (o 6 (by decide))).2.2.1.trans h4.2.1, (h 6 (o 6 (by decide))).2.2.2.1.trans h4.2.2⟩
  · exact ⟨(h 7 (o 7 (by decide))).1 h5.1, (h 7 (o 7 (by decide))).2.2.1.trans h5.2.1, (h 7 (o 7 (by decide))).2.2.2.1.trans h5.2.2⟩
  · obtain ⟨a, b, c, d⟩ := h6 k hk
    have o1 := o (20 + k) (by omega)
    have o2 := o (20 + k + 4) (by omega)
    exact ⟨h.R (o 1 (by decide)) (by decide) o1 a, h.O o1 b, h.A o2 c, h.R o1 (by omega) o2 d⟩
  · obtain ⟨a, ⟨⟨b1, b2⟩, c, d⟩, e⟩ := h8 k hk
    have o1 := o (30 + k) (by omega)
    have o2 : oD (30 + k + 20) := by unfold oD; omega
    exact ⟨h.R (o 7 (by decide)) (by decide) o1 a, ⟨⟨(h _ o1).1 b1, by rw [(h _ o1).2.2.1]; exact b2⟩, h.A o2 c, h.R o1 (by omega) o2 d⟩, (h _ o1).2.2.1.trans e⟩
  · obtain ⟨a, b, c, d, e1, e2, e3⟩ := h9
    exact ⟨h.O (o 2 (by decide)) a, h.A (o 3 (by decide)) b, h.A (o 4 (by decide)) c, h.A (o 5 (by decide)) d, h.R (o 2 (by decide)) (by decide) (o 3 (by decide)) e1, h.R (o 2 (by decide)) (by decide) (o 4 (by decide)) e2, h.R (o 2 (by decide)) (by decide) (o 5 (by decide)) e3⟩
  · obtain ⟨a, b, e1⟩ := h10
    exact ⟨h.O (o 8 (by decide)) a, h.A (o 9 (by decide)) b, h.R (o 8 (by decide)) (by decide) (o 9 (by decide)) e1⟩
  · obtain ⟨a, b, e1⟩ := h11
    exact ⟨h.O (o 10 (by decide)) a, h.A (o 11 (by decide)) b, h.R (o 10 (by decide)) (by decide) (o 11 (by decide)) e1⟩
  · obtain ⟨a, b, c, d, e1, e2, e3⟩ := h12
    exact ⟨h.O (o 12 (by decide)) a, h.A (o 13 (by decide)) b, h.A (o 14 (by decide)) c, h.A (o 15 (by decide)) d, h.R (o 12 (by decide)) (by decide) (o 13 (by decide)) e1, h.R (o 12 (by decide)) (by decide) (o 14 (by decide)) e2, h.R (o 12 (by decide)) (by decide) (o 15 (by decide)) e3⟩
/-- the old desks go out of what is known -/
def oDb (c : Nat) : Bool := !((decide (40 ≤ c) && decide (c < 44)) || (decide (60 ≤ c) && decide (c < 64)))
theorem oDb_i {c : Nat} : oDb c = true ↔ oD c := by
  unfold oDb oD
  simp only [Bool.not_eq_true', Bool.or_eq_false_iff, Bool.and_eq_false_iff, decide_eq_false_iff_not]
  omega
def gOut (g : Gm) : Gm := gDrop g ((gC g).filter oDb)
theorem Kp.out {g : Gm} : Kp g (gOut g) := fun c hc => ⟨fun q => List.mem_filter.mpr ⟨q, oDb_i.mpr hc⟩, rfl, rfl, rfl, fun _ => rfl⟩
theorem gOut_n {g : Gm} {c : Nat} (h : ¬ oD c) : c ∉ gC (gOut g) := fun q => h (oDb_i.mp (List.mem_filter.mp q).2)
theorem gC_nodup {x : Gx} {g : Gm} {I : Mm} {A : Nat → Prop} (hD : va_D A (wd x g I)) : (gC g).Nodup := by
  unfold List.Nodup
  rw [List.pairwise_iff_getElem]
  intro i j hi hj hij e
  have e1 : (gC g)[i]? = some (gC g)[i] := List.getElem?_eq_getElem hi
  have e2 : (gC g)[j]? = some (gC g)[i] := by rw [e]; exact List.getElem?_eq_getElem hj
  have w1 : (wd x g I)[i]? = some (gA g (gC g)[i], en x g I (gC g)[i]) := by simp only [wd, List.getElem?_map, e1, Option.map_some]
  have w2 : (wd x g I)[j]? = some (gA g (gC g)[i], en x g I (gC g)[i]) := by simp only [wd, List.getElem?_map, e2, Option.map_some]
  have := hD.1 i j _ _ w1 w2 rfl
  omega
theorem n_out {f : Fx} {cells slots : Nat} {g : Gm} {I : Mm} {pc : Nat} {lv : List (Nat × Value)} {st : List Value} (kk : PW f cells slots (gOut g) I pc lv st) : PW f cells slots g I pc lv st := by
  intro H locs ls hP hD hS hl
  have hL : ∀ c ∈ (gC g).filter oDb, c ∈ gC g := fun c hc => (List.mem_filter.mp hc).1
  exact kk H locs ls (wd_sub hL hP) (wd_subD hL ((gC_nodup hD).filter _) hD) hS hl
set_option maxRecDepth 20000 in
theorem uw_X9_furnish_9 : ∀ w ∈ u_ws RX9 TX9 11, w ∈ wsX9_furnish := by decide +kernel
set_option maxRecDepth 20000 in
theorem ffg_X9_furnish_99 : ∀ k ∈ ([9] : List Nat), FF wsX9_furnish RX9 99 k 8 ∧ fR k 8 = false := List.forall_mem_cons.mpr ⟨⟨⟨RX9, TX9, 11, "PageDesks", rfl, rfl, by decide, by decide, uw_X9_furnish_9, (List.mem_of_getElem? (i := 3) rfl), Or.inl rfl⟩, rfl⟩, fun _ h => absurd h List.not_mem_nil⟩
set_option maxRecDepth 20000 in
theorem ffg_X9_furnish_26 : ∀ k ∈ ([9] : List Nat), FF wsX9_furnish RX9 26 k 2 ∧ fR k 2 = true := List.forall_mem_cons.mpr ⟨⟨⟨RX9, TX9, 11, "PageDesks", rfl, rfl, by decide, by decide, uw_X9_furnish_9, (List.mem_of_getElem? (i := 4) rfl), Or.inl rfl⟩, rfl⟩, fun _ h => absurd h List.not_mem_nil⟩
set_option maxRecDepth 20000 in
theorem ffg_X9_furnish_20 : ∀ k ∈ ([9] : List Nat), FF wsX9_furnish RX9 20 k 1 ∧ fR k 1 = true := List.forall_mem_cons.mpr ⟨⟨⟨RX9, TX9, 11, "PageDesks", rfl, rfl, by decide, by decide, uw_X9_furnish_9, (List.mem_of_getElem? (i := 1) rfl), Or.inl rfl⟩, rfl⟩, fun _ h => absurd h List.not_mem_nil⟩
set_option maxRecDepth 20000 in
theorem uw_X9_furnish_7 : ∀ w ∈ u_ws RX7 TX7 6, w ∈ wsX9_furnish := by decide +kernel
set_option maxRecDepth 20000 in
theorem ffg_X9_furnish_259 : ∀ k ∈ ([7] : List Nat), FF wsX9_furnish RX9 259 k 0 ∧ fR k 0 = true := List.forall_mem_cons.mpr ⟨⟨⟨RX7, TX7, 6, "PageDesks$Text", rfl, rfl, by decide, by decide, uw_X9_furnish_7, (List.mem_of_getElem? (i := 5) rfl), Or.inl rfl⟩, rfl⟩, fun _ h => absurd h List.not_mem_nil⟩
set_option maxRecDepth 20000 in
theorem ffg_X9_furnish_262 : ∀ k ∈ ([7] : List Nat), FF wsX9_furnish RX9 262 k 1 ∧ fR k 1 = true := List.forall_mem_cons.mpr ⟨⟨⟨RX7, TX7, 6, "PageDesks$Text", rfl, rfl, by decide, by decide, uw_X9_furnish_7, (List.mem_of_getElem? (i := 6) rfl), Or.inl rfl⟩, rfl⟩, fun _ h => absurd h List.not_mem_nil⟩
set_option maxRecDepth 20000 in
theorem ffg_X9_furnish_36 : ∀ k ∈ ([9] : List Nat), FF wsX9_furnish RX9 36 k 4 ∧ fR k 4 = true := List.forall_mem_cons.mpr ⟨⟨⟨RX9, TX9, 11, "PageDesks", rfl, rfl, by decide, by decide, uw_X9_furnish_9, (List.mem_of_getElem? (i := 7) rfl), Or.inl rfl⟩, rfl⟩, fun _ h => absurd h List.not_mem_nil⟩
set_option maxRecDepth 20000 in
theorem ffg_X9_furnish_264 : ∀ k ∈ ([7] : List Nat), FF wsX9_furnish RX9 264 k 2 ∧ fR k 2 = true := List.forall_mem_cons.mpr ⟨⟨⟨RX7, TX7, 6, "PageDesks$Text", rfl, rfl, by decide, by decide, uw_X9_furnish_7, (List.mem_of_getElem? (i := 8) rfl), Or.inl rfl⟩, rfl⟩, fun _ h => absurd h List.not_mem_nil⟩
set_option maxRecDepth 20000 in
theorem ffg_X9_furnish_265 : ∀ k ∈ ([7] : List Nat), FF wsX9_furnish RX9 265 k 4 ∧ fR k 4 = false := List.forall_mem_cons.mpr ⟨⟨⟨RX7, TX7, 6, "PageDesks$Text", rfl, rfl, by decide, by decide, uw_X9_furnish_7, (List.mem_of_getElem? (i := 9) rfl), Or.inl rfl⟩, rfl⟩, fun _ h => absurd h List.not_mem_nil⟩
set_option maxRecDepth 20000 in
theorem ffg_X9_furnish_50 : ∀ k ∈ ([9] : List Nat), FF wsX9_furnish RX9 50 k 6 ∧ fR k 6 = true := List.forall_mem_cons.mpr ⟨⟨⟨RX9, TX9, 11, "PageDesks", rfl, rfl, by decide, by decide, uw_X9_furnish_9, (List.mem_of_getElem? (i := 11) rfl), Or.inl rfl⟩, rfl⟩, fun _ h => absurd h List.not_mem_nil⟩
set_option maxRecDepth 20000 in
theorem ffp_X9_furnish_99 : ∀ k ∈ ([9] : List Nat), FF wsX9_furnish RX9 99 k 8 ∧ fR k 8 = false ∧ FP k 8 := List.forall_mem_cons.mpr ⟨⟨⟨RX9, TX9, 11, "PageDesks", rfl, rfl, by decide, by decide, uw_X9_furnish_9, (List.mem_of_getElem? (i := 3) rfl), Or.inl rfl⟩, rfl, ⟨RX9, TX9, 11, tyX9, rfl, tyX9_ok, nmX9, rfl, rfl⟩⟩, fun _ h => absurd h List.not_mem_nil⟩
set_option maxRecDepth 20000 in
theorem ffp_X9_furnish_139 : ∀ k ∈ ([9] : List Nat), FF wsX9_furnish RX9 139 k 9 ∧ fR k 9 = false ∧ FP k 9 := List.forall_mem_cons.mpr ⟨⟨⟨RX9, TX9, 11, "PageDesks", rfl, rfl, by decide, by decide, uw_X9_furnish_9, (List.mem_of_getElem? (i := 10) rfl), Or.inl rfl⟩, rfl, ⟨RX9, TX9, 11, tyX9, rfl, tyX9_ok, nmX9, rfl, rfl⟩⟩, fun _ h => absurd h List.not_mem_nil⟩
set_option maxRecDepth 20000 in
theorem uw_X9_furnish_4 : ∀ w ∈ u_ws RX4 TX4 4, w ∈ wsX9_furnish := by decide +kernel
set_option maxRecDepth 20000 in
theorem ffp_X9_furnish_161 : ∀ k ∈ ([4] : List Nat), FF wsX9_furnish RX9 161 k 3 ∧ fR k 3 = false ∧ FP k 3 := List.forall_mem_cons.mpr ⟨⟨⟨RX4, TX4, 4, "PageDesks$Readings", rfl, rfl, by decide, by decide, uw_X9_furnish_4, (List.mem_of_getElem? (i := 12) rfl), Or.inl rfl⟩, rfl, ⟨RX4, TX4, 4, tyX4, rfl, tyX4_ok, nmX4, rfl, rfl⟩⟩, fun _ h => absurd h List.not_mem_nil⟩
set_option maxRecDepth 20000 in
theorem ffg_X9_furnish_257 : ∀ k ∈ ([7] : List Nat), FF wsX9_furnish RX9 257 k 3 ∧ fR k 3 = false := List.forall_mem_cons.mpr ⟨⟨⟨RX7, TX7, 6, "PageDesks$Text", rfl, rfl, by decide, by decide, uw_X9_furnish_7, (List.mem_of_getElem? (i := 2) rfl), Or.inl rfl⟩, rfl⟩, fun _ h => absurd h List.not_mem_nil⟩
