/-! SHAPES: which components there are, of which kinds, what refers to what. Components: 0 PageDesks, 1 its row of sheets, 2 Text (3 kinds, 4 frames, 5 pages), 6 its row of desks, 7 its row of trials, 8 Line (9 pages), 10 Latest (11 goes), 12 Readings (13 ofDesks, 14 ofAsks, 15 hits), 16 Trace, 20+k sheet k (24+k its cells), 30+k trial k (50+k its row), 40+k desk k (60+k its row); 100 the model, 100+j the array of its field j. -/
def shA (g : Gm) (c n : Nat) : Prop := c ∈ gC g ∧ gK g c = 11 ∧ gL g c = n
def shO (g : Gm) (c k : Nat) : Prop := c ∈ gC g ∧ gK g c ∈ [k]
def shD (g : Gm) (ks : List Nat) (d : Nat) : Prop := (d ∈ gC g ∧ gK g d ∈ ks) ∧ shA g (d + 20) 8 ∧ gR g d 0 = some (gA g (d + 20))
def shS (g : Gm) (d : Nat) : Prop := shO g d 6 ∧ shA g (d + 4) 60 ∧ gR g d 0 = some (gA g (d + 4))
def shT (g : Gm) : Prop := shO g 2 7 ∧ shA g 3 4 ∧ shA g 4 4 ∧ shA g 5 24 ∧ gR g 2 0 = some (gA g 3) ∧ gR g 2 1 = some (gA g 4) ∧ gR g 2 2 = some (gA g 5)
def shN (g : Gm) : Prop := shO g 8 2 ∧ shA g 9 24 ∧ gR g 8 0 = some (gA g 9)
def shE (g : Gm) : Prop := shO g 10 1 ∧ shA g 11 24 ∧ gR g 10 0 = some (gA g 11)
def shG (g : Gm) : Prop := shO g 12 4 ∧ shA g 13 8 ∧ shA g 14 8 ∧ shA g 15 8 ∧ gR g 12 0 = some (gA g 13) ∧ gR g 12 1 = some (gA g 14) ∧ gR g 12 2 = some (gA g 15)
def shC (g : Gm) : Prop := shO g 16 8
def mArr : List (Nat × Nat) := [(4, 4), (5, 4), (6, 24), (10, 4), (11, 4), (12, 24), (18, 8), (19, 256), (20, 256), (22, 8), (23, 8), (24, 8), (25, 4), (26, 4), (27, 240), (28, 60)]
def shM (g : Gm) : Prop := shO g 100 10 ∧ ∀ q ∈ mArr, shA g (100 + q.1) q.2 ∧ gR g 100 q.1 = some (gA g (100 + q.1))
/-- the kind of a desk, as a class -/
def kc (k : Nat) : Nat := match k with | 0 => 3 | 1 => 0 | _ => 5
def shP0 (g : Gm) : Prop := shO g 0 9 ∧ gR g 0 0 = some (gA g 1) ∧ gR g 0 1 = some (gA g 2) ∧ gR g 0 2 = some (gA g 6) ∧ gR g 0 3 = some (gA g 7) ∧ gR g 0 4 = some (gA g 8) ∧ gR g 0 5 = some (gA g 10) ∧ gR g 0 6 = some (gA g 12) ∧ gR g 0 7 = some (gA g 16)
def shP (g : Gm) (n : Nat) : Prop := n ≤ 4 ∧ shP0 g ∧ (1 ∈ gC g ∧ gK g 1 = 13 ∧ gL g 1 = 4) ∧ (6 ∈ gC g ∧ gK g 6 = 12 ∧ gL g 6 = 4) ∧ (7 ∈ gC g ∧ gK g 7 = 12 ∧ gL g 7 = 3) ∧ (∀ k, k < 4 → gR g 1 k = some (gA g (20 + k)) ∧ shS g (20 + k)) ∧ (∀ k, k < n → gR g 6 k = some (gA g (40 + k)) ∧ shD g [0, 3, 5] (40 + k)) ∧ (∀ k, k < 3 → gR g 7 k = some (gA g (30 + k)) ∧ shD g [0, 3, 5] (30 + k) ∧ gK g (30 + k) = kc k) ∧ shT g ∧ shN g ∧ shE g ∧ shG g ∧ shC g
theorem vp_lt {x : Int32} {n : Nat} (h : vp_in x n) : x.toNatClampNeg < n := by
  unfold vp_in at h; omega
theorem vp_le {x : Int32} {n m : Nat} (h : vp_in x n) (hm : n ≤ m) : vp_in x m := by
  intro h2
  rcases h2 with h2 | h2
  · exact h (Or.inl h2)
  · exact h (Or.inr (Nat.le_trans hm h2))
theorem shP.o {g : Gm} {n : Nat} (h : shP g n) : shO g 0 9 := h.2.1.1
theorem shP.r0 {g : Gm} {n : Nat} (h : shP g n) : gR g 0 0 = some (gA g 1) := h.2.1.2.1
theorem shP.r1 {g : Gm} {n : Nat} (h : shP g n) : gR g 0 1 = some (gA g 2) := h.2.1.2.2.1
theorem shP.r2 {g : Gm} {n : Nat} (h : shP g n) : gR g 0 2 = some (gA g 6) := h.2.1.2.2.2.1
theorem shP.r3 {g : Gm} {n : Nat} (h : shP g n) : gR g 0 3 = some (gA g 7) := h.2.1.2.2.2.2.1
theorem shP.r4 {g : Gm} {n : Nat} (h : shP g n) : gR g 0 4 = some (gA g 8) := h.2.1.2.2.2.2.2.1
theorem shP.r5 {g : Gm} {n : Nat} (h : shP g n) : gR g 0 5 = some (gA g 10) := h.2.1.2.2.2.2.2.2.1
theorem shP.r6 {g : Gm} {n : Nat} (h : shP g n) : gR g 0 6 = some (gA g 12) := h.2.1.2.2.2.2.2.2.2.1
theorem shP.r7 {g : Gm} {n : Nat} (h : shP g n) : gR g 0 7 = some (gA g 16) := h.2.1.2.2.2.2.2.2.2.2
theorem shP.t {g : Gm} {n : Nat} (h : shP g n) : shT g := h.2.2.2.2.2.2.2.2.1
theorem shP.n {g : Gm} {n : Nat} (h : shP g n) : shN g := h.2.2.2.2.2.2.2.2.2.1
theorem shP.e {g : Gm} {n : Nat} (h : shP g n) : shE g := h.2.2.2.2.2.2.2.2.2.2.1
theorem shP.g {g : Gm} {n : Nat} (h : shP g n) : shG g := h.2.2.2.2.2.2.2.2.2.2.2.1
theorem shP.c {g : Gm} {n : Nat} (h : shP g n) : shC g := h.2.2.2.2.2.2.2.2.2.2.2.2
theorem shP.sheet {g : Gm} {n : Nat} (h : shP g n) {x : Int32} (hx : vp_in x 4) : (1 ∈ gC g ∧ (gK g 1 = 12 ∨ gK g 1 = 13) ∧ vp_in x (gL g 1)) ∧ gR g 1 x.toNatClampNeg = some (gA g (20 + x.toNatClampNeg)) ∧ shS g (20 + x.toNatClampNeg) :=
  ⟨⟨h.2.2.1.1, Or.inr h.2.2.1.2.1, by rw [h.2.2.1.2.2]; exact hx⟩, h.2.2.2.2.2.1 _ (vp_lt hx)⟩
theorem shP.desk {g : Gm} {n : Nat} (h : shP g n) {x : Int32} (hx : vp_in x n) : (6 ∈ gC g ∧ (gK g 6 = 12 ∨ gK g 6 = 13) ∧ vp_in x (gL g 6)) ∧ gR g 6 x.toNatClampNeg = some (gA g (40 + x.toNatClampNeg)) ∧ shD g [0, 3, 5] (40 + x.toNatClampNeg) :=
  ⟨⟨h.2.2.2.1.1, Or.inl h.2.2.2.1.2.1, by rw [h.2.2.2.1.2.2]; exact vp_le hx h.1⟩, h.2.2.2.2.2.2.1 _ (vp_lt hx)⟩
theorem shP.trial {g : Gm} {n : Nat} (h : shP g n) {x : Int32} (hx : vp_in x 3) : (7 ∈ gC g ∧ (gK g 7 = 12 ∨ gK g 7 = 13) ∧ vp_in x (gL g 7)) ∧ gR g 7 x.toNatClampNeg = some (gA g (30 + x.toNatClampNeg)) ∧ shD g [0, 3, 5] (30 + x.toNatClampNeg) :=
  ⟨⟨h.2.2.2.2.1.1, Or.inl h.2.2.2.2.1.2.1, by rw [h.2.2.2.2.1.2.2]; exact hx⟩, (h.2.2.2.2.2.2.2.1 _ (vp_lt hx)).1, (h.2.2.2.2.2.2.2.1 _ (vp_lt hx)).2.1⟩
theorem shM.o {g : Gm} (h : shM g) : shO g 100 10 := h.1
theorem shM.a4 {g : Gm} (h : shM g) : shA g 104 4 ∧ gR g 100 4 = some (gA g 104) := h.2 (4, 4) (by decide)
theorem shM.a5 {g : Gm} (h : shM g) : shA g 105 4 ∧ gR g 100 5 = some (gA g 105) := h.2 (5, 4) (by decide)
theorem shM.a6 {g : Gm} (h : shM g) : shA g 106 24 ∧ gR g 100 6 = some (gA g 106) := h.2 (6, 24) (by decide)
theorem shM.a10 {g : Gm} (h : shM g) : shA g 110 4 ∧ gR g 100 10 = some (gA g 110) := h.2 (10, 4) (by decide)
theorem shM.a11 {g : Gm} (h : shM g) : shA g 111 4 ∧ gR g 100 11 = some (gA g 111) := h.2 (11, 4) (by decide)
theorem shM.a12 {g : Gm} (h : shM g) : shA g 112 24 ∧ gR g 100 12 = some (gA g 112) := h.2 (12, 24) (by decide)
theorem shM.a18 {g : Gm} (h : shM g) : shA g 118 8 ∧ gR g 100 18 = some (gA g 118) := h.2 (18, 8) (by decide)
theorem shM.a19 {g : Gm} (h : shM g) : shA g 119 256 ∧ gR g 100 19 = some (gA g 119) := h.2 (19, 256) (by decide)
theorem shM.a20 {g : Gm} (h : shM g) : shA g 120 256 ∧ gR g 100 20 = some (gA g 120) := h.2 (20, 256) (by decide)
theorem shM.a22 {g : Gm} (h : shM g) : shA g 122 8 ∧ gR g 100 22 = some (gA g 122) := h.2 (22, 8) (by decide)
theorem shM.a23 {g : Gm} (h : shM g) : shA g 123 8 ∧ gR g 100 23 = some (gA g 123) := h.2 (23, 8) (by decide)
theorem shM.a24 {g : Gm} (h : shM g) : shA g 124 8 ∧ gR g 100 24 = some (gA g 124) := h.2 (24, 8) (by decide)
theorem shM.a25 {g : Gm} (h : shM g) : shA g 125 4 ∧ gR g 100 25 = some (gA g 125) := h.2 (25, 4) (by decide)
theorem shM.a26 {g : Gm} (h : shM g) : shA g 126 4 ∧ gR g 100 26 = some (gA g 126) := h.2 (26, 4) (by decide)
theorem shM.a27 {g : Gm} (h : shM g) : shA g 127 240 ∧ gR g 100 27 = some (gA g 127) := h.2 (27, 240) (by decide)
theorem shM.a28 {g : Gm} (h : shM g) : shA g 128 60 ∧ gR g 100 28 = some (gA g 128) := h.2 (28, 60) (by decide)
section SHR
variable {f : Fx} {cc : ByteArray} {nL : Nat} {own : String} {Ts : List Cond} {rm : Room} {cells slots : Nat} {g : Gm} {I : Mm} {pc q : Nat} {lv : List (Nat × Value)} {st st0 : List Value} {rmc : Room}
theorem r_callI (hC : Cx f cc nL own Ts rm) {P : Int32 → Mm → Prop} {a : Array Value} (hr : RN f cells slots g I pc lv st0 st rmc (fun sz => va_Qi (fun r u => u.1 = g ∧ P r u.2) (WB (f_x f) (va_A (wd (f_x f) g I) sz)) (va_A (wd (f_x f) g I) sz) a)) (hz : rmc.cells = 0 ∧ rmc.slots = 0) (hq : pc + 3 = q) (kk : ∀ (r : Int32) (I' : Mm), P r I' → PW f cells slots g I' q lv (.int r :: st)) : PW f cells slots g I pc lv st0 := by
  refine r_endI hC hr hq (fun r u hu => ?_)
  obtain ⟨g', I'⟩ := u
  obtain ⟨h1, h2⟩ := hu
  have h1 : g' = g := h1
  rw [hz.1, hz.2]
  show PW f cells slots g' I' q lv (.int r :: st)
  rw [h1]
  exact kk r I' h2
theorem r_callL (hC : Cx f cc nL own Ts rm) {P : Int64 → Mm → Prop} {a : Array Value} (hr : RN f cells slots g I pc lv st0 st rmc (fun sz => va_Ql (fun r u => u.1 = g ∧ P r u.2) (WB (f_x f) (va_A (wd (f_x f) g I) sz)) (va_A (wd (f_x f) g I) sz) a)) (hz : rmc.cells = 0 ∧ rmc.slots = 0) (hq : pc + 3 = q) (kk : ∀ (r : Int64) (I' : Mm), P r I' → PW f cells slots g I' q lv (.long r :: st)) : PW f cells slots g I pc lv st0 := by
  refine r_endL hC hr hq (fun r u hu => ?_)
  obtain ⟨g', I'⟩ := u
  obtain ⟨h1, h2⟩ := hu
  have h1 : g' = g := h1
  rw [hz.1, hz.2]
  show PW f cells slots g' I' q lv (.long r :: st)
  rw [h1]
  exact kk r I' h2
theorem r_callV (hC : Cx f cc nL own Ts rm) {P : Mm → Prop} {a : Array Value} (hr : RN f cells slots g I pc lv st0 st rmc (fun sz => va_Qv (fun u => u.1 = g ∧ P u.2) (WB (f_x f) (va_A (wd (f_x f) g I) sz)) (va_A (wd (f_x f) g I) sz) a)) (hz : rmc.cells = 0 ∧ rmc.slots = 0) (hq : pc + 3 = q) (kk : ∀ (I' : Mm), P I' → PW f cells slots g I' q lv st) : PW f cells slots g I pc lv st0 := by
  refine r_endV hC hr hq (fun u hu => ?_)
  obtain ⟨g', I'⟩ := u
  obtain ⟨h1, h2⟩ := hu
  have h1 : g' = g := h1
  rw [hz.1, hz.2]
  show PW f cells slots g' I' q lv st
  rw [h1]
  exact kk I' h2
/-- a call on a desk, by its kind -/
theorem a_K {d : Nat} {Q : Nat → State → Outcome → State → Prop} (hd : shD g [0, 3, 5] d) (h0 : gK g d = 0 → RN f cells slots g I pc lv st0 st rmc Q) (h3 : gK g d = 3 → RN f cells slots g I pc lv st0 st rmc Q) (h5 : gK g d = 5 → RN f cells slots g I pc lv st0 st rmc Q) : RN f cells slots g I pc lv st0 st rmc Q := by
  have hk := hd.1.2
  rcases List.mem_cons.mp hk with h | hk
  · exact h0 h
  · rcases List.mem_cons.mp hk with h | hk
    · exact h3 h
    · rcases List.mem_cons.mp hk with h | hk
      · exact h5 h
      · exact absurd hk List.not_mem_nil
theorem a_K05 {d : Nat} {Q : Nat → State → Outcome → State → Prop} (hd : shD g [0, 5] d) (h0 : gK g d = 0 → RN f cells slots g I pc lv st0 st rmc Q) (h5 : gK g d = 5 → RN f cells slots g I pc lv st0 st rmc Q) : RN f cells slots g I pc lv st0 st rmc Q := by
  have hk := hd.1.2
  rcases List.mem_cons.mp hk with h | hk
  · exact h0 h
  · rcases List.mem_cons.mp hk with h | hk
    · exact h5 h
    · exact absurd hk List.not_mem_nil
theorem shD.of {ks : List Nat} {d : Nat} {js : List Nat} (h : shD g js d) {k : Nat} (hk : gK g d = k) (hm : k ∈ ks) : shD g ks d := ⟨⟨h.1.1, by rw [hk]; exact hm⟩, h.2⟩
theorem r_mmax (hC : Cx f cc nL own Ts rm) {index : Nat} {x y : Int32} (hd : decode cc pc = .ok (.invokestatic index, 3)) (hq : pc + 3 = q) (w1 : Cond.methodLink own index Lib.Math.max.name ∈ Ts) (w2 : Cond.static Lib.Math.max.name ∈ Ts) (w3 : Cond.initialized "java/lang/Math" ∈ Ts) (w4 : Cond.code Lib.Math.max.name Lib.Math.max.code 2 (some .int) ∈ Ts) (hfr : 1 ≤ rm.frames) (hlo : (st.map fun v => v.category).sum + 13 ≤ rm.locals) (hz : cells ≤ rm.cells ∧ slots ≤ rm.slots) (kk : PW f cells slots g I q lv (.int (if x < y then y else x) :: st)) : PW f cells slots g I pc lv (.int y :: .int x :: st) := by
  subst hq
  intro H locs ls hP hD hS hl
  exact va_mmax hC.1.1 hC.1.2.1 (by rw [hC.1.2.2.1, ← hC.2.2.2.2.2]; exact hl.1.symm) hC.1.2.2.2.1 (hC.1.2.2.2.2 _ w1) (hC.1.2.2.2.2 _ w2) (hC.1.2.2.2.2 _ w3) (hC.1.2.2.2.2 _ w4) (by rw [hC.2.2.2.2.1]; exact hfr) (by rw [hC.2.2.2.2.1]; exact hlo) (by rw [hC.2.2.2.2.1]; exact hz.1) (by rw [hC.2.2.2.2.1]; exact hz.2) hd (kk H locs ls hP hD hS hl)
theorem r_mmaxl (hC : Cx f cc nL own Ts rm) {index : Nat} {x y : Int64} (hd : decode cc pc = .ok (.invokestatic index, 3)) (hq : pc + 3 = q) (w1 : Cond.methodLink own index Lib.MathLoose.max_long.x ∈ Ts) (w2 : Cond.static Lib.MathLoose.max_long.x ∈ Ts) (w3 : Cond.initialized "java/lang/Math" ∈ Ts) (w4 : Cond.code Lib.MathLoose.max_long.x Lib.MathLoose.max_long.code 4 (some .long) ∈ Ts) (hfr : 1 ≤ rm.frames) (hlo : (st.map fun v => v.category).sum + 15 ≤ rm.locals) (hz : cells ≤ rm.cells ∧ slots ≤ rm.slots) (kk : PW f cells slots g I q lv (.long (if y < x then x else y) :: st)) : PW f cells slots g I pc lv (.long y :: .long x :: st) := by
  subst hq
  intro H locs ls hP hD hS hl
  exact va_mmax_long hC.1.1 hC.1.2.1 (by rw [hC.1.2.2.1, ← hC.2.2.2.2.2]; exact hl.1.symm) hC.1.2.2.2.1 (hC.1.2.2.2.2 _ w1) (hC.1.2.2.2.2 _ w2) (hC.1.2.2.2.2 _ w3) (hC.1.2.2.2.2 _ w4) (by rw [hC.2.2.2.2.1]; exact hfr) (by rw [hC.2.2.2.2.1]; exact hlo) (by rw [hC.2.2.2.2.1]; exact hz.1) (by rw [hC.2.2.2.2.1]; exact hz.2) hd (kk H locs ls hP hD hS hl)
/-- instanceof, by the kind of a desk -/
theorem r_inst (hC : Cx f cc nL own Ts rm) {index d : Nat} {nm : String} {v : Int32} (hd : decode cc pc = .ok (.instanceof index, 3)) (hq : pc + 3 = q) (w : Cond.classLink own index nm ∈ Ts) (hL : shD g [0, 3, 5] d) (h0 : gK g d = 0 → (v = 1 ∧ va_Nw (.castable RX0 nm) (f_s f)) ∨ (v = 0 ∧ va_Nc RX0 nm (f_s f)) ∨ (v = 1 ∧ RX0 = nm)) (h3 : gK g d = 3 → (v = 1 ∧ va_Nw (.castable RX3 nm) (f_s f)) ∨ (v = 0 ∧ va_Nc RX3 nm (f_s f)) ∨ (v = 1 ∧ RX3 = nm)) (h5 : gK g d = 5 → (v = 1 ∧ va_Nw (.castable RX5 nm) (f_s f)) ∨ (v = 0 ∧ va_Nc RX5 nm (f_s f)) ∨ (v = 1 ∧ RX5 = nm)) (kk : PW f cells slots g I q lv (.int v :: st)) : PW f cells slots g I pc lv (.ref (gA g d) :: st) := by
  subst hq
  intro H locs ls hP hD hS hl
  obtain ⟨p0, hp⟩ := wd_at (f_x f) I hL.1.1
  have go : ∀ (k : Nat) (C : String) (T : u_T) (N : Nat), gK g d = k → k < 11 → vwCl[k]? = some (C, T, N) → ((v = 1 ∧ va_Nw (.castable C nm) (f_s f)) ∨ (v = 0 ∧ va_Nc C nm (f_s f)) ∨ (v = 1 ∧ C = nm)) → FW f H locs cells slots (F0 (f_m f) pc ls (.ref (gA g d) :: st)) := by
    intro k C T N hk hk9 hcl hv
    have hp1 := hp
    rw [en_o (f_x f) I hk hk9] at hp1
    have hrv := va_recv hC.2.1 hP hcl hp1
    rcases hv with ⟨rfl, hv⟩ | ⟨rfl, hv⟩ | ⟨rfl, rfl⟩
    · exact va_instY hC.1.1 hC.1.2.1 hC.1.2.2.2.1 (hC.1.2.2.2.2 _ w) hv hrv hd (kk H locs ls hP hD hS hl)
    · exact va_instNo hC.1.1 hC.1.2.1 hC.1.2.2.2.1 (hC.1.2.2.2.2 _ w) hv hrv hd (kk H locs ls hP hD hS hl)
    · exact va_instS hC.1.1 hC.1.2.1 hC.1.2.2.2.1 (hC.1.2.2.2.2 _ w) (hC.2.1.1 k _ hcl).2 hrv hd (kk H locs ls hP hD hS hl)
  have hk := hL.1.2
  rcases List.mem_cons.mp hk with h | hk
  · exact go 0 RX0 TX0 5 h (by decide) rfl (h0 h)
  · rcases List.mem_cons.mp hk with h | hk
    · exact go 3 RX3 TX3 5 h (by decide) rfl (h3 h)
    · rcases List.mem_cons.mp hk with h | hk
      · exact go 5 RX5 TX5 5 h (by decide) rfl (h5 h)
      · exact absurd hk List.not_mem_nil
theorem r_retI (hC : Cx f cc nL own Ts rm) {P : Int32 → Mm → Prop} {r : Int32} (hR : RtI f cc (fun r u => u.1 = g ∧ P r u.2)) (hz : rm.cells = 0 ∧ rm.slots = 0) (hd : decode cc pc = .ok (.ireturn, 1)) (hw : P r I) : PW f 0 0 g I pc lv [.int r] := by
  have h := hR g I pc lv r hd ⟨rfl, hw⟩
  rw [hC.2.2.2.2.1, hz.1, hz.2] at h
  exact h
theorem r_retZ (hC : Cx f cc nL own Ts rm) {P : Int32 → Mm → Prop} {r : Int32} (hR : RtZ f cc (fun r u => u.1 = g ∧ P r u.2)) (hz : rm.cells = 0 ∧ rm.slots = 0) (hd : decode cc pc = .ok (.ireturn, 1)) (hn : narrow .boolean (.int r) = .int r) (hw : P r I) : PW f 0 0 g I pc lv [.int r] := by
  have h := hR g I pc lv r hd hn ⟨rfl, hw⟩
  rw [hC.2.2.2.2.1, hz.1, hz.2] at h
  exact h
theorem r_retL (hC : Cx f cc nL own Ts rm) {P : Int64 → Mm → Prop} {r : Int64} (hR : RtL f cc (fun r u => u.1 = g ∧ P r u.2)) (hz : rm.cells = 0 ∧ rm.slots = 0) (hd : decode cc pc = .ok (.lreturn, 1)) (hw : P r I) : PW f 0 0 g I pc lv [.long r] := by
  have h := hR g I pc lv r hd ⟨rfl, hw⟩
  rw [hC.2.2.2.2.1, hz.1, hz.2] at h
  exact h
theorem r_retV (hC : Cx f cc nL own Ts rm) {P : Mm → Prop} (hR : RtV f cc (fun u => u.1 = g ∧ P u.2)) (hz : rm.cells = 0 ∧ rm.slots = 0) (hd : decode cc pc = .ok (.return_, 1)) (hw : P I) : PW f 0 0 g I pc lv [] := by
  have h := hR g I pc lv hd ⟨rfl, hw⟩
  rw [hC.2.2.2.2.1, hz.1, hz.2] at h
  exact h
theorem zb_of {v : Int32} (h : v = 0 ∨ v = 1) : narrow .boolean (.int v) = .int v := by
  rcases h with rfl | rfl <;> decide
theorem r_instX5 (hC : Cx f cc nL own Ts rm) {index d : Nat} (hd : decode cc pc = .ok (.instanceof index, 3)) (hq : pc + 3 = q) (w : Cond.classLink own index RX5 ∈ Ts) (hL : shD g [0, 3, 5] d) (kk : PW f cells slots g I q lv (.int (if gK g d = 5 then (1 : Int32) else 0) :: st)) : PW f cells slots g I pc lv (.ref (gA g d) :: st) :=
  r_inst hC hd hq w hL (fun h => Or.inr (Or.inl ⟨by rw [if_neg (by rw [h]; decide)], hC.2.2.2.1.2.2.2.2.2.2.1⟩)) (fun h => Or.inr (Or.inl ⟨by rw [if_neg (by rw [h]; decide)], hC.2.2.2.1.2.2.2.2.2.1⟩)) (fun h => Or.inr (Or.inr ⟨by rw [if_pos h], rfl⟩)) kk
theorem r_instX0 (hC : Cx f cc nL own Ts rm) {index d : Nat} (hd : decode cc pc = .ok (.instanceof index, 3)) (hq : pc + 3 = q) (w : Cond.classLink own index RX0 ∈ Ts) (hL : shD g [0, 3, 5] d) (kk : PW f cells slots g I q lv (.int (if gK g d = 3 then (0 : Int32) else 1) :: st)) : PW f cells slots g I pc lv (.ref (gA g d) :: st) :=
  r_inst hC hd hq w hL (fun h => Or.inr (Or.inr ⟨by rw [if_neg (by rw [h]; decide)], rfl⟩)) (fun h => Or.inr (Or.inl ⟨by rw [if_pos h], hC.2.2.2.1.2.2.2.2.1⟩)) (fun h => Or.inl ⟨by rw [if_neg (by rw [h]; decide)], hC.2.2.2.1.2.2.2.1⟩) kk
end SHR
