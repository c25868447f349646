/-! CALLS over PW: a start by the kind of the call, an end by what is answered -/
section PWC
variable {f : Fx} {cc : ByteArray} {nL : Nat} {own : String} {Ts : List Cond} {rm : Room} {cells slots : Nat} {g : Gm} {I : Mm} {pc q : Nat} {lv : List (Nat × Value)} {st st0 : List Value} {rmc : Room}
/-- the callee runs to its end, whatever the heap -/
def RN (f : Fx) (cells slots : Nat) (g : Gm) (I : Mm) (pc : Nat) (lv : List (Nat × Value)) (st0 st : List Value) (rmc : Room) (Qc : Nat → State → Outcome → State → Prop) : Prop :=
  ∀ (H : Heap) (locs : List Loc) (ls : Array Slot), va_P (f_x f).1 vwCl (wd (f_x f) g I) H → va_D (f_A f) (wd (f_x f) g I) → va_S (f_A f) (f_s f).heap H locs → lv_has ls (f_n f) lv → va_Run (f_p f) (f_l f) (f_e f) (f_R f) (f_s f) (f_m f) (f_a f) (f_b f) (f_M f) (f_c f) H locs cells slots rmc.cells rmc.slots (F0 (f_m f) pc ls st0) st (Qc H.size) (va_A (wd (f_x f) g I) H.size)
theorem r_free {x : Gx} {A : Nat → Prop} {H0 H : Heap} {locs : List Loc} (hD : va_D A (wd x g I)) (hS : va_S A H0 H locs) (hA : ∀ q : Nat, H0.size ≤ q → A q) : ∀ q : Nat, va_A (wd x g I) H.size q → A q := by
  intro q h
  rcases h with ⟨k, e, h⟩ | h
  · exact hD.2 k (q, e) h
  · exact hA q (Nat.le_trans hS.1 h)
theorem r_endI (hC : Cx f cc nL own Ts rm) {Post : Int32 → Gm × Mm → Prop} {a : Array Value} (hr : RN f cells slots g I pc lv st0 st rmc (fun sz => va_Qi Post (WB (f_x f) (va_A (wd (f_x f) g I) sz)) (va_A (wd (f_x f) g I) sz) a)) (hq : pc + 3 = q) (kk : ∀ (r : Int32) (u : Gm × Mm), Post r u → PW f (cells + rmc.cells) (slots + rmc.slots) u.1 u.2 q lv (.int r :: st)) : PW f cells slots g I pc lv st0 := by
  subst hq
  intro H locs ls hP hD hS hl
  have hF := r_free hD hS hC.2.2.1
  refine va_calli (hr H locs ls hP hD hS hl) hS (fun z _ h => hF z h) hF (fun r u t H1 locs1 ht hvm hw hB hz hk hS1 => ?_)
  obtain ⟨hP1, hD1⟩ := hB
  rw [ht] at hP1
  exact kk r u hw H1 locs1 ls hP1 (hD1.weaken (fun _ z _ h => hF z.1 h)) hS1 hl
theorem r_endL (hC : Cx f cc nL own Ts rm) {Post : Int64 → Gm × Mm → Prop} {a : Array Value} (hr : RN f cells slots g I pc lv st0 st rmc (fun sz => va_Ql Post (WB (f_x f) (va_A (wd (f_x f) g I) sz)) (va_A (wd (f_x f) g I) sz) a)) (hq : pc + 3 = q) (kk : ∀ (r : Int64) (u : Gm × Mm), Post r u → PW f (cells + rmc.cells) (slots + rmc.slots) u.1 u.2 q lv (.long r :: st)) : PW f cells slots g I pc lv st0 := by
  subst hq
  intro H locs ls hP hD hS hl
  have hF := r_free hD hS hC.2.2.1
  refine va_calll (hr H locs ls hP hD hS hl) hS (fun z _ h => hF z h) hF (fun r u t H1 locs1 ht hvm hw hB hz hk hS1 => ?_)
  obtain ⟨hP1, hD1⟩ := hB
  rw [ht] at hP1
  exact kk r u hw H1 locs1 ls hP1 (hD1.weaken (fun _ z _ h => hF z.1 h)) hS1 hl
theorem r_endV (hC : Cx f cc nL own Ts rm) {Post : Gm × Mm → Prop} {a : Array Value} (hr : RN f cells slots g I pc lv st0 st rmc (fun sz => va_Qv Post (WB (f_x f) (va_A (wd (f_x f) g I) sz)) (va_A (wd (f_x f) g I) sz) a)) (hq : pc + 3 = q) (kk : ∀ (u : Gm × Mm), Post u → PW f (cells + rmc.cells) (slots + rmc.slots) u.1 u.2 q lv st) : PW f cells slots g I pc lv st0 := by
  subst hq
  intro H locs ls hP hD hS hl
  have hF := r_free hD hS hC.2.2.1
  refine va_callv (hr H locs ls hP hD hS hl) hS (fun z _ h => hF z h) hF (fun u t H1 locs1 ht hvm hw hB hz hk hS1 => ?_)
  obtain ⟨hP1, hD1⟩ := hB
  rw [ht] at hP1
  exact kk u hw H1 locs1 ls hP1 (hD1.weaken (fun _ z _ h => hF z.1 h)) hS1 hl
theorem r_endR (hC : Cx f cc nL own Ts rm) {Post : Nat → Gm × Mm → Prop} {a : Array Value} (hr : RN f cells slots g I pc lv st0 st rmc (fun sz => va_Qr (S := Nat × Gm × Mm) (fun u => Post u.1 u.2) (fun u a t => a = u.1 ∧ WB (f_x f) (va_A (wd (f_x f) g I) sz) u.2 t) (va_A (wd (f_x f) g I) sz) a)) (hq : pc + 3 = q) (kk : ∀ (r : Nat) (u : Gm × Mm), Post r u → PW f (cells + rmc.cells) (slots + rmc.slots) u.1 u.2 q lv (.ref r :: st)) : PW f cells slots g I pc lv st0 := by
  subst hq
  intro H locs ls hP hD hS hl
  have hF := r_free hD hS hC.2.2.1
  refine va_callr (hr H locs ls hP hD hS hl) hS (fun z _ h => hF z h) hF (fun u ra t H1 locs1 ht hvm hw hB hz hk hS1 => ?_)
  obtain ⟨rfl, hP1, hD1⟩ := hB
  rw [ht] at hP1
  exact kk u.1 u.2 hw H1 locs1 ls hP1 (hD1.weaken (fun _ z _ h => hF z.1 h)) hS1 hl
/-- what a callee is: its words' head, its place, how many arguments -/
def CI (y : MethodName) (ws : List Cond) (bytes : ByteArray) (maxL : Nat) (ret : Option FieldType) (n : Nat) : Prop := (∃ ws', ws = Cond.code y bytes maxL ret :: ws') ∧ y.cls ≠ "java/lang/invoke/MethodHandle" ∧ y.cls ≠ "java/lang/invoke/VarHandle" ∧ (parseMethodDescriptor y.desc).map (fun d => d.parameters.length) = some n
theorem pre_ok (hC : Cx f cc nL own Ts rm) {H : Heap} (hP : va_P (f_x f).1 vwCl (wd (f_x f) g I) H) {A : Nat → Prop} (hD : va_D A (wd (f_x f) g I)) (av : List Value) : PreS (f_s f) H (va_Pc av (WD (f_x f) g I H.size)) av :=
  ⟨WD.blind _ _ _ _ _, fun U hU hW => ⟨rfl, by rw [hU], by rw [hU]; exact hP, va_K.moved hW.alike hC.2.1, hD.weaken (fun _ _ _ _ => trivial), EN.warm hW hC.2.2.2.1⟩⟩
variable {y : MethodName} {ws : List Cond} {bytes : ByteArray} {maxL n index : Nat} {ret : Option FieldType} {As : List Value} {Qc : Nat → Array Value → State → Outcome → State → Prop}
theorem a_V (hC : Cx f cc nL own Ts rm) {c k N : Nat} {C : String} {T : u_T} (hM : ∀ sz, Met (f_l f) y ws rmc (va_Pc (.ref (gA g c) :: As) (WD (f_x f) g I sz)) (Qc sz) rmc.cells rmc.slots (va_A (wd (f_x f) g I) sz)) (hI : CI y ws bytes maxL ret n) (hG : GoodIn Ts (wsV own index C y ws)) (hy : y.cls = C) (hR : rmc.frames + 1 ≤ rm.frames ∧ 8 + (maxL + 11) + rmc.locals ≤ rm.locals) (hf : cells + rmc.cells ≤ rm.cells ∧ slots + rmc.slots ≤ rm.slots) (hcl : vwCl[k]? = some (C, T, N)) (hk9 : k < 11) (hc : c ∈ gC g) (hk : gK g c = k) (hn : As.length = n) (hst : st0 = As.reverse ++ .ref (gA g c) :: st) (hW : (st.map fun v => v.category).sum ≤ 8) (hd : decode cc pc = .ok (.invokevirtual index, 3)) : RN f cells slots g I pc lv st0 st rmc (fun sz => Qc sz (Value.ref (gA g c) :: As).toArray) := by
  obtain ⟨⟨ws', hw⟩, h1, h2, h3⟩ := hI
  intro H locs ls hP hD hS hl
  obtain ⟨p0, hp⟩ := wd_at (f_x f) I hc
  rw [en_o (f_x f) I hk hk9] at hp
  have hpre := pre_ok hC hP hD (.ref (gA g c) :: As)
  exact va_runV (As := As) (rest := st) hC.1 (hM H.size) (cwV n hC.1.2.2.2.2 hG hw rfl rfl ⟨hy, h1, h2, h3⟩ (by rw [hC.2.2.2.2.1]; exact hR)) ⟨hpre.1, va_recv hC.2.1 hP hcl hp, hpre.2⟩ rfl hn (hl.1.trans hC.2.2.2.2.2) hst (lv_room hW) hd (by rw [hC.2.2.2.2.1]; exact hf)
theorem a_U (hC : Cx f cc nL own Ts rm) {c k N : Nat} {C owner : String} {T : u_T} {x : MethodName} (hM : ∀ sz, Met (f_l f) y ws rmc (va_Pc (.ref (gA g c) :: As) (WD (f_x f) g I sz)) (Qc sz) rmc.cells rmc.slots (va_A (wd (f_x f) g I) sz)) (hI : CI y ws bytes maxL ret n) (hG : GoodIn Ts (va_wsU own index C owner x y ws)) (hyx : y = ⟨owner, x.name, x.desc⟩) (hR : rmc.frames + 1 ≤ rm.frames ∧ 8 + (maxL + 11) + rmc.locals ≤ rm.locals) (hf : cells + rmc.cells ≤ rm.cells ∧ slots + rmc.slots ≤ rm.slots) (hcl : vwCl[k]? = some (C, T, N)) (hk9 : k < 11) (hc : c ∈ gC g) (hk : gK g c = k) (hn : As.length = n) (hst : st0 = As.reverse ++ .ref (gA g c) :: st) (hW : (st.map fun v => v.category).sum ≤ 8) (hd : decode cc pc = .ok (.invokevirtual index, 3)) : RN f cells slots g I pc lv st0 st rmc (fun sz => Qc sz (Value.ref (gA g c) :: As).toArray) := by
  obtain ⟨⟨ws', hw⟩, h1, h2, h3⟩ := hI
  intro H locs ls hP hD hS hl
  obtain ⟨p0, hp⟩ := wd_at (f_x f) I hc
  rw [en_o (f_x f) I hk hk9] at hp
  have hpre := pre_ok hC hP hD (.ref (gA g c) :: As)
  have e1 : y.cls = owner := by rw [hyx]
  have e2 : y.desc = x.desc := by rw [hyx]
  exact va_runU (As := As) (rest := st) hC.1 (hM H.size) (va_cwU n hC.1.2.2.2.2 hG hw rfl rfl hyx ⟨by rw [← e1]; exact h1, by rw [← e1]; exact h2, by rw [← e2]; exact h3⟩ (by rw [hC.2.2.2.2.1]; exact hR)) ⟨hpre.1, va_recv hC.2.1 hP hcl hp, hpre.2⟩ rfl hn (hl.1.trans hC.2.2.2.2.2) hst (lv_room hW) hd (by rw [hC.2.2.2.2.1]; exact hf)
theorem a_O (hC : Cx f cc nL own Ts rm) {c k N : Nat} {C owner : String} {T : u_T} {x : MethodName} {b0 : ByteArray} {m0 : Nat} {r0 : Option FieldType} (hM : ∀ sz, Met (f_l f) y ws rmc (va_Pc (.ref (gA g c) :: As) (WD (f_x f) g I sz)) (Qc sz) rmc.cells rmc.slots (va_A (wd (f_x f) g I) sz)) (hI : CI y ws bytes maxL ret n) (hG : GoodIn Ts (va_wsO own index C owner x y ws)) (h0 : Cond.code ⟨owner, x.name, x.desc⟩ b0 m0 r0 ∈ Ts) (ho : owner ≠ "java/lang/invoke/MethodHandle" ∧ owner ≠ "java/lang/invoke/VarHandle") (hdx : y.desc = x.desc) (hR : rmc.frames + 1 ≤ rm.frames ∧ 8 + (maxL + 11) + rmc.locals ≤ rm.locals) (hf : cells + rmc.cells ≤ rm.cells ∧ slots + rmc.slots ≤ rm.slots) (hcl : vwCl[k]? = some (C, T, N)) (hk9 : k < 11) (hc : c ∈ gC g) (hk : gK g c = k) (hn : As.length = n) (hst : st0 = As.reverse ++ .ref (gA g c) :: st) (hW : (st.map fun v => v.category).sum ≤ 8) (hd : decode cc pc = .ok (.invokevirtual index, 3)) : RN f cells slots g I pc lv st0 st rmc (fun sz => Qc sz (Value.ref (gA g c) :: As).toArray) := by
  obtain ⟨⟨ws', hw⟩, h1, h2, h3⟩ := hI
  intro H locs ls hP hD hS hl
  obtain ⟨p0, hp⟩ := wd_at (f_x f) I hc
  rw [en_o (f_x f) I hk hk9] at hp
  have hpre := pre_ok hC hP hD (.ref (gA g c) :: As)
  exact va_runU (As := As) (rest := st) hC.1 (hM H.size) (va_cwO n hC.1.2.2.2.2 hG hw rfl rfl h0 ⟨ho.1, ho.2, by rw [← hdx]; exact h3⟩ (by rw [hC.2.2.2.2.1]; exact hR)) ⟨hpre.1, va_recv hC.2.1 hP hcl hp, hpre.2⟩ rfl hn (hl.1.trans hC.2.2.2.2.2) hst (lv_room hW) hd (by rw [hC.2.2.2.2.1]; exact hf)
theorem a_S (hC : Cx f cc nL own Ts rm) (hM : ∀ sz, Met (f_l f) y ws rmc (va_Pc As (WD (f_x f) g I sz)) (Qc sz) rmc.cells rmc.slots (va_A (wd (f_x f) g I) sz)) (hI : CI y ws bytes maxL ret n) (hG : GoodIn Ts (va_wsS own index y ws)) (hR : rmc.frames + 1 ≤ rm.frames ∧ 8 + (maxL + 11) + rmc.locals ≤ rm.locals) (hf : cells + rmc.cells ≤ rm.cells ∧ slots + rmc.slots ≤ rm.slots) (hn : As.length = n) (hst : st0 = As.reverse ++ st) (hW : (st.map fun v => v.category).sum ≤ 8) (hd : decode cc pc = .ok (.invokestatic index, 3)) : RN f cells slots g I pc lv st0 st rmc (fun sz => Qc sz As.toArray) := by
  obtain ⟨⟨ws', hw⟩, h1, h2, h3⟩ := hI
  intro H locs ls hP hD hS hl
  exact va_runS (As := As) (rest := st) hC.1 (hM H.size) (va_cwS n hC.1.2.2.2.2 hG hw rfl rfl ⟨h1, h2, h3⟩ (by rw [hC.2.2.2.2.1]; exact hR)) (pre_ok hC hP hD As) rfl hn (hl.1.trans hC.2.2.2.2.2) hst (lv_room hW) hd (by rw [hC.2.2.2.2.1]; exact hf)
theorem a_SN (hC : Cx f cc nL own Ts rm) {host : String} (hM : ∀ sz, Met (f_l f) y ws rmc (va_Pc As (WD (f_x f) g I sz)) (Qc sz) rmc.cells rmc.slots (va_A (wd (f_x f) g I) sz)) (hI : CI y ws bytes maxL ret n) (hG : GoodIn Ts ws) (hl1 : (own, index, y, host) ∈ nwL) (w1 : Cond.initialized y.cls ∈ Ts) (w2 : Cond.static y ∈ Ts) (hR : rmc.frames + 1 ≤ rm.frames ∧ 8 + (maxL + 11) + rmc.locals ≤ rm.locals) (hf : cells + rmc.cells ≤ rm.cells ∧ slots + rmc.slots ≤ rm.slots) (hn : As.length = n) (hst : st0 = As.reverse ++ st) (hW : (st.map fun v => v.category).sum ≤ 8) (hd : decode cc pc = .ok (.invokestatic index, 3)) : RN f cells slots g I pc lv st0 st rmc (fun sz => Qc sz As.toArray) := by
  obtain ⟨⟨ws', hw⟩, h1, h2, h3⟩ := hI
  intro H locs ls hP hD hS hl
  exact va_runSN (As := As) (rest := st) hC.1 (hM H.size) ⟨va_cnB n hC.1.2.2.2.2 hG hw rfl rfl (hC.2.2.2.1.1 _ hl1) (hC.1.2.2.2.2 _ w1) ⟨h1, h2, h3⟩ (by rw [hC.2.2.2.2.1]; exact hR), hC.1.2.2.2.2 _ w2, trivial⟩ (pre_ok hC hP hD As) rfl hn (hl.1.trans hC.2.2.2.2.2) hst (lv_room hW) hd (by rw [hC.2.2.2.2.1]; exact hf)
theorem a_SU (hC : Cx f cc nL own Ts rm) {c k N : Nat} {C : String} {T : u_T} (hM : ∀ sz, Met (f_l f) y ws rmc (va_Pc (.ref (gA g c) :: As) (WD (f_x f) g I sz)) (Qc sz) rmc.cells rmc.slots (va_A (wd (f_x f) g I) sz)) (hI : CI y ws bytes maxL ret n) (hG : GoodIn Ts (va_wsSU own index y ws)) (hyn : y.name ≠ "<init>") (hR : rmc.frames + 1 ≤ rm.frames ∧ 8 + (maxL + 11) + rmc.locals ≤ rm.locals) (hf : cells + rmc.cells ≤ rm.cells ∧ slots + rmc.slots ≤ rm.slots) (hcl : vwCl[k]? = some (C, T, N)) (hk9 : k < 11) (hc : c ∈ gC g) (hk : gK g c = k) (hn : As.length = n) (hst : st0 = As.reverse ++ .ref (gA g c) :: st) (hW : (st.map fun v => v.category).sum ≤ 8) (hd : decode cc pc = .ok (.invokespecial index, 3)) : RN f cells slots g I pc lv st0 st rmc (fun sz => Qc sz (Value.ref (gA g c) :: As).toArray) := by
  obtain ⟨⟨ws', hw⟩, h1, h2, h3⟩ := hI
  intro H locs ls hP hD hS hl
  obtain ⟨p0, hp⟩ := wd_at (f_x f) I hc
  rw [en_o (f_x f) I hk hk9] at hp
  have hpre := pre_ok hC hP hD (.ref (gA g c) :: As)
  exact va_runSU (As := As) (rest := st) (hC.2.1.1 k _ hcl).2 hC.1 (hM H.size) (va_cwSU n hC.1.2.2.2.2 hG hw rfl rfl ⟨hyn, h3⟩ (by rw [hC.2.2.2.2.1]; exact hR)) ⟨hpre.1, va_recv hC.2.1 hP hcl hp, hpre.2⟩ rfl hn (hl.1.trans hC.2.2.2.2.2) hst (lv_room hW) hd (by rw [hC.2.2.2.2.1]; exact hf)
/-- RETURNS: what a method's own end wants -/
def RtI (f : Fx) (cc : ByteArray) (Post : Int32 → Gm × Mm → Prop) : Prop := ∀ (g : Gm) (I : Mm) (pc : Nat) (lv : List (Nat × Value)) (r : Int32), decode cc pc = .ok (.ireturn, 1) → Post r (g, I) → PW f (f_R f).cells (f_R f).slots g I pc lv [.int r]
def RtZ (f : Fx) (cc : ByteArray) (Post : Int32 → Gm × Mm → Prop) : Prop := ∀ (g : Gm) (I : Mm) (pc : Nat) (lv : List (Nat × Value)) (r : Int32), decode cc pc = .ok (.ireturn, 1) → narrow .boolean (.int r) = .int r → Post r (g, I) → PW f (f_R f).cells (f_R f).slots g I pc lv [.int r]
def RtL (f : Fx) (cc : ByteArray) (Post : Int64 → Gm × Mm → Prop) : Prop := ∀ (g : Gm) (I : Mm) (pc : Nat) (lv : List (Nat × Value)) (r : Int64), decode cc pc = .ok (.lreturn, 1) → Post r (g, I) → PW f (f_R f).cells (f_R f).slots g I pc lv [.long r]
def RtV (f : Fx) (cc : ByteArray) (Post : Gm × Mm → Prop) : Prop := ∀ (g : Gm) (I : Mm) (pc : Nat) (lv : List (Nat × Value)), decode cc pc = .ok (.return_, 1) → Post (g, I) → PW f (f_R f).cells (f_R f).slots g I pc lv []
def RtR (f : Fx) (cc : ByteArray) (Post : Nat → Gm × Mm → Prop) : Prop := ∀ (g : Gm) (I : Mm) (pc : Nat) (lv : List (Nat × Value)) (r : Nat), decode cc pc = .ok (.areturn, 1) → Post r (g, I) → PW f (f_R f).cells (f_R f).slots g I pc lv [.ref r]
end PWC
section PWM
variable {l : Launch} {x : Gx} {y : MethodName} {ws ws' : List Cond} {rm : Room} {g : Gm} {I : Mm} {av : List Value} {cc : ByteArray} {maxL : Nat} {own : String}
theorem K_body {ret : Option FieldType} {Qc : Nat → Array Value → State → Outcome → State → Prop} (hy : plainName y.cls = true) (hw : ws = Cond.code y cc maxL ret :: ws') (ho : y.cls = own) (hm : (lg_sl av).length ≤ maxL)
    (body : ∀ (f : Fx) (sz : Nat), Cx f cc maxL own ws rm → f_l f = l → f_x f = x → f_M f = f_M f → (f_M f).sig.returnType = ret → (f_M f).locks = false → f_a f = av.toArray → f_A f = va_A (wd x g I) sz → f_Q f = MQ (f_b f) (Qc sz) (f_a f) (f_s f) rm.cells rm.slots (va_A (wd x g I) sz) → PW f 0 0 g I 0 (lv_args 0 av) []) : ∀ sz, Met l y ws rm (va_Pc av (WD x g I sz)) (Qc sz) rm.cells rm.slots (va_A (wd x g I) sz) := by
  intro sz
  refine Met.ofW (cc := cc) (maxL := maxL) (ret := ret) hy hw ?_
  intro p e s m args below meth c s₁ B hml hv
  obtain ⟨rfl, hsz, hP, hK, hD0, hE⟩ := hv
  have hown : s.vm.findClass own = some m.cls := by rw [← ho]; exact findClass_of_methodNamed B.named
  subst hsz
  have hA : ∀ q : Nat, s.heap.size ≤ q → va_A (wd x g I) s.heap.size q := fun q h => Or.inr h
  have hl := lv_entry av (n := maxL) hm
  rw [lg_entry_eq]
  exact body (p, l, e, (headSpec ws rm).room, s, m, av.toArray, below, meth, c, maxL, va_A (wd x g I) s.heap.size, x, MQ below (Qc s.heap.size) av.toArray s rm.cells rm.slots (va_A (wd x g I) s.heap.size)) s.heap.size ⟨⟨B.exec, B.bytes, hml, hown, atoms_spec (ws := ws) B.pre⟩, hK, hA, hE, rfl, rfl⟩ rfl rfl rfl B.returns B.notSynchronized rfl rfl rfl s.heap [] _ hP hD0.self va_S.rf hl
theorem KI_of {Post : Int32 → Gm × Mm → Prop} (hy : plainName y.cls = true) (hw : ws = Cond.code y cc maxL (some .int) :: ws') (ho : y.cls = own) (hm : (lg_sl av).length ≤ maxL) (body : ∀ f : Fx, Cx f cc maxL own ws rm → f_l f = l → f_x f = x → RtI f cc Post → PW f 0 0 g I 0 (lv_args 0 av) []) : KI l x y ws rm g I av Post := by
  refine K_body (ret := some .int) hy hw ho hm (fun f sz hC hl hx _ hr hk ha hA hQ => body f hC hl hx ?_)
  intro g' I' pc lv r hd hp H locs ls hP hD hS hlv
  rw [hC.2.2.2.2.1]
  show W _ _ _ _ _ _ _ _ _ _ _ _ _ _ (f_Q f) _
  rw [hQ]
  refine W.iret hC.1.1 hC.1.2.1 hr (fun t ht hW => ?_) (fun q hq => by rw [← hA]; exact hS.2.2 q hq) hd hk
  exact ⟨⟨r, (g', I'), rfl, hp, by rw [ht, ← hx]; exact hP, by rw [← hA, ← hx]; exact hD⟩, by rw [← hA]; exact hS.F ht⟩
theorem KZ_of {Post : Int32 → Gm × Mm → Prop} (hy : plainName y.cls = true) (hw : ws = Cond.code y cc maxL (some .boolean) :: ws') (ho : y.cls = own) (hm : (lg_sl av).length ≤ maxL) (body : ∀ f : Fx, Cx f cc maxL own ws rm → f_l f = l → f_x f = x → RtZ f cc Post → PW f 0 0 g I 0 (lv_args 0 av) []) : KI l x y ws rm g I av Post := by
  refine K_body (ret := some .boolean) hy hw ho hm (fun f sz hC hl hx _ hr hk ha hA hQ => body f hC hl hx ?_)
  intro g' I' pc lv r hd hn hp H locs ls hP hD hS hlv
  rw [hC.2.2.2.2.1]
  show W _ _ _ _ _ _ _ _ _ _ _ _ _ _ (f_Q f) _
  rw [hQ]
  refine W.zret hC.1.1 hC.1.2.1 hr hn (fun t ht hW => ?_) (fun q hq => by rw [← hA]; exact hS.2.2 q hq) hd hk
  exact ⟨⟨r, (g', I'), rfl, hp, by rw [ht, ← hx]; exact hP, by rw [← hA, ← hx]; exact hD⟩, by rw [← hA]; exact hS.F ht⟩
theorem KL_of {Post : Int64 → Gm × Mm → Prop} (hy : plainName y.cls = true) (hw : ws = Cond.code y cc maxL (some .long) :: ws') (ho : y.cls = own) (hm : (lg_sl av).length ≤ maxL) (body : ∀ f : Fx, Cx f cc maxL own ws rm → f_l f = l → f_x f = x → RtL f cc Post → PW f 0 0 g I 0 (lv_args 0 av) []) : KL l x y ws rm g I av Post := by
  refine K_body (ret := some .long) hy hw ho hm (fun f sz hC hl hx _ hr hk ha hA hQ => body f hC hl hx ?_)
  intro g' I' pc lv r hd hp H locs ls hP hD hS hlv
  rw [hC.2.2.2.2.1]
  show W _ _ _ _ _ _ _ _ _ _ _ _ _ _ (f_Q f) _
  rw [hQ]
  refine W.lret hC.1.1 hC.1.2.1 hr (fun t ht hW => ?_) (fun q hq => by rw [← hA]; exact hS.2.2 q hq) hd hk
  exact ⟨⟨r, (g', I'), rfl, hp, by rw [ht, ← hx]; exact hP, by rw [← hA, ← hx]; exact hD⟩, by rw [← hA]; exact hS.F ht⟩
theorem KV_of {Post : Gm × Mm → Prop} (hy : plainName y.cls = true) (hw : ws = Cond.code y cc maxL none :: ws') (ho : y.cls = own) (hm : (lg_sl av).length ≤ maxL) (body : ∀ f : Fx, Cx f cc maxL own ws rm → f_l f = l → f_x f = x → RtV f cc Post → PW f 0 0 g I 0 (lv_args 0 av) []) : KV l x y ws rm g I av Post := by
  refine K_body (ret := none) hy hw ho hm (fun f sz hC hl hx _ hr hk ha hA hQ => body f hC hl hx ?_)
  intro g' I' pc lv hd hp H locs ls hP hD hS hlv
  rw [hC.2.2.2.2.1]
  show W _ _ _ _ _ _ _ _ _ _ _ _ _ _ (f_Q f) _
  rw [hQ]
  refine W.vret hC.1.1 hC.1.2.1 hr (fun t ht hW => ?_) (fun q hq => by rw [← hA]; exact hS.2.2 q hq) hd hk
  exact ⟨⟨(g', I'), rfl, hp, by rw [ht, ← hx]; exact hP, by rw [← hA, ← hx]; exact hD⟩, by rw [← hA]; exact hS.F ht⟩
theorem KR_of {Post : Nat → Gm × Mm → Prop} {nm : String} (hy : plainName y.cls = true) (hw : ws = Cond.code y cc maxL (some (.object nm)) :: ws') (ho : y.cls = own) (hm : (lg_sl av).length ≤ maxL) (body : ∀ f : Fx, Cx f cc maxL own ws rm → f_l f = l → f_x f = x → RtR f cc Post → PW f 0 0 g I 0 (lv_args 0 av) []) : KR l x y ws rm g I av Post := by
  refine K_body (ret := some (.object nm)) hy hw ho hm (fun f sz hC hl hx _ hr hk ha hA hQ => body f hC hl hx ?_)
  intro g' I' pc lv r hd hp H locs ls hP hD hS hlv
  rw [hC.2.2.2.2.1]
  show W _ _ _ _ _ _ _ _ _ _ _ _ _ _ (f_Q f) _
  rw [hQ]
  refine W.aret hC.1.1 hC.1.2.1 hr (Or.inl ⟨_, rfl⟩) (Or.inr ⟨_, rfl⟩) (fun t ht hW => ?_) (fun q hq => by rw [← hA]; exact hS.2.2 q hq) hd hk
  exact ⟨⟨(r, g', I'), r, rfl, hp, rfl, by rw [ht, ← hx]; exact hP, by rw [← hA, ← hx]; exact hD⟩, by rw [← hA]; exact hS.F ht⟩
end PWM
