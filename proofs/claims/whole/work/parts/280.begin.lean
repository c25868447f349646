/-! THE CLAIM OUT OF ONE WALK OF THE LAW'S BODY. Your part is whole_start (and what it stands on); all else here is the same for every law, but numbers. -/
def R_law : String := "PageDesksLaw"
def lw_P (b : Addr) (xs : List Int32) (args : Array Value) (s : State) : Prop := args = #[.ref b] ∧ s.IntsAt b xs ∧ xs.length ≤ 3584 ∧ (Jvm.Cond.and given_1 narrow_1).before args s = true
def lw_Q (_ : Array Value) (s : State) (o : Outcome) (t : State) : Prop := o = .returned (some (.int 1)) ∧ Framed s o t [] 600000 7302249
def lw_Z (below : List Frame) (a : Array Value) (s : State) : State → Prop := fun t => ∃ o, t.status = .running ∧ Ended t below o ∧ lw_Q a s o t
/-- the law's own end, with 1 on the stack, nothing written that was there before, its room as the claim has it -/
theorem lw_ret {p : Program} {l : Launch} {e : Env} {s : State} {m : MethodId} {below : List Frame} {meth : Method} {c : Code} {b : Nat} (hx : p.tables.exec = Jvm.exec) (hb : c.code = code) (hr : meth.sig.returnType = ret) (hlocks : meth.locks = false) {pc : Nat} {H : Heap} {ls : Array Slot} (hdg : decode code pc = .ok (.ireturn, 1)) : W p l e room_1 s m #[Value.ref b] below meth c H [] 600000 7302249 (lw_Z below #[Value.ref b] s) (F0 m pc ls [.int 1]) := by
  intro T hT X
  obtain ⟨fs, hret, hrun, hended, hW, hframe⟩ := X.leave (v := some (.int 1)) (hlocks := hlocks) (fun h => by rw [hr] at h; cases h)
  have hmeth' : T.vm.method? m = some meth := X.method'
  refine ⟨T.setFrames fs, ?_, .returned (some (.int 1)), hrun, hended, rfl, ⟨_, rfl⟩, hW, hframe⟩
  jvm_step X.here [X.here.top, hx, hb, hdg, hmeth', hr, ret, narrow_b1]
  (try refine ⟨rfl, ?_⟩); (try refine ⟨rfl, ?_⟩)
  first | (intro acts; rw [hret _ acts rfl rfl rfl]) | rw [hret _ _ rfl rfl rfl]
  exact Steps.refl _
/-- what holds at the law's entry: the machine, the code, the tables' words (any of lw_tbl by 'hts w (by decide +kernel)'), the script of L ints xs at the cell b, what the Statement gives of the start (any of its parts by flat_of_before) -/
def lw_At (p : Program) (s : State) (m : MethodId) (meth : Method) (c : Code) (b L : Nat) (xs : Nat → Int32) : Prop :=
  p.tables.exec = Jvm.exec ∧ c.code = code ∧ meth.sig.returnType = ret ∧ c.maxLocals = 4 ∧ s.vm.findClass R_law = some m.cls ∧ (∀ w ∈ lw_tbl, w.before #[Value.ref b] s = true) ∧ va_X b L xs s s.heap ∧ b < s.heap.size ∧ meth.locks = false ∧ (Jvm.Cond.and given_1 narrow_1).before #[Value.ref b] s = true
theorem uw_L1 : ∀ w ∈ u_ws RX1 TX1 2, w ∈ wsL_law := fun w h => (gL_law_X9_init w (uw_X9_init_1 w h)).1
theorem uw_L2 : ∀ w ∈ u_ws RX2 TX2 2, w ∈ wsL_law := fun w h => (gL_law_X9_init w (uw_X9_init_2 w h)).1
theorem uw_L4 : ∀ w ∈ u_ws RX4 TX4 4, w ∈ wsL_law := fun w h => (gL_law_X9_init w (uw_X9_init_4 w h)).1
theorem uw_L6 : ∀ w ∈ u_ws RX6 TX6 3, w ∈ wsL_law := fun w h => (gL_law_X9_init w (uw_X9_init_6 w h)).1
theorem uw_L7 : ∀ w ∈ u_ws RX7 TX7 6, w ∈ wsL_law := fun w h => (gL_law_X9_init w (uw_X9_init_7 w h)).1
theorem uw_L8 : ∀ w ∈ u_ws RX8 TX8 1, w ∈ wsL_law := fun w h => (gL_law_X9_init w (uw_X9_init_8 w h)).1
theorem uw_L0 : ∀ w ∈ u_ws RX0 TX0 5, w ∈ wsL_law := fun w h => (gL_law_X9_init w (gX9_init_X9_newDesk w (List.mem_append_right _ (uw_X9_newDesk_0 w h))).1).1
theorem uw_L3 : ∀ w ∈ u_ws RX3 TX3 5, w ∈ wsL_law := fun w h => (gL_law_X9_init w (gX9_init_X9_newDesk w (List.mem_append_right _ (uw_X9_newDesk_3 w h))).1).1
theorem uw_L5 : ∀ w ∈ u_ws RX5 TX5 5, w ∈ wsL_law := fun w h => (gL_law_X9_init w (gX9_init_X9_newDesk w (List.mem_append_right _ (uw_X9_newDesk_5 w h))).1).1
theorem wd_no {x : Gx} {g : Gm} {I : Mm} {k : Nat} {q : Nat × va_E} (hg : gC g = []) (h : (wd x g I)[k]? = some q) : False := by
  unfold wd at h
  rw [hg] at h
  simp at h
theorem lw_EN {args : Array Value} {s : State} (hts : ∀ w ∈ lw_tbl, w.before args s = true) (hgv : (Jvm.Cond.and given_1 narrow_1).before args s = true) : EN s := by
  have hn := flat_of_before _ hgv
  refine ⟨?_, va_Nw.of rfl (hts _ (tb_5 (List.mem_of_getElem? (i := 116) rfl))), va_Nw.of rfl (hts _ (tb_5 (List.mem_of_getElem? (i := 117) rfl))), va_Nw.of rfl (hts _ (tb_5 (List.mem_of_getElem? (i := 115) rfl))), va_Nc.of (hn _ (by decide +kernel)), va_Nc.of (hn _ (by decide +kernel)), va_Nc.of (hn _ (by decide +kernel)), va_AO.of (hts _ (tb_1 (List.mem_of_getElem? (i := 57) rfl))), va_AO.of (hts _ (tb_1 (List.mem_of_getElem? (i := 24) rfl)))⟩
  exact List.forall_mem_cons.mpr ⟨va_Nw.of rfl (hts _ (tb_1 (List.mem_of_getElem? (i := 27) rfl))), List.forall_mem_cons.mpr ⟨va_Nw.of rfl (hts _ (tb_1 (List.mem_of_getElem? (i := 60) rfl))), List.forall_mem_cons.mpr ⟨va_Nw.of rfl (hts _ (tb_1 (List.mem_of_getElem? (i := 77) rfl))), List.forall_mem_cons.mpr ⟨va_Nw.of rfl (hts _ (tb_1 (List.mem_of_getElem? (i := 92) rfl))), List.forall_mem_cons.mpr ⟨va_Nw.of rfl (hts _ (tb_1 (List.mem_of_getElem? (i := 112) rfl))), List.forall_mem_cons.mpr ⟨va_Nw.of rfl (hts _ (tb_1 (List.mem_of_getElem? (i := 122) rfl))), List.forall_mem_cons.mpr ⟨va_Nw.of rfl (hts _ (tb_1 (List.mem_of_getElem? (i := 144) rfl))), List.forall_mem_cons.mpr ⟨va_Nw.of rfl (hts _ (tb_1 (List.mem_of_getElem? (i := 147) rfl))), List.forall_mem_cons.mpr ⟨va_Nw.of rfl (hts _ (tb_1 (List.mem_of_getElem? (i := 180) rfl))), List.forall_mem_cons.mpr ⟨va_Nw.of rfl (hts _ (tb_1 (List.mem_of_getElem? (i := 183) rfl))), List.forall_mem_cons.mpr ⟨va_Nw.of rfl (hts _ (tb_1 (List.mem_of_getElem? (i := 191) rfl))), List.forall_mem_cons.mpr ⟨va_Nw.of rfl (hts _ (tb_2 (List.mem_of_getElem? (i := 18) rfl))), List.forall_mem_cons.mpr ⟨va_Nw.of rfl (hts _ (tb_2 (List.mem_of_getElem? (i := 43) rfl))), List.forall_mem_cons.mpr ⟨va_Nw.of rfl (hts _ (tb_2 (List.mem_of_getElem? (i := 52) rfl))), List.forall_mem_cons.mpr ⟨va_Nw.of rfl (hts _ (tb_2 (List.mem_of_getElem? (i := 136) rfl))), fun _ h => absurd h List.not_mem_nil⟩⟩⟩⟩⟩⟩⟩⟩⟩⟩⟩⟩⟩⟩⟩
theorem lw_D {args : Array Value} {s : State} (hts : ∀ w ∈ lw_tbl, w.before args s = true) : ∃ D : va_G, ∀ (c : Nat) (q : vw_C), vwCl[c]? = some q → u_Kn s q.1 q.2.1 q.2.2 (D.1 c) (D.2 c) := by
  have ht : ∀ w ∈ wsL_law, w.before args s = true := fun w hw => hts w (wsL_law_in w hw)
  have hall : ∀ q ∈ vwCl, ∃ (cC : ClassId) (iS : Nat → Nat), u_Kn s q.1 q.2.1 q.2.2 cC iS := List.forall_mem_cons.mpr ⟨u_known ht uw_L0 (hts _ (tb_1 (List.mem_of_getElem? (i := 143) rfl))), List.forall_mem_cons.mpr ⟨u_known ht uw_L1 (hts _ (tb_1 (List.mem_of_getElem? (i := 76) rfl))), List.forall_mem_cons.mpr ⟨u_known ht uw_L2 (hts _ (tb_1 (List.mem_of_getElem? (i := 59) rfl))), List.forall_mem_cons.mpr ⟨u_known ht uw_L3 (hts _ (tb_1 (List.mem_of_getElem? (i := 190) rfl))), List.forall_mem_cons.mpr ⟨u_known ht uw_L4 (hts _ (tb_1 (List.mem_of_getElem? (i := 91) rfl))), List.forall_mem_cons.mpr ⟨u_known ht uw_L5 (hts _ (tb_1 (List.mem_of_getElem? (i := 179) rfl))), List.forall_mem_cons.mpr ⟨u_known ht uw_L6 (hts _ (tb_1 (List.mem_of_getElem? (i := 121) rfl))), List.forall_mem_cons.mpr ⟨u_known ht uw_L7 (hts _ (tb_1 (List.mem_of_getElem? (i := 26) rfl))), List.forall_mem_cons.mpr ⟨u_known ht uw_L8 (hts _ (tb_1 (List.mem_of_getElem? (i := 111) rfl))), List.forall_mem_cons.mpr ⟨u_known ht uw_L9 (hts _ (tb_1 (List.mem_of_getElem? (i := 16) rfl))), List.forall_mem_cons.mpr ⟨u_known ht uw_L10 (hts _ (tb_3 (List.mem_of_getElem? (i := 199) rfl))), fun _ h => absurd h List.not_mem_nil⟩⟩⟩⟩⟩⟩⟩⟩⟩⟩⟩
  have h0 : ∃ (cC : ClassId) (iS : Nat → Nat), u_Kn s RX0 TX0 5 cC iS := hall (RX0, TX0, 5) List.mem_cons_self
  obtain ⟨c0, i0, -⟩ := h0
  have hex : ∀ c : Nat, ∃ d : ClassId × (Nat → Nat), ∀ q : vw_C, vwCl[c]? = some q → u_Kn s q.1 q.2.1 q.2.2 d.1 d.2 := by
    intro c
    cases hc : vwCl[c]? with
    | none => exact ⟨(c0, i0), fun q h => by cases h⟩
    | some q0 =>
      obtain ⟨a, i, h⟩ := hall q0 (List.mem_of_getElem? hc)
      exact ⟨(a, i), fun q hq => by cases hq; exact h⟩
  obtain ⟨F, hF⟩ := Classical.axiomOfChoice hex
  exact ⟨(fun c => (F c).1, fun c => (F c).2), fun c q hq => hF c q hq⟩
theorem lw_arr {args : Array Value} {s : State} (hts : ∀ w ∈ lw_tbl, w.before args s = true) : ∃ cI cQ cS : ClassId, ∀ (k : Nat) (q : ClassId × FieldType), ([(cI, .int), (cQ, .object RX3), (cS, .object RX6)] : List (ClassId × FieldType))[k]? = some q → ArrOfT s q.1 q.2 ∧ va_RA s q.1 q.2 := by
  obtain ⟨cI, kI, compI, i1, i2, i3⟩ := Cond.arrayClass_spec (hts _ (tb_1 (List.mem_of_getElem? (i := 55) rfl)))
  obtain ⟨compQ, cQ, kQ, q1, q2, q3, q4, q5⟩ := Cond.arrayOver_spec (hts _ (tb_1 (List.mem_of_getElem? (i := 57) rfl)))
  obtain ⟨compS, cS, kS, s1, s2, s3, s4, s5⟩ := Cond.arrayOver_spec (hts _ (tb_1 (List.mem_of_getElem? (i := 24) rfl)))
  refine ⟨cI, cQ, cS, fun k q hk => ?_⟩
  match k, hk with
  | 0, hk =>
    cases hk
    exact ⟨fun n z => ⟨fun k h => (by cases h), kI, i2, compI, i3⟩, i1⟩
  | 1, hk =>
    cases hk
    exact ⟨fun n z => ⟨fun k h => (by cases h), kQ, q3, compQ, q4⟩, kQ, compQ, q3, q4, q1, q5⟩
  | 2, hk =>
    cases hk
    exact ⟨fun n z => ⟨fun k h => (by cases h), kS, s3, compS, s4⟩, kS, compS, s3, s4, s1, s5⟩
  | k + 3, hk => cases hk
theorem whole_start {p : Program} {e : Env} {s : State} {m : MethodId} {below : List Frame} {meth : Method} {c : Code} (l : Launch) (hflags : l.flags = flags0) {b L : Nat} {xs : Nat → Int32} (hL : L ≤ 3584) (C0 : lw_At p s m meth c b L xs) : W p l e room_1 s m #[Value.ref b] below meth c s.heap [] 0 0 (lw_Z below #[Value.ref b] s) (entryFrame m ([Value.ref b] : List Value).toArray 4) := by
  obtain ⟨hx, hb, hr, hml, hown, hts, hX, hbl, hlk, hgv⟩ := C0
  have ht : ∀ w ∈ wsL_law, w.before #[Value.ref b] s = true := fun w hw => hts w (wsL_law_in w hw)
  obtain ⟨D, hK1⟩ := lw_D hts
  obtain ⟨cI, cQ, cS, hK2⟩ := lw_arr hts
  have hE := lw_EN hts hgv
  have hK : va_K D vwCl (tyL (D, cI, cQ, cS)) s := ⟨hK1, hK2⟩
  have hl := lv_entry [Value.ref b] (n := 4) (Nat.le_of_ble_eq_true rfl)
  rw [lg_entry_eq]
  have hLx : Lx (p, l, e, room_1, s, m, #[Value.ref b], below, meth, c, 4, fun q => s.heap.size ≤ q, (D, cI, cQ, cS), lw_Z below #[Value.ref b] s) b L xs := ⟨⟨⟨hx, hb, hml, hown, ht⟩, hK, fun q h => h, hE, rfl, rfl⟩, hX, hbl, Nat.not_le.mpr hbl, hL⟩
  have hR : RtT (p, l, e, room_1, s, m, #[Value.ref b], below, meth, c, 4, fun q => s.heap.size ≤ q, (D, cI, cQ, cS), lw_Z below #[Value.ref b] s) := by
    intro cells slots g I pc lv h1 h2 hd H locs ls hP hD hS hlv
    exact va_forget (fun q hq => hS.2.2 q hq) (W.widen h1 h2 (lw_ret hx hb hr hlk hd))
  exact L_start (g := ([], fun _ => 0, fun _ => 0, fun _ => 0, fun _ _ => none)) (I := fun _ _ => 0) hLx hR rfl s.heap [] _ (fun k q h => (wd_no rfl h).elim) ⟨fun i j p q h => (wd_no rfl h).elim, fun k q h => (wd_no rfl h).elim⟩ va_S.rf hl
