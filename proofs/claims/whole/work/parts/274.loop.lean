/-! THE LAW'S LOOP -/
def RtT (f : Fx) : Prop := ∀ (cells slots : Nat) (g : Gm) (I : Mm) (pc : Nat) (lv : List (Nat × Value)), cells ≤ 600000 → slots ≤ 7302249 → decode cL_law pc = .ok (.ireturn, 1) → PW f cells slots g I pc lv [.int 1]
theorem sub7 {n : Nat} (h : n ≤ 3584) : (nI n - 7).toInt = (n : Int) - 7 := by
  rw [Int32.toInt_sub, nI_toInt (by omega), show (7 : Int32).toInt = 7 from by decide]
  exact Int.bmod_eq_of_le (by omega) (by omega)
set_option maxRecDepth 20000 in
theorem L_call {f : Fx} {b L : Nat} {xs : Nat → Int32} {cells slots : Nat} {g : Gm} {I : Mm} {z : St} {i a1 a2 : Nat} (hX : Lx f b L xs) (hJ : JV a1 a2 z g I) (hi : i + 7 ≤ L) (h1 : cells + 8 ≤ 600000) (h2 : slots + 52 ≤ 7302249) {x : Int32} (kk : ∀ g' I' z', JV a1 a2 z' g' I' → PW f (cells + 8) (slots + 52) g' I' 1203 (lvL b a1 a2 i) []) : PW f cells slots g I 33 (lvL b a1 a2 i) [.int x] := by
  have hC := hX.1
  by_cases hx : x.toInt < 0 ∨ 32 < x.toInt
  · refine r_tabOut hC (tgt := 1203) dL_law_33 hx (by decide) ?_
    exact r_widen (by omega) (by omega) (kk g I z hJ)
  obtain ⟨v, hv, e⟩ : ∃ v : Nat, v ≤ 32 ∧ x = nI v := by
    obtain ⟨j, hj, e⟩ := nI_of (x := x) (fun h => hx (Or.inl (by have := Int32.lt_iff_toInt_lt.mp h; simpa using this)))
    refine ⟨j, ?_, e⟩
    rw [e, nI_toInt hj] at hx
    omega
  match v, hv, e with
  | 0, _, e => exact r_tabIn hC dL_law_33 e (0 : Int) (by decide) (by decide) (by decide) rfl (by decide) (L_room hX hJ hi h1 h2 kk)
  | 1, _, e => exact r_tabIn hC dL_law_33 e (1 : Int) (by decide) (by decide) (by decide) rfl (by decide) (L_ofDesk hX hJ hi h1 h2 kk)
  | 2, _, e => exact r_tabIn hC dL_law_33 e (2 : Int) (by decide) (by decide) (by decide) rfl (by decide) (L_lies hX hJ hi h1 h2 kk)
  | 3, _, e => exact r_tabIn hC dL_law_33 e (3 : Int) (by decide) (by decide) (by decide) rfl (by decide) (L_line hX hJ hi h1 h2 kk)
  | 4, _, e => exact r_tabIn hC dL_law_33 e (4 : Int) (by decide) (by decide) (by decide) rfl (by decide) (L_build hX hJ hi h1 h2 kk)
  | 5, _, e => exact r_tabIn hC dL_law_33 e (5 : Int) (by decide) (by decide) (by decide) rfl (by decide) (L_come hX hJ hi h1 h2 kk)
  | 6, _, e => exact r_tabIn hC dL_law_33 e (6 : Int) (by decide) (by decide) (by decide) rfl (by decide) (L_anew hX hJ hi h1 h2 kk)
  | 7, _, e => exact r_tabIn hC dL_law_33 e (7 : Int) (by decide) (by decide) (by decide) rfl (by decide) (L_ask hX hJ hi h1 h2 kk)
  | 8, _, e => exact r_tabIn hC dL_law_33 e (8 : Int) (by decide) (by decide) (by decide) rfl (by decide) (L_drop hX hJ hi h1 h2 kk)
  | 9, _, e => exact r_tabIn hC dL_law_33 e (9 : Int) (by decide) (by decide) (by decide) rfl (by decide) (L_tale hX hJ hi h1 h2 kk)
  | 10, _, e => exact r_tabIn hC dL_law_33 e (10 : Int) (by decide) (by decide) (by decide) rfl (by decide) (L_misses hX hJ hi h1 h2 kk)
  | 11, _, e => exact r_tabIn hC dL_law_33 e (11 : Int) (by decide) (by decide) (by decide) rfl (by decide) (L_odd hX hJ hi h1 h2 kk)
  | 12, _, e => exact r_tabIn hC dL_law_33 e (12 : Int) (by decide) (by decide) (by decide) rfl (by decide) (L_need hX hJ hi h1 h2 kk)
  | 13, _, e => exact r_tabIn hC dL_law_33 e (13 : Int) (by decide) (by decide) (by decide) rfl (by decide) (L_fewest hX hJ hi h1 h2 kk)
  | 14, _, e => exact r_tabIn hC dL_law_33 e (14 : Int) (by decide) (by decide) (by decide) rfl (by decide) (L_latest hX hJ hi h1 h2 kk)
  | 15, _, e => exact r_tabIn hC dL_law_33 e (15 : Int) (by decide) (by decide) (by decide) rfl (by decide) (L_depth hX hJ hi h1 h2 kk)
  | 16, _, e => exact r_tabIn hC dL_law_33 e (16 : Int) (by decide) (by decide) (by decide) rfl (by decide) (L_work hX hJ hi h1 h2 kk)
  | 17, _, e => exact r_tabIn hC dL_law_33 e (17 : Int) (by decide) (by decide) (by decide) rfl (by decide) (L_reading hX hJ hi h1 h2 kk)
  | 18, _, e => exact r_tabIn hC dL_law_33 e (18 : Int) (by decide) (by decide) (by decide) rfl (by decide) (L_back hX hJ hi h1 h2 kk)
  | 19, _, e => exact r_tabIn hC dL_law_33 e (19 : Int) (by decide) (by decide) (by decide) rfl (by decide) (L_sizes hX hJ hi h1 h2 kk)
  | 20, _, e => exact r_tabIn hC dL_law_33 e (20 : Int) (by decide) (by decide) (by decide) rfl (by decide) (L_kinds hX hJ hi h1 h2 kk)
  | 21, _, e => exact r_tabIn hC dL_law_33 e (21 : Int) (by decide) (by decide) (by decide) rfl (by decide) (L_odds hX hJ hi h1 h2 kk)
  | 22, _, e => exact r_tabIn hC dL_law_33 e (22 : Int) (by decide) (by decide) (by decide) rfl (by decide) (L_sheet hX hJ hi h1 h2 kk)
  | 23, _, e => exact r_tabIn hC dL_law_33 e (23 : Int) (by decide) (by decide) (by decide) rfl (by decide) (L_lose hX hJ hi h1 h2 kk)
  | 24, _, e => exact r_tabIn hC dL_law_33 e (24 : Int) (by decide) (by decide) (by decide) rfl (by decide) (L_put hX hJ hi h1 h2 kk)
  | 25, _, e => exact r_tabIn hC dL_law_33 e (25 : Int) (by decide) (by decide) (by decide) rfl (by decide) (L_cell hX hJ hi h1 h2 kk)
  | 26, _, e => exact r_tabIn hC dL_law_33 e (26 : Int) (by decide) (by decide) (by decide) rfl (by decide) (L_copy hX hJ hi h1 h2 kk)
  | 27, _, e => exact r_tabIn hC dL_law_33 e (27 : Int) (by decide) (by decide) (by decide) rfl (by decide) (L_tell hX hJ hi h1 h2 kk)
  | 28, _, e => exact r_tabIn hC dL_law_33 e (28 : Int) (by decide) (by decide) (by decide) rfl (by decide) (L_tally hX hJ hi h1 h2 kk)
  | 29, _, e => exact r_tabIn hC dL_law_33 e (29 : Int) (by decide) (by decide) (by decide) rfl (by decide) (L_as hX hJ hi h1 h2 kk)
  | 30, _, e => exact r_tabIn hC dL_law_33 e (30 : Int) (by decide) (by decide) (by decide) rfl (by decide) (L_trace hX hJ hi h1 h2 kk)
  | 31, _, e => exact r_tabIn hC dL_law_33 e (31 : Int) (by decide) (by decide) (by decide) rfl (by decide) (L_fault hX hJ hi h1 h2 kk)
  | 32, _, e => exact r_tabIn hC dL_law_33 e (32 : Int) (by decide) (by decide) (by decide) rfl (by decide) (L_many hX hJ hi h1 h2 kk)
  | n + 33, h, _ => exact absurd h (by omega)
set_option maxRecDepth 20000 in
theorem L_loop {f : Fx} {b L : Nat} {xs : Nat → Int32} {a1 a2 : Nat} (hX : Lx f b L xs) (hR : RtT f) : ∀ (n t : Nat) (g : Gm) (I : Mm) (z : St), L < 7 * t + 7 * n → 7 * t ≤ L → JV a1 a2 z g I → PW f (48 + 8 * t) (1378 + 52 * t) g I 18 (lvL b a1 a2 (7 * t)) [] := by
  intro n
  induction n with
  | zero => intro t g I z h1 h2 _; omega
  | succ n ih =>
    intro t g I z hn ht hJ
    have hC := hX.1
    have hL := hX.2.2.2.2
    refine r_iload_n hC dL_law_18 rfl rfl (j := 0) rfl ?_
    refine r_aload_n hC dL_law_19 rfl rfl (j := 3) rfl ?_
    refine s_len hX dL_law_20 rfl ?_
    refine r_bipush hC (v := (7 : Int32)) dL_law_21 rfl (by decide) ?_
    refine r_isub hC dL_law_23 rfl ?_
    have hcmp : nI L - 7 < nI (7 * t) ↔ L < 7 * t + 7 := by
      rw [Int32.lt_iff_toInt_lt, sub7 hL, nI_toInt (by omega)]
      omega
    by_cases h7 : 7 * t + 7 ≤ L
    · refine r_icmp_gt hC (tgt := 1209) (P1 := False) (P2 := True) dL_law_24 rfl (by decide) (by rw [if_neg (fun h => absurd (hcmp.mp h) (by omega))]; trivial) (fun h => h.elim) (fun _ => ?_)
      refine r_aload_n hC dL_law_27 rfl rfl (j := 3) rfl ?_
      refine r_iload_n hC dL_law_28 rfl rfl (j := 0) rfl ?_
      refine s_ld hX dL_law_29 rfl (vp_in_nI (by omega) (by omega)) ?_
      refine r_bipush hC (v := (63 : Int32)) dL_law_30 rfl (by decide) ?_
      refine r_iand hC dL_law_32 rfl ?_
      refine L_call hX hJ h7 (by omega) (by omega) (fun g' I' z' hJ' => ?_)
      refine r_iinc hC (k := 7) (lv' := [(3, .int (nI (7 * t) + 7)), (2, .ref a2), (1, .ref a1), (0, .ref b)]) dL_law_1203 rfl (j := 0) rfl (by decide) (by decide) rfl ?_
      refine r_goto hC (tgt := 18) dL_law_1206 (by decide) ?_
      have := ih (t + 1) g' I' z' (by omega) (by omega) hJ'
      rw [show nI (7 * t) + 7 = nI (7 * (t + 1)) from nI_add (7 * t) 7, show 48 + 8 * t + 8 = 48 + 8 * (t + 1) by omega, show 1378 + 52 * t + 52 = 1378 + 52 * (t + 1) by omega]
      exact this
    · refine r_icmp_gt hC (tgt := 1209) (P1 := True) (P2 := False) dL_law_24 rfl (by decide) (by rw [if_pos (hcmp.mpr (by omega))]; trivial) (fun _ => ?_) (fun h => h.elim)
      refine r_iconst hC (v := (1 : Int32)) dL_law_1209 rfl (by decide) ?_
      exact hR _ _ _ _ _ _ (by omega) (by omega) dL_law_1210
/-! the law's start -/
theorem uw_L9 : ∀ w ∈ u_ws RX9 TX9 11, w ∈ wsL_law := fun w h => (gL_law_X9_init w (uw_X9_init_9 w h)).1
theorem uw_L10 : ∀ w ∈ u_ws RX10 TX10 30, w ∈ wsL_law := fun w h => (gL_law_X10_init w (uw_X10_init_10 w h)).1
set_option maxRecDepth 20000 in
theorem L_start {f : Fx} {b L : Nat} {xs : Nat → Int32} {g : Gm} {I : Mm} (hX : Lx f b L xs) (hR : RtT f) (hg : gC g = []) : PW f 0 0 g I 0 [(0, .ref b)] [] := by
  have hC := hX.1
  have hs0 : Sh g [] := ⟨hg, fun e he => absurd he List.not_mem_nil⟩
  have hv0 : Vi I [] [] := fun c hc => absurd hc List.not_mem_nil
  refine n_new hC (k := 9) (ty := tyX9) (0) dL_law_0 rfl (hs0.n (c := 0) (by decide)) rfl (by decide) rfl uw_L9 tyX9_ok dfX9 (List.mem_of_getElem? (i := 0) rfl) (List.mem_of_getElem? (i := 1) rfl) (List.mem_of_getElem? (i := 2) rfl) (Nat.le_of_ble_eq_true rfl) (Nat.le_of_ble_eq_true rfl) (fun a1 => ?_)
  have hs1 : Sh (gAdd g 0 a1 9 0) s9_S1 := hs0.add (by decide) (fun e he => absurd he List.not_mem_nil) rfl
  have hv1 : Vi (iAdd I 0) (s9_S1.map (fun e => e.1)) [] := Vi.add (c := 0) hv0 (fun e he => absurd he List.not_mem_nil)
  have t0 : gA (gAdd g 0 a1 9 0) 0 = a1 := gA_s
  generalize gAdd g 0 a1 9 0 = g1 at *
  generalize iAdd I 0 = I1 at *
  refine r_dup hC dL_law_3 rfl rfl ?_
  refine r_endV hC (rmc := rm_X9_init) (n_I hC (c_X9_init t0 hs1 hv1) ci_X9_init gL_law_X9_init (List.mem_of_getElem? (i := 6) rfl) (List.mem_of_getElem? (i := 2) rfl) (List.mem_of_getElem? (i := 7) rfl) rfl ⟨(Nat.le_of_ble_eq_true rfl), (Nat.le_of_ble_eq_true rfl)⟩ ⟨(Nat.le_of_ble_eq_true rfl), (Nat.le_of_ble_eq_true rfl)⟩ rfl rfl (Nat.le_of_ble_eq_true rfl) dL_law_4) rfl (fun u hu => ?_)
  obtain ⟨g2, I2⟩ := u
  obtain ⟨t0, hs2, hv2⟩ := hu
  dsimp only at t0 hs2 hv2 ⊢
  refine r_astore_n hC (lv' := [(1, .ref a1), (0, .ref b)]) dL_law_7 rfl rfl (by decide) rfl ?_
  refine n_new hC (k := 10) (ty := tyX10) (100) dL_law_8 rfl (hs2.n (c := 100) (by decide)) rfl (by decide) rfl uw_L10 tyX10_ok dfX10 (List.mem_of_getElem? (i := 3) rfl) (List.mem_of_getElem? (i := 4) rfl) (List.mem_of_getElem? (i := 5) rfl) (Nat.le_of_ble_eq_true rfl) (Nat.le_of_ble_eq_true rfl) (fun a2 => ?_)
  have hs3 : Sh (gAdd g2 100 a2 10 0) s10_S1 := hs2.add (by decide) (by decide) rfl
  have hv3 : Vi (iAdd I2 100) (s10_S1.map (fun e => e.1)) s9_W := Vi.add (c := 100) hv2 (by decide)
  have t0 : gA (gAdd g2 100 a2 10 0) 0 = a1 := gA_ne t0 (by decide)
  have t100 : gA (gAdd g2 100 a2 10 0) 100 = a2 := gA_s
  generalize gAdd g2 100 a2 10 0 = g3 at *
  generalize iAdd I2 100 = I3 at *
  refine r_dup hC dL_law_11 rfl rfl ?_
  refine r_endV hC (rmc := rm_X10_init) (n_I hC (c_X10_init t100 t0 hs3 hv3) ci_X10_init gL_law_X10_init (List.mem_of_getElem? (i := 88) rfl) (List.mem_of_getElem? (i := 5) rfl) (List.mem_of_getElem? (i := 89) rfl) rfl ⟨(Nat.le_of_ble_eq_true rfl), (Nat.le_of_ble_eq_true rfl)⟩ ⟨(Nat.le_of_ble_eq_true rfl), (Nat.le_of_ble_eq_true rfl)⟩ rfl rfl (Nat.le_of_ble_eq_true rfl) dL_law_12) rfl (fun u hu => ?_)
  obtain ⟨g4, I4⟩ := u
  obtain ⟨t100, t0, hs4, hv4⟩ := hu
  dsimp only at t0 t100 hs4 hv4 ⊢
  refine r_astore_n hC (lv' := [(2, .ref a2), (1, .ref a1), (0, .ref b)]) dL_law_15 rfl rfl (by decide) rfl ?_
  refine r_iconst hC (v := nI 0) dL_law_16 rfl (by decide) ?_
  refine r_istore_n hC (lv' := lvL b a1 a2 0) dL_law_17 rfl rfl (by decide) rfl ?_
  exact L_loop hX hR (L + 1) 0 g4 I4 z0 (by omega) (by omega) ⟨wf_z0, st_C hs4 hv4, st_N hv4, st_P hs4, st_M hs4, t0, t100⟩
