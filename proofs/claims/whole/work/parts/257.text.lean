/-! THE TEXT OF A ROOM, code by code: where one is (0 .. 5), desks so far, the kind just read, asks so far -/
abbrev TS : Type := Nat × List (Nat × Nat) × Nat × List Nat
def kdO (c : Int32) : Option Nat := if c = 113 then some 0 else if c = 99 then some 1 else if c = 114 then some 2 else none
def tst (s : TS) (c : Int32) : Option TS :=
  if s.1 = 0 then (if c = 100 then some (1, s.2) else none)
  else if s.1 = 1 then (if c = 59 then some (2, s.2) else none)
  else if s.1 = 2 then (match kdO c with | none => none | some k => some (3, s.2.1, k, s.2.2.2))
  else if s.1 = 3 then (if InR c 49 54 then some (4, s.2.1 ++ [(s.2.2.1, (c - 48).toNatClampNeg)], s.2.2.1, s.2.2.2) else none)
  else if s.1 = 4 then (if c = 59 then (if s.2.1.length < 4 then some (2, s.2) else none) else if c = 44 then some (5, s.2) else none)
  else (if s.2.2.2.length < 24 ∧ InR (c - 97) 0 8 then some (5, s.2.1, s.2.2.1, s.2.2.2 ++ [(c - 97).toNatClampNeg]) else none)
def trn (c : Nat → Int32) : Nat → Nat → TS → Option (List (Nat × Nat) × List Nat) × Nat
  | 0, j, s => if s.1 = 5 ∧ 0 < s.2.2.2.length then (some (s.2.1, s.2.2.2), j) else (none, j)
  | n + 1, j, s => match tst s (c j) with
    | none => (none, j)
    | some s' => trn c n (j + 1) s'
/-- what always holds while reading -/
def tok (s : TS) : Prop := s.1 ≤ 5 ∧ s.2.1.length ≤ 4 ∧ (s.1 < 4 → s.2.1.length < 4) ∧ (s.1 ≤ 1 → s.2.1 = []) ∧ (4 ≤ s.1 → 0 < s.2.1.length) ∧ (∀ q ∈ s.2.1, q.1 < 3 ∧ 1 ≤ q.2 ∧ q.2 ≤ 5) ∧ s.2.2.1 < 3 ∧ s.2.2.2.length ≤ 24 ∧ (∀ p ∈ s.2.2.2, p < 8) ∧ (s.1 < 5 → s.2.2.2 = [])
theorem kdO_lt {c : Int32} {k : Nat} (h : kdO c = some k) : k < 3 := by
  unfold kdO at h
  repeat' split at h
  all_goals first | (have := Option.some.inj h; omega) | exact absurd h (by simp)
theorem c48 {c : Int32} : InR (c - 48) 1 6 ↔ InR c 49 54 := by
  have h1 := Int32.toInt_sub c 48
  have h48 : (48 : Int32).toInt = 48 := by decide
  rw [h48] at h1
  have hb1 := Int32.le_toInt c
  have hb2 := Int32.toInt_lt c
  rw [Int.bmod_def] at h1
  constructor
  · rintro ⟨a, b⟩
    rw [h1] at a b
    split at a <;> split at b <;> constructor <;> omega
  · rintro ⟨a, b⟩
    rw [show (2 : Nat) ^ 32 = 4294967296 from rfl] at h1
    constructor <;> rw [h1] <;> split <;> omega
theorem c48n {c : Int32} (h : InR c 49 54) : 1 ≤ (c - 48).toNatClampNeg ∧ (c - 48).toNatClampNeg ≤ 5 ∧ c - 48 = nI (c - 48).toNatClampNeg := by
  obtain ⟨e, a, b⟩ := (c48.mpr h).n (by decide)
  exact ⟨a, by omega, e⟩
theorem tst_ok {s s' : TS} {c : Int32} (hs : tok s) (h : tst s c = some s') : tok s' := by
  obtain ⟨a, D, k, P⟩ := s
  obtain ⟨h1, h2, h3, h4, h5, h6, h7, h8, h9, h10⟩ := hs
  dsimp only at h1 h2 h3 h4 h5 h6 h7 h8 h9 h10
  unfold tst at h
  dsimp only at h
  by_cases e0 : a = 0
  · rw [if_pos e0] at h
    subst e0
    split at h
    · rw [← Option.some.inj h]; exact ⟨by show 1 ≤ 5; decide, h2, fun _ => h3 (by decide), fun _ => h4 (by decide), fun q => absurd q (by show ¬ 4 ≤ 1; decide), h6, h7, h8, h9, fun _ => h10 (by decide)⟩
    · exact absurd h (by simp)
  rw [if_neg e0] at h
  by_cases e1 : a = 1
  · rw [if_pos e1] at h
    subst e1
    split at h
    · rw [← Option.some.inj h]; exact ⟨by show 2 ≤ 5; decide, h2, fun _ => h3 (by decide), fun q => absurd q (by show ¬ 2 ≤ 1; decide), fun q => absurd q (by show ¬ 4 ≤ 2; decide), h6, h7, h8, h9, fun _ => h10 (by decide)⟩
    · exact absurd h (by simp)
  rw [if_neg e1] at h
  by_cases e2 : a = 2
  · rw [if_pos e2] at h
    subst e2
    cases hk : kdO c with
    | none => rw [hk] at h; exact absurd h (by simp)
    | some k' =>
      rw [hk] at h
      rw [← Option.some.inj h]; exact ⟨by show 3 ≤ 5; decide, h2, fun _ => h3 (by decide), fun q => absurd q (by show ¬ 3 ≤ 1; decide), fun q => absurd q (by show ¬ 4 ≤ 3; decide), h6, kdO_lt hk, h8, h9, fun _ => h10 (by decide)⟩
  rw [if_neg e2] at h
  by_cases e3 : a = 3
  · rw [if_pos e3] at h
    subst e3
    split at h
    · rename_i hc
      obtain ⟨c1, c5, -⟩ := c48n hc
      have := h3 (by decide)
      rw [← Option.some.inj h]
      refine ⟨by show 4 ≤ 5; decide, by show (D ++ _).length ≤ 4; simp; omega, fun q => absurd q (by show ¬ 4 < 4; decide), fun q => absurd q (by show ¬ 4 ≤ 1; decide), fun _ => by show 0 < (D ++ _).length; simp, fun q hq => ?_, h7, h8, h9, fun _ => h10 (by decide)⟩
      rcases List.mem_append.mp hq with hq | hq
      · exact h6 q hq
      · rw [List.mem_singleton.mp hq]; exact ⟨h7, c1, c5⟩
    · exact absurd h (by simp)
  rw [if_neg e3] at h
  by_cases e4 : a = 4
  · rw [if_pos e4] at h
    subst e4
    split at h
    · split at h
      · rename_i hlt
        rw [← Option.some.inj h]
        exact ⟨by show 2 ≤ 5; decide, h2, fun _ => hlt, fun q => absurd q (by show ¬ 2 ≤ 1; decide), fun q => absurd q (by show ¬ 4 ≤ 2; decide), h6, h7, h8, h9, fun _ => h10 (by decide)⟩
      · exact absurd h (by simp)
    · split at h
      · rw [← Option.some.inj h]
        exact ⟨by show 5 ≤ 5; decide, h2, fun q => absurd q (by show ¬ 5 < 4; decide), fun q => absurd q (by show ¬ 5 ≤ 1; decide), fun _ => h5 (by decide), h6, h7, h8, h9, fun q => absurd q (by show ¬ 5 < 5; decide)⟩
      · exact absurd h (by simp)
  rw [if_neg e4] at h
  have e5 : a = 5 := by omega
  subst e5
  split at h
  · rename_i hc
    rw [← Option.some.inj h]
    refine ⟨by show 5 ≤ 5; decide, h2, fun q => absurd q (by show ¬ 5 < 4; decide), fun q => absurd q (by show ¬ 5 ≤ 1; decide), fun _ => h5 (by decide), h6, h7, by show (P ++ _).length ≤ 24; simp; omega, fun p hp => ?_, fun q => absurd q (by show ¬ 5 < 5; decide)⟩
    rcases List.mem_append.mp hp with hp | hp
    · exact h9 p hp
    · rw [List.mem_singleton.mp hp]; exact (hc.2.n (by decide)).2.2
  · exact absurd h (by simp)
theorem trn_ok {c : Nat → Int32} : ∀ n j s D P e, tok s → trn c n j s = (some (D, P), e) → 0 < D.length ∧ D.length ≤ 4 ∧ (∀ q ∈ D, q.1 < 3 ∧ 1 ≤ q.2 ∧ q.2 ≤ 5) ∧ 0 < P.length ∧ P.length ≤ 24 ∧ ∀ p ∈ P, p < 8 := by
  intro n
  induction n with
  | zero =>
    intro j s D P e hs h
    simp only [trn] at h
    split at h
    · rename_i hc
      have h := (Prod.mk.inj h).1
      have h := Prod.mk.inj (Option.some.inj h)
      obtain ⟨h1, h2, h3, h4, h5, h6, h7, h8, h9, h10⟩ := hs
      rw [← h.1, ← h.2]
      exact ⟨h5 (by omega), h2, h6, hc.2, h8, h9⟩
    · exact absurd (Prod.mk.inj h).1 (by simp)
  | succ n ih =>
    intro j s D P e hs h
    simp only [trn] at h
    cases hq : tst s (c j) with
    | none => rw [hq] at h; exact absurd (Prod.mk.inj h).1 (by simp)
    | some s' => rw [hq] at h; exact ih (j + 1) s' D P e (tst_ok hs hq) h
theorem trn_e {c : Nat → Int32} : ∀ n j s, (trn c n j s).2 ≤ j + n := by
  intro n
  induction n with
  | zero =>
    intro j s
    simp only [trn]
    split <;> exact Nat.le_refl _
  | succ n ih =>
    intro j s
    simp only [trn]
    cases hq : tst s (c j) with
    | none => exact Nat.le_add_right _ _
    | some s' => have := ih (j + 1) s'; show (trn c n (j + 1) s').2 ≤ _; omega
/-- rows of desks -/
def arD (A B : Nat → Int32) (D : List (Nat × Nat)) : Prop := ∀ j, j < D.length → A j = nI (D.getD j (0, 0)).1 ∧ B j = nI (D.getD j (0, 0)).2
theorem arD_push {A B : Nat → Int32} {D : List (Nat × Nat)} (h : arD A B D) {k f : Nat} (hk : A D.length = nI k) : arD A (upd B D.length (nI f)) (D ++ [(k, f)]) := by
  intro j hj
  rw [List.length_append, List.length_singleton] at hj
  by_cases q : j = D.length
  · subst q; rw [upd_s]; simp [List.getD_eq_getElem?_getD, hk]
  · rw [upd_n _ _ q]
    have := h j (by omega)
    rw [this.1, this.2]
    have e : (D ++ [(k, f)]).getD j (0, 0) = D.getD j (0, 0) := by
      simp [List.getD_eq_getElem?_getD, List.getElem?_append_left (show j < D.length by omega)]
    rw [e]; exact ⟨rfl, rfl⟩
theorem arD_k {A B : Nat → Int32} {D : List (Nat × Nat)} {v : Int32} (h : arD A B D) : arD (upd A D.length v) B D := by
  intro j hj
  rw [upd_n _ _ (by omega)]; exact h j hj
/-- the class's text -/
def rT (I : Mm) (s : TS) : Prop := I 2 5 = nI s.1 ∧ I 2 3 = nI s.2.1.length ∧ I 2 4 = nI s.2.2.2.length ∧ arD (I 3) (I 4) s.2.1 ∧ (s.1 = 3 → I 3 s.2.1.length = nI s.2.2.1) ∧ ar (I 5) s.2.2.2
def TX (I J : Mm) : Prop := ∀ c, c ≠ 2 → c ≠ 3 → c ≠ 4 → c ≠ 5 → J c = I c
theorem TX.rf {I : Mm} : TX I I := fun _ _ _ _ _ => rfl
theorem TX.tr {I J K : Mm} (h1 : TX I J) (h2 : TX J K) : TX I K := fun c a b d e => (h2 c a b d e).trans (h1 c a b d e)
theorem TX.up {I : Mm} {c j : Nat} {v : Int32} (h : c = 2 ∨ c = 3 ∨ c = 4 ∨ c = 5) : TX I (up2 I c j v) := fun d a b e f => up2_oc (by omega)
theorem TX.sc {I J : Mm} (h : TX I J) : SC I J := fun c hc => h c (fun e => hc (by subst e; decide)) (fun e => hc (by subst e; decide)) (fun e => hc (by subst e; decide)) (fun e => hc (by subst e; decide))
section TXT
variable {I : Mm} {x y w : Int32} {Post : Int32 → Mm → Prop}
theorem w_goesTo {a : Int32} {b : Int32} (hb : b = 0 ∨ b = 1) (h : Post b (up2 I 2 5 a)) : wp_X7_goesTo a b I Post := by
  unfold wp_X7_goesTo
  exact ⟨hb, h⟩
theorem rT_at {s : TS} {a : Nat} (h : rT I s) (ha : a ≠ 3) : rT (up2 I 2 5 (nI a)) (a, s.2) := by
  obtain ⟨h1, h2, h3, h4, h5, h6⟩ := h
  refine ⟨by rw [up2_c, upd_s], by rw [up2_c, upd_n _ _ (by decide)]; exact h2, by rw [up2_c, upd_n _ _ (by decide)]; exact h3, by rw [up2_oc (by decide), up2_oc (by decide)]; exact h4, fun e => absurd e ha, by rw [up2_oc (by decide)]; exact h6⟩
theorem w_goesOn {s : TS} {c : Int32} (hs : tok s) (hr : rT I s) (hT : ∀ s' I', TX I I' → tst s c = some s' → rT I' s' → Post 1 I') (hF : ∀ I', TX I I' → tst s c = none → Post 0 I') : wp_X7_goesOn c I Post := by
  obtain ⟨a, D, k, P⟩ := s
  obtain ⟨r1, r2, r3, r4, r5, r6⟩ := id hr
  obtain ⟨h1, h2, h3, h4, h5, h6, h7, h8, h9, h10⟩ := id hs
  dsimp only at r1 r2 r3 r4 r5 r6 h1 h2 h3 h4 h5 h6 h7 h8 h9 h10
  unfold tst at hT hF
  dsimp only at hT hF
  unfold wp_X7_goesOn
  rw [r1]
  refine t_eq a 0 rfl rfl (by omega) (by decide) (fun e => ?_) (fun e0 => ?_)
  · subst e
    simp only [if_pos] at hT hF
    unfold wp_X7_goesOn_53
    refine t_if (fun hc => ?_) (fun hc => ?_)
    · refine w_goesTo (Or.inr rfl) ⟨Or.inr rfl, ?_⟩
      exact hT _ _ (TX.up (Or.inl rfl)) (by rw [if_pos hc]) (rT_at (a := 1) hr (by decide))
    · refine w_goesTo (Or.inl rfl) ⟨Or.inl rfl, ?_⟩
      exact hF _ (TX.up (Or.inl rfl)) (by rw [if_neg hc])
  simp only [if_neg e0] at hT hF
  refine t_eq a 1 rfl rfl (by omega) (by decide) (fun e => ?_) (fun e1 => ?_)
  · subst e
    simp only [if_pos] at hT hF
    unfold wp_X7_goesOn_70
    refine t_if (fun hc => ?_) (fun hc => ?_)
    · refine w_goesTo (Or.inr rfl) ⟨Or.inr rfl, ?_⟩
      exact hT _ _ (TX.up (Or.inl rfl)) (by rw [if_pos hc]) (rT_at (a := 2) hr (by decide))
    · refine w_goesTo (Or.inl rfl) ⟨Or.inl rfl, ?_⟩
      exact hF _ (TX.up (Or.inl rfl)) (by rw [if_neg hc])
  simp only [if_neg e1] at hT hF
  refine t_eq a 2 rfl rfl (by omega) (by decide) (fun e => ?_) (fun e2 => ?_)
  · subst e
    simp only [if_pos] at hT hF
    have hlt := h3 (by decide)
    have vin : vp_in (I 2 3) 4 := vp_n r2 hlt (by decide)
    have cl3 : (I 2 3).toNatClampNeg = D.length := cl_n r2 (by omega)
    have kk : ∀ k', k' < 3 → kdO c = some k' → wp_X7_takesKind_32 (fun r1 J2 => (r1 = 0 ∨ r1 = 1) ∧ Post r1 J2) (nI k') I := by
      intro k' hk' hkd
      unfold wp_X7_takesKind_32
      refine ⟨vin, ?_⟩
      rw [cl3, if_neg (by
        intro e
        have := congrArg Int32.toInt e
        rw [nI_toInt (by omega)] at this
        have h9 : (-9 : Int32).toInt = -9 := by decide
        omega)]
      unfold wp_X7_takesKind_56
      refine w_goesTo (Or.inr rfl) ⟨Or.inr rfl, Or.inr rfl, ?_⟩
      refine hT (3, D, k', P) _ ((TX.up (Or.inr (Or.inl rfl))).tr (TX.up (Or.inl rfl))) (by rw [hkd]) ?_
      refine ⟨by rw [up2_c, upd_s]; rfl, by rw [up2_c, upd_n _ _ (by decide), up2_oc (by decide)]; exact r2, by rw [up2_c, upd_n _ _ (by decide), up2_oc (by decide)]; exact r3, ?_, fun _ => ?_, by rw [up2_oc (by decide), up2_oc (by decide)]; exact r6⟩
      · rw [up2_oc (by decide), up2_c, up2_oc (by decide), up2_oc (by decide)]
        exact arD_k r4
      · show up2 (up2 I 3 D.length (nI k')) 2 5 3 3 D.length = nI k'
        rw [up2_oc (by decide), up2_c, upd_s]
    unfold wp_X7_takesKind
    refine t_if (fun hc => kk 0 (by decide) (by unfold kdO; rw [if_pos hc])) (fun hc => t_if (fun hc2 => kk 1 (by decide) (by unfold kdO; rw [if_neg hc, if_pos hc2])) (fun hc2 => t_if (fun hc3 => kk 2 (by decide) (by unfold kdO; rw [if_neg hc, if_neg hc2, if_pos hc3])) (fun hc3 => ?_)))
    have hkd : kdO c = none := by unfold kdO; rw [if_neg hc, if_neg hc2, if_neg hc3]
    unfold wp_X7_takesKind_32
    refine ⟨vin, ?_⟩
    rw [if_pos rfl]
    unfold wp_X7_takesKind_56
    refine w_goesTo (Or.inl rfl) ⟨Or.inl rfl, Or.inl rfl, ?_⟩
    exact hF _ ((TX.up (Or.inr (Or.inl rfl))).tr (TX.up (Or.inl rfl))) (by rw [hkd])
  simp only [if_neg e2] at hT hF
  refine t_eq a 3 rfl rfl (by omega) (by decide) (fun e => ?_) (fun e3 => ?_)
  · subst e
    simp only [if_pos] at hT hF
    have hlt := h3 (by decide)
    have vin : vp_in (I 2 3) 4 := vp_n r2 hlt (by decide)
    have cl3 : (I 2 3).toNatClampNeg = D.length := cl_n r2 (by omega)
    unfold wp_X7_takesFrames
    refine ⟨vin, ?_⟩
    rw [cl3]
    refine w9 (a := 49) (b := 54) (by decide) (by decide) ?_
    have tx : TX I (up2 (up2 (up2 I 4 D.length (c - 48)) 2 3 (up2 I 4 D.length (c - 48) 2 3 + 1)) 2 5 4) := ((TX.up (Or.inr (Or.inr (Or.inl rfl)))).tr (TX.up (Or.inl rfl))).tr (TX.up (Or.inl rfl))
    by_cases hc : InR c 49 54
    · rw [if_pos hc]
      refine w_goesTo (Or.inr rfl) ⟨Or.inr rfl, Or.inr rfl, ?_⟩
      refine hT (4, D ++ [(k, (c - 48).toNatClampNeg)], k, P) _ tx (by rw [if_pos hc]) ?_
      obtain ⟨-, -, ec⟩ := c48n hc
      refine ⟨by rw [up2_c, upd_s]; rfl, ?_, ?_, ?_, fun q => absurd q (by show ¬ 4 = 3; decide), ?_⟩
      · rw [up2_c, upd_n _ _ (by decide), up2_c, upd_s, up2_oc (by decide), r2, nI_1]
        show nI _ = nI (D ++ _).length
        rw [List.length_append, List.length_singleton]
      · rw [up2_c, upd_n _ _ (by decide), up2_c, upd_n _ _ (by decide), up2_oc (by decide)]; exact r3
      · rw [up2_oc (by decide), up2_oc (by decide), up2_oc (by decide), up2_oc (by decide), up2_oc (by decide), up2_c]
        have := arD_push (f := (c - 48).toNatClampNeg) r4 (r5 rfl)
        rw [← ec] at this; exact this
      · rw [up2_oc (by decide), up2_oc (by decide), up2_oc (by decide)]; exact r6
    · rw [if_neg hc]
      refine w_goesTo (Or.inl rfl) ⟨Or.inl rfl, Or.inl rfl, ?_⟩
      exact hF _ tx (by rw [if_neg hc])
  simp only [if_neg e3] at hT hF
  refine t_eq a 4 rfl rfl (by omega) (by decide) (fun e => ?_) (fun e4 => ?_)
  · subst e
    simp only [if_pos] at hT hF
    unfold wp_X7_goesBehindDesk
    refine t_if (fun hc => ?_) (fun hc => ?_)
    · simp only [if_pos hc] at hT hF
      rw [r2]
      refine t_le 4 D.length rfl rfl (by decide) (by omega) (fun hd => ?_) (fun hd => ?_)
      · unfold wp_X7_goesBehindDesk_21
        refine w_goesTo (Or.inl rfl) ⟨Or.inl rfl, Or.inl rfl, ?_⟩
        exact hF _ (TX.up (Or.inl rfl)) (by rw [if_neg (by omega)])
      · unfold wp_X7_goesBehindDesk_21
        refine w_goesTo (Or.inr rfl) ⟨Or.inr rfl, Or.inr rfl, ?_⟩
        exact hT _ _ (TX.up (Or.inl rfl)) (by rw [if_pos hd]) (rT_at (a := 2) hr (by decide))
    · simp only [if_neg hc] at hT hF
      refine t_if (fun hc2 => ?_) (fun hc2 => ?_)
      · unfold wp_X7_goesBehindDesk_38
        refine w_goesTo (Or.inr rfl) ⟨Or.inr rfl, Or.inr rfl, ?_⟩
        exact hT _ _ (TX.up (Or.inl rfl)) (by rw [if_pos hc2]) (rT_at (a := 5) hr (by decide))
      · unfold wp_X7_goesBehindDesk_38
        refine w_goesTo (Or.inl rfl) ⟨Or.inl rfl, Or.inl rfl, ?_⟩
        exact hF _ (TX.up (Or.inl rfl)) (by rw [if_neg hc2])
  simp only [if_neg e4] at hT hF
  have e5 : a = 5 := by omega
  subst e5
  unfold wp_X7_takesAsk
  rw [r3]
  refine t_le 24 P.length rfl rfl (by decide) (by omega) (fun hp => ?_) (fun hp => ?_)
  · exact ⟨Or.inl rfl, hF _ TX.rf (by rw [if_neg (by omega)])⟩
  · refine w_page ?_
    rw [ite01]
    refine t_if (fun hc => ?_) (fun hc => ?_)
    · obtain ⟨ec, -, c8⟩ := hc.n (by decide)
      refine ⟨vp_n r3 hp (by decide), Or.inr rfl, ?_⟩
      rw [cl_n r3 (by omega)]
      refine hT (5, D, k, P ++ [(c - 97).toNatClampNeg]) _ ((TX.up (Or.inr (Or.inr (Or.inr rfl)))).tr (TX.up (Or.inl rfl))) (by rw [if_pos ⟨hp, hc⟩]) ?_
      refine ⟨?_, ?_, ?_, ?_, fun q => absurd q (by show ¬ 5 = 3; decide), ?_⟩
      · rw [up2_c, upd_n _ _ (by decide), up2_oc (by decide)]; exact r1
      · rw [up2_c, upd_n _ _ (by decide), up2_oc (by decide)]; exact r2
      · rw [up2_c, upd_s, up2_oc (by decide), r3, nI_1]
        show nI _ = nI (P ++ _).length
        rw [List.length_append, List.length_singleton]
      · rw [up2_oc (by decide), up2_oc (by decide), up2_oc (by decide), up2_oc (by decide)]; exact r4
      · rw [up2_oc (by decide), up2_c]
        have := ar_push r6 (c - 97).toNatClampNeg
        rw [← ec] at this; exact this
    · exact ⟨Or.inl rfl, hF _ TX.rf (by rw [if_neg (fun hh => hc hh.2)])⟩
theorem w_firstFault {r a m : Nat} {c : Nat → Int32} (hr : r + 4 ≠ 2 ∧ r + 4 ≠ 3 ∧ r + 4 ≠ 4 ∧ r + 4 ≠ 5) (hc : ∀ j, j < m → I (r + 4) (a + j) = c j) (ham : a + m ≤ 60) (hT : ∀ I' D P e, TX I I' → trn c m 0 (0, [], 0, []) = (some (D, P), e) → I' 2 3 = nI D.length → I' 2 4 = nI P.length → arD (I' 3) (I' 4) D → ar (I' 5) P → Post (-1) I') (hF : ∀ I' e, TX I I' → trn c m 0 (0, [], 0, []) = (none, e) → Post (nI e) I') : wp_X7_firstFault r (nI a) (nI m) I Post := by
  unfold wp_X7_firstFault
  have key : ∀ n j s (J : Mm), j + n = m → TX I J → tok s → rT J s → trn c m 0 (0, [], 0, []) = trn c n j s → wp_X7_firstFault_18 r (fun x3 I => wp_X7_firstFault_49 r Post x3 I) Post (n + 1) (nI a) (nI m) (nI j) J := by
    intro n
    induction n with
    | zero =>
      intro j s J hj ht hs hrT htr
      unfold wp_X7_firstFault_18
      refine t_le m j rfl rfl (by omega) (by omega) (fun _ => ?_) (fun q => by omega)
      show wp_X7_firstFault_49 r Post (nI m) J
      unfold wp_X7_firstFault_49
      have hjm : j = m := by omega
      subst hjm
      simp only [trn] at htr
      obtain ⟨r1, r2, r3, r4, r5, r6⟩ := hrT
      obtain ⟨h1, h2, h3, h4, h5, h6, h7, h8, h9, h10⟩ := hs
      rw [r1, r3]
      refine t_eq s.1 5 rfl rfl (by omega) (by decide) (fun e5 => ?_) (fun e5 => ?_)
      · refine t_le s.2.2.2.length 0 rfl rfl (by omega) (by decide) (fun q => ?_) (fun q => ?_)
        · rw [if_neg (by omega)] at htr
          exact hF J _ ht htr
        · rw [if_pos ⟨e5, q⟩] at htr
          exact hT J _ _ _ ht htr r2 r3 r4 r6
      · rw [if_neg (fun hh => e5 hh.1)] at htr
        exact hF J _ ht htr
    | succ n ih =>
      intro j s J hj ht hs hrT htr
      unfold wp_X7_firstFault_18
      refine t_le m j rfl rfl (by omega) (by omega) (fun q => by omega) (fun hjm => ?_)
      rw [nI_add, nI_clamp (by omega)]
      refine ⟨vp_in_nI (by omega) (by decide), ?_⟩
      rw [ht (r + 4) hr.1 hr.2.1 hr.2.2.1 hr.2.2.2, hc j hjm]
      simp only [trn] at htr
      refine w_goesOn hs hrT (fun s' J' ht' hts hr' => ?_) (fun J' ht' hts => ?_)
      · rw [if_neg (by decide), show nI j + 1 = nI (j + 1) from nI_1 j]
        rw [hts] at htr
        exact ih (j + 1) s' J' (by omega) (ht.tr ht') (tst_ok hs hts) hr' htr
      · rw [if_pos rfl]
        rw [hts] at htr
        exact hF J' _ (ht.tr ht') htr
  refine ⟨_, key m 0 (0, [], 0, []) _ (by omega) (((TX.up (Or.inl rfl)).tr (TX.up (Or.inl rfl))).tr (TX.up (Or.inl rfl))) ?_ ?_ rfl⟩
  · exact ⟨by decide, by decide, fun _ => by decide, fun _ => rfl, fun q => absurd q (by decide), fun q hq => absurd hq List.not_mem_nil, by decide, by decide, fun p hp => absurd hp List.not_mem_nil, fun _ => rfl⟩
  · refine ⟨by rw [up2_c, upd_s]; rfl, by rw [up2_c, upd_n _ _ (by decide), up2_c, upd_n _ _ (by decide), up2_c, upd_s]; rfl, by rw [up2_c, upd_n _ _ (by decide), up2_c, upd_s]; rfl, fun j hj => absurd hj (Nat.not_lt_zero _), fun q => absurd q (by decide), fun j hj => absurd hj (Nat.not_lt_zero _)⟩
end TXT
