theorem gR_put {g : Gm} {c j a i : Nat} : gR (gPut g c j a) c i = if i = j then some a else gR g c i := by
  show va_up (gR g) c (va_up (gR g c) j (some a)) c i = _
  rw [va_up_self]
  by_cases e : i = j
  · subst e; rw [va_up_self, if_pos rfl]
  · rw [va_up_ne _ _ e, if_neg e]
def FurnQ (g : Gm) (I : Mm) (D : List (Nat × Nat)) (P : List Nat) (u : Gm × Mm) : Prop := Kp g u.1 ∧ shP u.1 D.length ∧ (∀ k, k < D.length → gK u.1 (40 + k) = kc (D.getD k (0, 0)).1 ∧ rp (u.2 (40 + k)) (u.2 (40 + k + 20)) (D.getD k (0, 0)).2 ([], 0, 0)) ∧ (∀ c, oD c → c ≠ 0 → c ≠ 8 → c ≠ 9 → c ≠ 12 → u.2 c = I c) ∧ u.2 0 = upd (upd (I 0) 8 (nI D.length)) 9 0 ∧ u.2 8 1 = nI P.length ∧ ar (u.2 9) P ∧ u.2 12 3 = 0
theorem shD_new {g : Gm} {d r a k : Nat} (hk : k = 0 ∨ k = 3 ∨ k = 5) {j b : Nat} (h6 : d ≠ 6) : shD (gPut (gPut (gAdd (gAdd g d r k 0) (d + 20) a 11 8) d 0 a) 6 j b) [0, 3, 5] d := by
  have hK : gK (gPut (gPut (gAdd (gAdd g d r k 0) (d + 20) a 11 8) d 0 a) 6 j b) d = k := by
    show va_up (va_up (gK g) d k) (d + 20) 11 d = k
    rw [va_up_ne _ _ (by omega), va_up_self]
  refine ⟨⟨List.mem_append_left _ (List.mem_append_right _ (List.mem_singleton.mpr rfl)), ?_⟩, ⟨List.mem_append_right _ (List.mem_singleton.mpr rfl), ?_, ?_⟩, ?_⟩
  · rw [hK]; rcases hk with rfl | rfl | rfl <;> decide
  · show va_up _ (d + 20) 11 (d + 20) = 11
    rw [va_up_self]
  · show va_up _ (d + 20) 8 (d + 20) = 8
    rw [va_up_self]
  · show va_up (va_up _ d (va_up _ 0 (some a))) 6 _ d 0 = some (va_up _ (d + 20) a (d + 20))
    rw [va_up_ne _ _ h6, va_up_self, va_up_self, va_up_self]
set_option maxRecDepth 100000 in
set_option maxHeartbeats 4000000 in
theorem t_furnish {f : Fx} {g : Gm} {I : Mm} {nd : Nat} {D : List (Nat × Nat)} {P : List Nat} (hC : Cx f cX9_furnish 2 RX9 wsX9_furnish rm_X9_furnish) (hG0 : shP g nd) (h3 : I 2 3 = nI D.length) (h4 : I 2 4 = nI P.length) (hD : arD (I 3) (I 4) D) (hP : ar (I 5) P) (hd4 : D.length ≤ 4) (hdk : ∀ q ∈ D, q.1 < 3 ∧ 1 ≤ q.2 ∧ q.2 ≤ 5) (hp24 : P.length ≤ 24) (hR : RtV f cX9_furnish (FurnQ g I D P)) : ∀ n k (g' : Gm) (J : Mm), k + n = D.length → Kp g g' → shP g' k → (∀ j, k ≤ j → j < 4 → 40 + j ∉ gC g' ∧ 40 + j + 20 ∉ gC g') → (∀ j, j < k → gK g' (40 + j) = kc (D.getD j (0, 0)).1 ∧ rp (J (40 + j)) (J (40 + j + 20)) (D.getD j (0, 0)).2 ([], 0, 0)) → (∀ c, oD c → J c = up2 I 0 8 (nI D.length) c) → PW f (2 * k) (13 * k) g' J 13 [(1, .int (nI k)), (0, .ref (gA g' 0))] [] := by
  intro n
  induction n with
  | zero =>
    intro k g' J hk hK hG hfr hds hJ
    have o : ∀ c, c < 40 → oD c := fun c hc => by unfold oD; omega
    have e8 : J 0 8 = nI D.length := by rw [hJ 0 (o 0 (by decide)), up2_c, upd_s]
    refine r_iload_n hC dX9_furnish_13 rfl rfl (j := 0) rfl ?_
    refine r_aload_n hC dX9_furnish_14 rfl rfl (j := 1) rfl ?_
    refine r_getI hC dX9_furnish_15 rfl hG.o.1 hG.o.2 ffg_X9_furnish_99 ?_
    have hkD : k = D.length := by omega
    refine r_icmp_ge hC (tgt := 63) (P1 := True) (P2 := False) dX9_furnish_18 rfl (by decide) (by rw [e8]; exact t_le D.length k rfl rfl (by omega) (by omega) (fun _ => trivial) (fun q => by omega)) (fun _ => ?_) (fun h => h.elim)
    refine r_aload_n hC dX9_furnish_63 rfl rfl (j := 1) rfl ?_
    refine r_getR hC dX9_furnish_64 rfl hG.o.1 hG.o.2 ffg_X9_furnish_36 hG.r4 ?_
    refine r_aload_n hC dX9_furnish_67 rfl rfl (j := 1) rfl ?_
    refine r_getR hC dX9_furnish_68 rfl hG.o.1 hG.o.2 ffg_X9_furnish_20 hG.r1 ?_
    refine r_getR hC dX9_furnish_71 rfl hG.t.1.1 hG.t.1.2 ffg_X9_furnish_264 hG.t.2.2.2.2.2.2 ?_
    refine r_aload_n hC dX9_furnish_74 rfl rfl (j := 1) rfl ?_
    refine r_getR hC dX9_furnish_75 rfl hG.o.1 hG.o.2 ffg_X9_furnish_20 hG.r1 ?_
    refine r_getI hC dX9_furnish_78 rfl hG.t.1.1 hG.t.1.2 ffg_X9_furnish_265 ?_
    have e4 : J 2 4 = nI P.length := by rw [hJ 2 (o 2 (by decide)), up2_oc (by decide)]; exact h4
    rw [e4]
    have hbe : wp_X2_become (nI P.length) J (fun K => K = up2 (va_up J 9 (va_cpy (J 5) (J 9) 0 0 P.length)) 8 1 (nI P.length)) := by
      unfold wp_X2_become
      have hz : ¬ nI P.length < 0 := by
        rw [show (0 : Int32) = nI 0 from rfl, nI_ltI (by omega) (by decide)]; omega
      rw [nI_clamp (by omega)]
      exact ⟨⟨by decide, by decide, hz, by show 0 + P.length ≤ 24; omega, by show 0 + P.length ≤ 24; omega⟩, rfl⟩
    refine r_callV hC (rmc := rm_X2_become) (a_V hC (k := 2) (c_X2_become hG.n hG.t hbe) ci_X2_become gX9_furnish_X2_become rfl ⟨(Nat.le_of_ble_eq_true rfl), (Nat.le_of_ble_eq_true rfl)⟩ ⟨by show 2 * k + 0 ≤ 8; omega, by show 13 * k + 0 ≤ 52; omega⟩ rfl (by decide) hG.n.1.1 (List.mem_singleton.mp hG.n.1.2) rfl rfl (Nat.le_of_ble_eq_true rfl) dX9_furnish_81) ⟨rfl, rfl⟩ rfl (fun K hKe => ?_)
    subst hKe
    refine r_aload_n hC dX9_furnish_84 rfl rfl (j := 1) rfl ?_
    refine r_iconst hC (v := (0 : Int32)) dX9_furnish_85 rfl (by decide) ?_
    refine r_putI hC dX9_furnish_86 rfl hG.o.1 hG.o.2 ffp_X9_furnish_139 ?_
    refine r_aload_n hC dX9_furnish_89 rfl rfl (j := 1) rfl ?_
    refine r_getR hC dX9_furnish_90 rfl hG.o.1 hG.o.2 ffg_X9_furnish_50 hG.r6 ?_
    refine r_iconst hC (v := (0 : Int32)) dX9_furnish_93 rfl (by decide) ?_
    refine r_putI hC dX9_furnish_94 rfl hG.g.1.1 hG.g.1.2 ffp_X9_furnish_161 ?_
    refine n_retV hC hR (by show 2 * k ≤ 8; omega) (by show 13 * k ≤ 52; omega) dX9_furnish_97 ⟨hK, by rw [← hkD]; exact hG, fun j hj => ?_, fun c hc h0 h8 h9 h12 => ?_, ?_, ?_, ?_, ?_⟩
    · have := hds j (by omega)
      refine ⟨this.1, ?_⟩
      dsimp only
      rw [up2_oc (by omega), up2_oc (by omega), up2_oc (by omega), va_up_ne _ _ (by omega), up2_oc (by omega), up2_oc (by omega), up2_oc (by omega), va_up_ne _ _ (by omega)]
      exact this.2
    · dsimp only
      rw [up2_oc h12, up2_oc h0, up2_oc h8, va_up_ne _ _ h9, hJ c hc, up2_oc h0]
    · dsimp only
      rw [up2_oc (by decide), up2_c, up2_oc (by decide), va_up_ne _ _ (by decide), hJ 0 (o 0 (by decide)), up2_c]
    · dsimp only
      rw [up2_oc (by decide), up2_oc (by decide), up2_c, upd_s]
    · dsimp only
      rw [up2_oc (by decide), up2_oc (by decide), up2_oc (by decide), va_up_self]
      intro j hj
      have e5 : J 5 j = nI (P.getD j 0) := by rw [hJ 5 (o 5 (by decide)), up2_oc (by decide)]; exact hP j hj
      show va_cpy (J 5) (J 9) 0 0 P.length j = _
      unfold va_cpy
      simp only [Nat.zero_le, true_and, Nat.zero_add, Nat.sub_zero]
      rw [if_pos hj]
      exact e5
    · dsimp only
      rw [up2_c, upd_s]
  | succ n ih =>
    intro k g' J hk hK hG hfr hds hJ
    have o : ∀ c, c < 40 → oD c := fun c hc => by unfold oD; omega
    have e8 : J 0 8 = nI D.length := by rw [hJ 0 (o 0 (by decide)), up2_c, upd_s]
    have hkD : k < D.length := by omega
    obtain ⟨d3, d1, d5⟩ := hdk _ (gD_mem hkD)
    obtain ⟨hfk, hfk2⟩ := hfr k (Nat.le_refl _) (by omega)
    have hv4 : vp_in (nI k) 4 := vp_in_nI (by omega) (by decide)
    have ek : J 3 k = nI (D.getD k (0, 0)).1 := by rw [hJ 3 (o 3 (by decide)), up2_oc (by decide)]; exact (hD k hkD).1
    have ef : J 4 k = nI (D.getD k (0, 0)).2 := by rw [hJ 4 (o 4 (by decide)), up2_oc (by decide)]; exact (hD k hkD).2
    refine r_iload_n hC dX9_furnish_13 rfl rfl (j := 0) rfl ?_
    refine r_aload_n hC dX9_furnish_14 rfl rfl (j := 1) rfl ?_
    refine r_getI hC dX9_furnish_15 rfl hG.o.1 hG.o.2 ffg_X9_furnish_99 ?_
    refine r_icmp_ge hC (tgt := 63) (P1 := False) (P2 := True) dX9_furnish_18 rfl (by decide) (by rw [e8]; exact t_le D.length k rfl rfl (by omega) (by omega) (fun q => by omega) (fun _ => trivial)) (fun h => h.elim) (fun _ => ?_)
    refine r_aload_n hC dX9_furnish_21 rfl rfl (j := 1) rfl ?_
    refine r_getR hC dX9_furnish_22 rfl hG.o.1 hG.o.2 ffg_X9_furnish_26 hG.r2 ?_
    refine r_iload_n hC dX9_furnish_25 rfl rfl (j := 0) rfl ?_
    refine r_aload_n hC dX9_furnish_26 rfl rfl (j := 1) rfl ?_
    refine r_getR hC dX9_furnish_27 rfl hG.o.1 hG.o.2 ffg_X9_furnish_20 hG.r1 ?_
    refine r_getR hC dX9_furnish_30 rfl hG.t.1.1 hG.t.1.2 ffg_X9_furnish_259 hG.t.2.2.2.2.1 ?_
    refine r_iload_n hC dX9_furnish_33 rfl rfl (j := 0) rfl ?_
    refine r_iald hC dX9_furnish_34 rfl hG.t.2.1.1 hG.t.2.1.2.1 (by rw [hG.t.2.1.2.2]; exact hv4) ?_
    rw [nI_clamp (by omega), ek]
    refine r_endR hC (rmc := rm_X9_newDesk) (Post := fun r u => ∃ a, u = (gPut (gAdd (gAdd g' (40 + k) r (kc (D.getD k (0, 0)).1) 0) (40 + k + 20) a 11 8) (40 + k) 0 a, up2 (iAdd (iAdd J (40 + k)) (40 + k + 20)) (40 + k) 1 1)) (a_S hC (c_newDesk (d := 40 + k) (k := (D.getD k (0, 0)).1) d3 hfk hfk2) ci_X9_newDesk gX9_furnish_X9_newDesk ⟨(Nat.le_of_ble_eq_true rfl), (Nat.le_of_ble_eq_true rfl)⟩ ⟨by show 2 * k + 2 ≤ 8; omega, by show 13 * k + 13 ≤ 52; omega⟩ rfl rfl (Nat.le_of_ble_eq_true rfl) dX9_furnish_35) rfl (fun r u hu => ?_)
    obtain ⟨a, hu⟩ := hu
    subst hu
    dsimp only
    have hkk : kc (D.getD k (0, 0)).1 = 0 ∨ kc (D.getD k (0, 0)).1 = 3 ∨ kc (D.getD k (0, 0)).1 = 5 := by
      rcases (show (D.getD k (0, 0)).1 = 0 ∨ (D.getD k (0, 0)).1 = 1 ∨ (D.getD k (0, 0)).1 = 2 by omega) with e | e | e <;> rw [e] <;> decide
    have n1 : ¬ oD (40 + k) := by unfold oD; omega
    have n2 : ¬ oD (40 + k + 20) := by unfold oD; omega
    have K1 : Kp g' (gPut (gAdd (gAdd g' (40 + k) r (kc (D.getD k (0, 0)).1) 0) (40 + k + 20) a 11 8) (40 + k) 0 a) := ((Kp.add n1).tr (Kp.add n2)).tr (Kp.put (Or.inl n1))
    have K2 : Kp g' (gPut (gPut (gAdd (gAdd g' (40 + k) r (kc (D.getD k (0, 0)).1) 0) (40 + k + 20) a 11 8) (40 + k) 0 a) 6 k r) := K1.tr (Kp.put (Or.inr rfl))
    have hD40 := shD_new (g := g') (d := 40 + k) (r := r) (a := a) (k := kc (D.getD k (0, 0)).1) hkk (j := k) (b := r) (by omega)
    have eKd : gK (gPut (gPut (gAdd (gAdd g' (40 + k) r (kc (D.getD k (0, 0)).1) 0) (40 + k + 20) a 11 8) (40 + k) 0 a) 6 k r) (40 + k) = kc (D.getD k (0, 0)).1 := by
      show va_up (va_up (gK g') (40 + k) _) (40 + k + 20) 11 (40 + k) = _
      rw [va_up_ne _ _ (by omega), va_up_self]
    have eAd : gA (gPut (gAdd (gAdd g' (40 + k) r (kc (D.getD k (0, 0)).1) 0) (40 + k + 20) a 11 8) (40 + k) 0 a) (40 + k) = r := by
      show va_up (va_up (gA g') (40 + k) r) (40 + k + 20) a (40 + k) = r
      rw [va_up_ne _ _ (by omega), va_up_self]
    have eKd1 : gK (gPut (gAdd (gAdd g' (40 + k) r (kc (D.getD k (0, 0)).1) 0) (40 + k + 20) a 11 8) (40 + k) 0 a) (40 + k) = kc (D.getD k (0, 0)).1 := eKd
    have eR6 : ∀ j, gR (gPut (gPut (gAdd (gAdd g' (40 + k) r (kc (D.getD k (0, 0)).1) 0) (40 + k + 20) a 11 8) (40 + k) 0 a) 6 k r) 6 j = if j = k then some r else gR g' 6 j := by
      intro j
      rw [gR_put]
      by_cases e : j = k
      · rw [if_pos e, if_pos e]
      · rw [if_neg e, if_neg e]
        show va_up (va_up (va_up (gR g') (40 + k) (fun _ => none)) (40 + k + 20) (fun _ => none)) (40 + k) (va_up (va_up (va_up (gR g') (40 + k) (fun _ => none)) (40 + k + 20) (fun _ => none) (40 + k)) 0 (some a)) 6 j = _
        rw [va_up_ne _ _ (by omega), va_up_ne _ _ (by omega), va_up_ne _ _ (by omega)]
    have oth : ∀ j, j < k → gA (gPut (gPut (gAdd (gAdd g' (40 + k) r (kc (D.getD k (0, 0)).1) 0) (40 + k + 20) a 11 8) (40 + k) 0 a) 6 k r) (40 + j) = gA g' (40 + j) ∧ gK (gPut (gPut (gAdd (gAdd g' (40 + k) r (kc (D.getD k (0, 0)).1) 0) (40 + k + 20) a 11 8) (40 + k) 0 a) 6 k r) (40 + j) = gK g' (40 + j) ∧ shD (gPut (gPut (gAdd (gAdd g' (40 + k) r (kc (D.getD k (0, 0)).1) 0) (40 + k + 20) a 11 8) (40 + k) 0 a) 6 k r) [0, 3, 5] (40 + j) := by
      intro j hj
      obtain ⟨-, ⟨m1, m2⟩, ⟨m3, m4, m5⟩, m6⟩ := hG.2.2.2.2.2.2.1 j hj
      have aK : va_up (va_up (gK g') (40 + k) (kc (D.getD k (0, 0)).1)) (40 + k + 20) 11 (40 + j) = gK g' (40 + j) := by rw [va_up_ne _ _ (by omega), va_up_ne _ _ (by omega)]
      have aA : va_up (va_up (gA g') (40 + k) r) (40 + k + 20) a (40 + j) = gA g' (40 + j) := by rw [va_up_ne _ _ (by omega), va_up_ne _ _ (by omega)]
      have aA2 : va_up (va_up (gA g') (40 + k) r) (40 + k + 20) a (40 + j + 20) = gA g' (40 + j + 20) := by rw [va_up_ne _ _ (by omega), va_up_ne _ _ (by omega)]
      refine ⟨aA, aK, ⟨List.mem_append_left _ (List.mem_append_left _ m1), ?_⟩, ⟨List.mem_append_left _ (List.mem_append_left _ m3), ?_, ?_⟩, ?_⟩
      · show va_up (va_up (gK g') (40 + k) _) (40 + k + 20) 11 (40 + j) ∈ _
        rw [aK]; exact m2
      · show va_up (va_up (gK g') (40 + k) _) (40 + k + 20) 11 (40 + j + 20) = 11
        rw [va_up_ne _ _ (by omega), va_up_ne _ _ (by omega)]; exact m4
      · show va_up (va_up (gL g') (40 + k) 0) (40 + k + 20) 8 (40 + j + 20) = 8
        rw [va_up_ne _ _ (by omega), va_up_ne _ _ (by omega)]; exact m5
      · show va_up (va_up (va_up (va_up (gR g') (40 + k) _) (40 + k + 20) _) (40 + k) _) 6 _ (40 + j) 0 = some (va_up (va_up (gA g') (40 + k) r) (40 + k + 20) a (40 + j + 20))
        rw [aA2, va_up_ne _ _ (by omega), va_up_ne _ _ (by omega), va_up_ne _ _ (by omega), va_up_ne _ _ (by omega)]; exact m6
    have mem40 : 40 + k ∈ gC (gPut (gAdd (gAdd g' (40 + k) r (kc (D.getD k (0, 0)).1) 0) (40 + k + 20) a 11 8) (40 + k) 0 a) := hD40.1.1
    have hfr2 : ∀ j, k + 1 ≤ j → j < 4 → 40 + j ∉ gC (gPut (gPut (gAdd (gAdd g' (40 + k) r (kc (D.getD k (0, 0)).1) 0) (40 + k + 20) a 11 8) (40 + k) 0 a) 6 k r) ∧ 40 + j + 20 ∉ gC (gPut (gPut (gAdd (gAdd g' (40 + k) r (kc (D.getD k (0, 0)).1) 0) (40 + k + 20) a 11 8) (40 + k) 0 a) 6 k r) := fun j h1 h2 => ⟨nmA (nmA (hfr j (by omega) h2).1 (by omega)) (by omega), nmA (nmA (hfr j (by omega) h2).2 (by omega)) (by omega)⟩
    generalize hga : gPut (gAdd (gAdd g' (40 + k) r (kc (D.getD k (0, 0)).1) 0) (40 + k + 20) a 11 8) (40 + k) 0 a = ga at *
    have eL6 : gL ga 6 = 4 := (K1 6 (o 6 (by decide))).2.2.2.1.trans hG.2.2.2.1.2.2
    rw [← (K1 6 (o 6 (by decide))).2.1, ← (K1 0 (o 0 (by decide))).2.1]
    refine n_aastb hC (c := 6) (v := 40 + k) rfl eAd dX9_furnish_38 rfl ((K1 6 (o 6 (by decide))).1 hG.2.2.2.1.1) mem40 (Or.inl ⟨(K1 6 (o 6 (by decide))).2.2.1.trans hG.2.2.2.1.2.1, by rw [eKd1]; exact hkk⟩) (by rw [eL6]; exact hv4) ?_
    rw [nI_clamp (by omega)]
    have eA0 : gA (gPut ga 6 k r) 0 = gA ga 0 := rfl
    have eAd2 : gA (gPut ga 6 k r) (40 + k) = r := eAd
    have eK0 : Kp g (gPut ga 6 k r) := hK.tr K2
    have hG2 : shP (gPut ga 6 k r) (k + 1) := by
      refine K2.P hG (by omega) (fun j hj => ?_)
      by_cases e : j = k
      · subst e
        exact ⟨by rw [eR6, if_pos rfl, eAd2], hD40⟩
      · have := oth j (by omega)
        exact ⟨by rw [eR6, if_neg e, this.1]; exact (hG.2.2.2.2.2.2.1 j (by omega)).1, this.2.2⟩
    rw [← eA0]
    have hds2 : ∀ j, j < k → gK (gPut ga 6 k r) (40 + j) = gK g' (40 + j) := fun j hj => (oth j hj).2.1
    clear oth eR6 hfr eA0 eAd eKd1 mem40 K1 K2 hga
    generalize gPut ga 6 k r = gb at *
    have hvk : vp_in (nI k) (k + 1) := vp_in_nI (by omega) (by omega)
    have hq3 := hG2.desk hvk
    rw [nI_clamp (by omega)] at hq3
    refine r_aload_n hC dX9_furnish_39 rfl rfl (j := 1) rfl ?_
    refine r_getR hC dX9_furnish_40 rfl hG2.o.1 hG2.o.2 ffg_X9_furnish_26 hG2.r2 ?_
    refine r_iload_n hC dX9_furnish_43 rfl rfl (j := 0) rfl ?_
    refine r_aald hC dX9_furnish_44 rfl hq3.1.1 hq3.1.2.1 hq3.1.2.2 (by rw [nI_clamp (by omega)]; exact hq3.2.1) ?_
    refine r_aload_n hC dX9_furnish_45 rfl rfl (j := 1) rfl ?_
    refine r_getR hC dX9_furnish_46 rfl hG2.o.1 hG2.o.2 ffg_X9_furnish_20 hG2.r1 ?_
    refine r_getR hC dX9_furnish_49 rfl hG2.t.1.1 hG2.t.1.2 ffg_X9_furnish_262 hG2.t.2.2.2.2.2.1 ?_
    refine r_iload_n hC dX9_furnish_52 rfl rfl (j := 0) rfl ?_
    refine r_iald hC dX9_furnish_53 rfl hG2.t.2.2.1.1 hG2.t.2.2.1.2.1 (by rw [hG2.t.2.2.1.2.2]; exact hv4) ?_
    rw [nI_clamp (by omega)]
    have ef2 : up2 (iAdd (iAdd J (40 + k)) (40 + k + 20)) (40 + k) 1 1 4 k = nI (D.getD k (0, 0)).2 := by
      rw [up2_oc (by omega)]
      show va_up (va_up J (40 + k) _) (40 + k + 20) _ 4 k = _
      rw [va_up_ne _ _ (by omega), va_up_ne _ _ (by omega)]; exact ef
    rw [ef2]
    have hcl : wp_X3_clear (gK gb) (40 + k) (nI (D.getD k (0, 0)).2) (up2 (iAdd (iAdd J (40 + k)) (40 + k + 20)) (40 + k) 1 1) (fun K => fr2 (up2 (iAdd (iAdd J (40 + k)) (40 + k + 20)) (40 + k) 1 1) K (40 + k) ∧ rp (K (40 + k)) (K (40 + k + 20)) (D.getD k (0, 0)).2 ([], 0, 0)) := P_clear (fun K h1 h2 => ⟨h1, h2⟩)
    refine r_callV hC (rmc := rm_X3_clear) (a_K hq3.2.2 (fun h => a_U hC (k := 0) (rmc := rm_X3_clear) (c_X3_clear hq3.2.2 hcl) ci_X3_clear gX9_furnish_X3_clear_u135X0 rfl ⟨(Nat.le_of_ble_eq_true rfl), (Nat.le_of_ble_eq_true rfl)⟩ ⟨by show 2 * k + 2 + 0 ≤ 8; omega, by show 13 * k + 13 + 0 ≤ 52; omega⟩ rfl (by decide) (hq3.2.2).1.1 h rfl rfl (Nat.le_of_ble_eq_true rfl) dX9_furnish_54) (fun h => a_V hC (k := 3) (c_X3_clear hq3.2.2 hcl) ci_X3_clear gX9_furnish_X3_clear rfl ⟨(Nat.le_of_ble_eq_true rfl), (Nat.le_of_ble_eq_true rfl)⟩ ⟨by show 2 * k + 2 + 0 ≤ 8; omega, by show 13 * k + 13 + 0 ≤ 52; omega⟩ rfl (by decide) (hq3.2.2).1.1 h rfl rfl (Nat.le_of_ble_eq_true rfl) dX9_furnish_54) (fun h => a_U hC (k := 5) (rmc := rm_X3_clear) (c_X3_clear hq3.2.2 hcl) ci_X3_clear gX9_furnish_X3_clear_u135X5 rfl ⟨(Nat.le_of_ble_eq_true rfl), (Nat.le_of_ble_eq_true rfl)⟩ ⟨by show 2 * k + 2 + 0 ≤ 8; omega, by show 13 * k + 13 + 0 ≤ 52; omega⟩ rfl (by decide) (hq3.2.2).1.1 h rfl rfl (Nat.le_of_ble_eq_true rfl) dX9_furnish_54)) ⟨rfl, rfl⟩ rfl (fun K hKw => ?_)
    obtain ⟨hfr3, hrp⟩ := hKw
    refine r_iinc hC (k := 1) (lv' := [(1, .int (nI k + 1)), (0, .ref (gA gb 0))]) dX9_furnish_57 rfl (j := 0) rfl (by decide) (by decide) rfl ?_
    refine r_goto hC (tgt := 13) dX9_furnish_60 (by decide) ?_
    rw [show nI k + 1 = nI (k + 1) from nI_1 k]
    have hKo : ∀ c, c ≠ 40 + k → c ≠ 40 + k + 20 → K c = J c := by
      intro c h1 h2
      rw [hfr3 c h1 h2, up2_oc h1]
      show va_up (va_up J (40 + k) _) (40 + k + 20) _ c = _
      rw [va_up_ne _ _ h2, va_up_ne _ _ h1]
    have := ih (k + 1) gb K (by omega) eK0 hG2 hfr2 (fun j hj => ?_) (fun c hc => ?_)
    · rw [show 2 * (k + 1) = 2 * k + 2 by omega, show 13 * (k + 1) = 13 * k + 13 by omega] at this
      exact this
    · by_cases e : j = k
      · subst e; exact ⟨eKd, hrp⟩
      · have hj := hds j (by omega)
        refine ⟨by rw [hds2 j (by omega)]; exact hj.1, ?_⟩
        rw [hKo _ (by omega) (by omega), hKo _ (by omega) (by omega)]; exact hj.2
    · rw [hKo c (fun e => n1 (e ▸ hc)) (fun e => n2 (e ▸ hc))]; exact hJ c hc
set_option maxRecDepth 100000 in
set_option maxHeartbeats 4000000 in
theorem c_X9_furnish {l : Launch} {x : Gx} {g : Gm} {I : Mm} {nd : Nat} {D : List (Nat × Nat)} {P : List Nat} (hG : shP g nd) (h3 : I 2 3 = nI D.length) (h4 : I 2 4 = nI P.length) (hD : arD (I 3) (I 4) D) (hP : ar (I 5) P) (hd4 : D.length ≤ 4) (hdk : ∀ q ∈ D, q.1 < 3 ∧ 1 ≤ q.2 ∧ q.2 ≤ 5) (hp24 : P.length ≤ 24) : KV l x yX9_furnish wsX9_furnish rm_X9_furnish g I [.ref (gA g 0)] (FurnQ g I D P) := by
  refine KV_of (by decide) rfl rfl (Nat.le_of_ble_eq_true rfl) (fun f hC _ _ hR => ?_)
  show PW f 0 0 g I 0 [(0, .ref (gA g 0))] []
  refine r_aload_n hC dX9_furnish_0 rfl rfl (j := 0) rfl ?_
  refine r_aload_n hC dX9_furnish_1 rfl rfl (j := 0) rfl ?_
  refine r_getR hC dX9_furnish_2 rfl hG.o.1 hG.o.2 ffg_X9_furnish_20 hG.r1 ?_
  refine r_getI hC dX9_furnish_5 rfl hG.t.1.1 hG.t.1.2 ffg_X9_furnish_257 ?_
  rw [h3]
  refine r_putI hC dX9_furnish_8 rfl hG.o.1 hG.o.2 ffp_X9_furnish_99 ?_
  refine r_iconst hC (v := (0 : Int32)) dX9_furnish_11 rfl (by decide) ?_
  refine r_istore_n hC (lv' := [(1, .int (0 : Int32)), (0, .ref (gA g 0))]) dX9_furnish_12 rfl rfl (by decide) rfl ?_
  refine n_out ?_
  exact t_furnish hC hG h3 h4 hD hP hd4 hdk hp24 hR D.length 0 (gOut g) _ (by omega) Kp.out (Kp.out.P hG (by decide) (fun k hk => absurd hk (Nat.not_lt_zero _))) (fun j _ hj => ⟨gOut_n (by unfold oD; omega), gOut_n (by unfold oD; omega)⟩) (fun j hj => absurd hj (Nat.not_lt_zero _)) (fun c _ => rfl)
