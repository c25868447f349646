/-! room of the model -/
def newS (z : St) (D : List (Nat × Nat)) (P : List Nat) : St := (D.length, P, 0, fun k => (D.getD k (0, 0)).1, fun k => (D.getD k (0, 0)).2, [], s_s z, 0, s_x z)
def rdR (z : St) (k a m : Nat) : Option (List (Nat × Nat) × List Nat) × Nat := trn (fun j => cl z k (a + j)) m 0 (0, [], 0, [])
def rmV (z : St) : Option (List (Nat × Nat) × List Nat) × Nat → Int32 × St
  | (none, e) => (-100 - nI e, zt z 0)
  | (some q, _) => (nI q.1.length, newS z q.1 q.2)
def u_room (z : St) (x la i n : Int32) : Int32 × St := if InR x 0 4 then (if InR la 0 3 then (if bar z x.toNatClampNeg la i n = 0 then rmV z (rdR z x.toNatClampNeg i.toNatClampNeg n.toNatClampNeg) else (-10 - bar z x.toNatClampNeg la i n, zt z (bar z x.toNatClampNeg la i n))) else (-2, zt z 0)) else (-1, zt z 0)
theorem tok0 : tok (0, [], 0, []) := ⟨by decide, by decide, fun _ => by decide, fun _ => rfl, fun q => absurd q (by decide), fun q hq => absurd hq List.not_mem_nil, by decide, by decide, fun p hp => absurd hp List.not_mem_nil, fun _ => rfl⟩
theorem gD_mem {D : List (Nat × Nat)} {k : Nat} (h : k < D.length) : D.getD k (0, 0) ∈ D := by
  rw [List.getD_eq_getElem?_getD, List.getElem?_eq_getElem h]
  exact List.getElem_mem h
theorem wf_new {z : St} {D : List (Nat × Nat)} {P : List Nat} (hw : wfS z) (h : 0 < D.length ∧ D.length ≤ 4 ∧ (∀ q ∈ D, q.1 < 3 ∧ 1 ≤ q.2 ∧ q.2 ≤ 5) ∧ 0 < P.length ∧ P.length ≤ 24 ∧ ∀ p ∈ P, p < 8) : wfS (newS z D P) := by
  obtain ⟨h1, h2, h3, h4, h5, h6⟩ := h
  refine ⟨h2, h5, h6, Nat.zero_le _, fun k hk => h3 _ (gD_mem hk), ⟨by show 0 ≤ 8; decide, fun q hq => absurd hq List.not_mem_nil⟩, hw.2.2.2.2.2.2.1, fun e => ?_, fun _ e => ?_⟩
  · have : D.length = 0 := e; omega
  · have : P = [] := e
    rw [this] at h4; exact absurd h4 (by decide)
section RMM
variable {z : St} {I : Mm} {x la i n : Int32} {Post : Int32 → Mm → Prop}
theorem wf_room (hw : wfS z) : wfS (u_room z x la i n).2 := by
  unfold u_room
  by_cases hx : InR x 0 4
  · rw [if_pos hx]
    by_cases hl : InR la 0 3
    · rw [if_pos hl]
      by_cases hb : bar z x.toNatClampNeg la i n = 0
      · rw [if_pos hb]
        cases hr : rdR z x.toNatClampNeg i.toNatClampNeg n.toNatClampNeg with
        | mk o e =>
          cases o with
          | none => exact hw
          | some q => exact wf_new hw (trn_ok _ _ _ q.1 q.2 e tok0 hr)
      · rw [if_neg hb]; exact hw
    · rw [if_neg hl]; exact hw
  · rw [if_neg hx]; exact hw
def RX (I J : Mm) : Prop := (∀ c, c ≠ 100 → c ≠ 104 → c ≠ 105 → c ≠ 106 → J c = I c) ∧ ∀ j, j ≠ 1 → j ≠ 2 → j ≠ 3 → j ≠ 21 → j ≠ 0 → J 100 j = I 100 j
theorem s10_room (hw : wfS z) (hv : MV z I) (h : ∀ I', FM I I' → MV (u_room z x la i n).2 I' → Post (u_room z x la i n).1 I') : wp_X10_room x la i n I Post := by
  unfold wp_X10_room
  unfold u_room at h
  refine m_noSheet ?_
  rw [ite10]
  refine t_if (fun hx => ?_) (fun hx => ?_)
  · simp only [if_pos hx] at h
    refine w10 (a := 0) (b := 3) (by decide) (by decide) ?_
    rw [ite01]
    refine t_if (fun hla => ?_) (fun hla => ?_)
    · simp only [if_pos hla] at h
      obtain ⟨hin, ex, hk, hsh⟩ := c_msheet hw hv hx
      refine m_barred hw hv hx (fun hbar => ?_) (fun hbar => ?_)
      · obtain ⟨q, hq, hl, hh⟩ := bar_0 hbar
        have hb := hw.2.2.2.2.2.2.1 _ q hk hq
        rw [hq] at hsh
        simp only [if_pos hbar] at h
        rw [if_pos (by decide)]
        obtain ⟨ei, en, hsum, -⟩ := Hs_n hh hb.2
        rw [idx60 ex ei]
        rw [en]
        generalize x.toNatClampNeg = k at *
        generalize i.toNatClampNeg = a at *
        generalize n.toNatClampNeg = m at *
        have hc : cM I (60 * k + a) m (fun j => cl z k (a + j)) := fun j hj => by
          unfold cl
          rw [hq]
          dsimp only
          rw [Nat.add_assoc]
          exact hsh.2.2 _ (by omega)
        refine m_readsRoom (by omega) (by omega) hc (fun J e sJ ht h7 => ?_) (fun J D P e j sJ ht rJ => ?_)
        · have ht : rdR z k a m = (none, e) := ht
          rw [ht] at h
          rw [if_pos rfl, h7]
          exact h _ (sJ.fm.tr (FM.up (by decide))) (hv.sm sJ).t
        · have ht : rdR z k a m = (some (D, P), e) := ht
          rw [ht] at h
          rw [if_neg (by decide)]
          obtain ⟨o1, o2, o3, o4, o5, o6⟩ := trn_ok _ _ _ D P e tok0 ht
          obtain ⟨r1, r2, r3, r4, r5⟩ := rJ
          have hvJ := hv.sm sJ
          have k149 : ∀ nn jj (K : Mm), jj + nn = P.length → RX J K → K 100 1 = nI D.length → K 100 2 = nI P.length → K 100 3 = 0 → (∀ d, d < D.length → K 104 d = J 110 d ∧ K 105 d = J 111 d) → (∀ d, d < jj → K 106 d = J 112 d) → wp_X10_room_149 (fun I => wp_X10_room_178 Post I) Post (nn + 1) (nI jj) K := by
            intro nn
            induction nn with
            | zero =>
              intro jj K hj rx e1 e2 e3 e4 e6
              unfold wp_X10_room_149
              refine t_le P.length jj e2 rfl (by omega) (by omega) (fun _ => ?_) (fun q => by omega)
              show wp_X10_room_178 Post K
              unfold wp_X10_room_178 wp_X10_refused
              have e1' : up2 K 100 21 0 100 1 = nI D.length := by rw [up2_c, upd_n _ _ (by decide)]; exact e1
              rw [e1']
              refine h _ ?_ ?_
              · intro c hc
                rw [up2_oc (by omega), up2_oc (by omega), rx.1 c (by omega) (by omega) (by omega) (by omega)]
                exact sJ.fm c hc
              · obtain ⟨h1, h2, h3, h4, h5, h6, h7, h8⟩ := hvJ
                refine ⟨?_, ⟨?_, ?_⟩, ?_, fun d hd => ?_, ⟨?_, fun d hd => absurd hd (Nat.not_lt_zero _)⟩, fun d hd => ?_, ?_, ?_⟩
                · rw [up2_c, upd_n _ _ (by decide)]; exact e1'
                · rw [up2_c, upd_n _ _ (by decide), up2_c, upd_n _ _ (by decide)]; exact e2
                · rw [up2_oc (by decide), up2_oc (by decide)]
                  intro d hd
                  have hd : d < P.length := hd
                  rw [e6 d (by omega)]; exact r5 d hd
                · rw [up2_c, upd_n _ _ (by decide), up2_c, upd_n _ _ (by decide)]; exact e3
                · have hd : d < D.length := hd
                  rw [up2_oc (by decide), up2_oc (by decide), up2_oc (by decide), up2_oc (by decide), (e4 d hd).1, (e4 d hd).2]
                  exact r4 d hd
                · rw [up2_c, upd_n _ _ (by decide), up2_c, upd_s]; rfl
                · rw [up2_oc (by decide), up2_oc (by decide), up2_oc (by decide), up2_oc (by decide), up2_oc (by decide), up2_oc (by decide), rx.1 125 (by decide) (by decide) (by decide) (by decide), rx.1 126 (by decide) (by decide) (by decide) (by decide), rx.1 127 (by decide) (by decide) (by decide) (by decide)]
                  exact h6 d hd
                · rw [up2_c, upd_s]; rfl
                · rw [up2_c, upd_n _ _ (by decide), up2_c, upd_n _ _ (by decide), rx.2 29 (by decide) (by decide) (by decide) (by decide) (by decide)]; exact h8
            | succ nn ih =>
              intro jj K hj rx e1 e2 e3 e4 e6
              unfold wp_X10_room_149
              refine t_le P.length jj e2 rfl (by omega) (by omega) (fun q => by omega) (fun _ => ⟨vp_in_nI (by omega) (by decide), vp_in_nI (by omega) (by decide), ?_⟩)
              rw [nI_clamp (by omega), show nI jj + 1 = nI (jj + 1) from nI_1 jj]
              refine ih (jj + 1) _ (by omega) ⟨fun c h1 h2 h3 h4 => by rw [up2_oc h4]; exact rx.1 c h1 h2 h3 h4, fun d a1 a2 a3 a4 a5 => by rw [up2_oc (by decide)]; exact rx.2 d a1 a2 a3 a4 a5⟩ (by rw [up2_oc (by decide)]; exact e1) (by rw [up2_oc (by decide)]; exact e2) (by rw [up2_oc (by decide)]; exact e3) (fun d hd => by rw [up2_oc (by decide), up2_oc (by decide)]; exact e4 d hd) (fun d hd => ?_)
              rw [up2_c]
              by_cases e : d = jj
              · subst e; rw [upd_s, rx.1 112 (by decide) (by decide) (by decide) (by decide)]
              · rw [upd_n _ _ e]; exact e6 d (by omega)
          have k103 : ∀ nn jj (K : Mm), jj + nn = D.length → RX J K → K 100 1 = nI D.length → K 100 2 = nI P.length → K 100 3 = 0 → (∀ d, d < jj → K 104 d = J 110 d ∧ K 105 d = J 111 d) → wp_X10_room_103 (fun I => wp_X10_room_146 Post I) Post (nn + 1) (nI jj) K := by
            intro nn
            induction nn with
            | zero =>
              intro jj K hj rx e1 e2 e3 e4
              unfold wp_X10_room_103
              refine t_le D.length jj e1 rfl (by omega) (by omega) (fun _ => ?_) (fun q => by omega)
              show wp_X10_room_146 Post K
              unfold wp_X10_room_146
              exact ⟨_, k149 P.length 0 K (by omega) rx e1 e2 e3 (fun d hd => e4 d (by omega)) (fun d hd => absurd hd (Nat.not_lt_zero _))⟩
            | succ nn ih =>
              intro jj K hj rx e1 e2 e3 e4
              unfold wp_X10_room_103
              have vin : vp_in (nI jj) 4 := vp_in_nI (by omega) (by decide)
              refine t_le D.length jj e1 rfl (by omega) (by omega) (fun q => by omega) (fun _ => ⟨vin, vin, vin, vin, ?_⟩)
              rw [nI_clamp (by omega), show nI jj + 1 = nI (jj + 1) from nI_1 jj]
              refine ih (jj + 1) _ (by omega) ⟨fun c h1 h2 h3 h4 => by rw [up2_oc h3, up2_oc h2]; exact rx.1 c h1 h2 h3 h4, fun d a1 a2 a3 a4 a5 => by rw [up2_oc (by decide), up2_oc (by decide)]; exact rx.2 d a1 a2 a3 a4 a5⟩ (by rw [up2_oc (by decide), up2_oc (by decide)]; exact e1) (by rw [up2_oc (by decide), up2_oc (by decide)]; exact e2) (by rw [up2_oc (by decide), up2_oc (by decide)]; exact e3) (fun d hd => ?_)
              rw [up2_oc (show 104 ≠ 105 by decide), up2_c, up2_c, up2_oc (show 111 ≠ 104 by decide), up2_oc (show 105 ≠ 104 by decide)]
              by_cases e : d = jj
              · subst e; rw [upd_s, upd_s, rx.1 110 (by decide) (by decide) (by decide) (by decide), rx.1 111 (by decide) (by decide) (by decide) (by decide)]; exact ⟨rfl, rfl⟩
              · rw [upd_n _ _ e, upd_n _ _ e]; exact e4 d (by omega)
          have e9 : up2 J 100 1 (J 100 8) 100 9 = nI P.length := by rw [up2_c, upd_n _ _ (by decide)]; exact r3
          rw [e9, r2]
          refine ⟨_, k103 D.length 0 _ (by omega) ⟨fun c h1 h2 h3 h4 => by rw [up2_oc h1, up2_oc h1, up2_oc h1], fun d a1 a2 a3 a4 a5 => by rw [up2_c, upd_n _ _ a3, up2_c, upd_n _ _ a2, up2_c, upd_n _ _ a1]⟩ ?_ ?_ ?_ (fun d hd => absurd hd (Nat.not_lt_zero _))⟩
          · rw [up2_c, upd_n _ _ (by decide), up2_c, upd_n _ _ (by decide), up2_c, upd_s]
          · rw [up2_c, upd_n _ _ (by decide), up2_c, upd_s]
          · rw [up2_c, upd_s]
      · simp only [if_neg hbar] at h
        have hneg : ¬ (0 : Int32) ≤ -10 - bar z x.toNatClampNeg la i n := by
          unfold bar
          cases s_s z x.toNatClampNeg with
          | none => exact (by decide : ¬ (0 : Int32) ≤ -10 - 1)
          | some q =>
            dsimp only
            repeat' split
            all_goals decide
        rw [if_neg hneg]
        exact h _ (FM.up (by decide)) hv.t
    · simp only [if_neg hla] at h
      exact h _ (FM.up (by decide)) hv.t
  · simp only [if_neg hx] at h
    exact h _ (FM.up (by decide)) hv.t
end RMM
