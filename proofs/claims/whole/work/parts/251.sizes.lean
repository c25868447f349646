/-! sizes, kinds: which frames, kinds the readings allow -/
abbrev hitP (l : List Nat) (k f i : Nat) : Prop := l.getD i 0 ∈ (ply k f (l.take i)).1
abbrev agD (l : List Nat) (r : List (Nat × Nat × Nat)) (d k f : Nat) : Prop := ∀ q ∈ r, q.1 = d → (hitP l k f q.2.1 ↔ q.2.2 = 1)
abbrev aSo (z : St) : Prop := ∀ q ∈ s_r z, (hitP (s_l z) (s_k z q.1) (s_f z q.1) q.2.1 ↔ q.2.2 = 1)
def zk (z : St) (K : Nat → Nat) : St := (s_n z, s_l z, s_c z, K, s_f z, s_r z, s_s z, s_t z, s_x z)
def bst (p : Nat → Prop) [∀ n, Decidable (p n)] : Nat → Nat → Nat → Nat
  | 0, _, w => w
  | n + 1, f, w => bst p n (f + 1) (w ||| (if p f then 2 ^ f else 0))
def OA (z : St) (k : Nat) : Prop := ∀ o, o < s_n z → o ≠ k → agD (s_l z) (s_r z) o (s_k z o) (s_f z o)
def v_sizes (z : St) (x : Int32) : Int32 := if InR x 0 (s_n z) then nI (bst (fun f => aSo (zf z (va_up (s_f z) x.toNatClampNeg f))) 5 1 0) else -1
def v_kinds (z : St) (x : Int32) : Int32 := if InR x 0 (s_n z) then nI (bst (fun f => aSo (zk z (va_up (s_k z) x.toNatClampNeg f))) 3 0 0) else -1
theorem drop_gD {L : List (Nat × Nat × Nat)} {j : Nat} (h : j < L.length) : L.drop j = L.getD j (0, 0, 0) :: L.drop (j + 1) := by
  rw [List.drop_eq_getElem_cons h, List.getD_eq_getElem?_getD, List.getElem?_eq_getElem h]; rfl
theorem mem_gD {L : List (Nat × Nat × Nat)} {j : Nat} (h : j < L.length) : L.getD j (0, 0, 0) ∈ L := by
  rw [List.getD_eq_getElem?_getD, List.getElem?_eq_getElem h]
  exact List.getElem_mem h
theorem bst_0 {p : Nat → Prop} [∀ n, Decidable (p n)] (h : ∀ f, ¬ p f) : ∀ n f, bst p n f 0 = 0 := by
  intro n
  induction n with
  | zero => intro f; rfl
  | succ n ih => intro f; rw [bst, if_neg (h f)]; exact ih (f + 1)
theorem aSo_f {z : St} {k f : Nat} (hr : ∀ q ∈ s_r z, q.1 < s_n z) : aSo (zf z (va_up (s_f z) k f)) ↔ (OA z k ∧ agD (s_l z) (s_r z) k (s_k z k) f) := by
  constructor
  · intro h
    refine ⟨fun o ho hk q hq e => ?_, fun q hq e => ?_⟩
    · have := h q hq
      have e2 : s_f (zf z (va_up (s_f z) k f)) q.1 = s_f z o := by
        show va_up (s_f z) k f q.1 = _
        rw [va_up_ne _ _ (by omega), e]
      rw [e2] at this
      rw [e] at this; exact this
    · have := h q hq
      have e2 : s_f (zf z (va_up (s_f z) k f)) q.1 = f := by
        show va_up (s_f z) k f q.1 = _
        rw [e, va_up_self]
      rw [e2] at this
      rw [e] at this; exact this
  · intro h q hq
    by_cases e : q.1 = k
    · have := h.2 q hq e
      have e2 : s_f (zf z (va_up (s_f z) k f)) q.1 = f := by
        show va_up (s_f z) k f q.1 = _
        rw [e, va_up_self]
      rw [e2, e]; exact this
    · have := h.1 q.1 (hr q hq) e q hq rfl
      have e2 : s_f (zf z (va_up (s_f z) k f)) q.1 = s_f z q.1 := by
        show va_up (s_f z) k f q.1 = _
        rw [va_up_ne _ _ e]
      rw [e2]; exact this
theorem aSo_k {z : St} {k f : Nat} (hr : ∀ q ∈ s_r z, q.1 < s_n z) : aSo (zk z (va_up (s_k z) k f)) ↔ (OA z k ∧ agD (s_l z) (s_r z) k f (s_f z k)) := by
  constructor
  · intro h
    refine ⟨fun o ho hk q hq e => ?_, fun q hq e => ?_⟩
    · have := h q hq
      have e2 : s_k (zk z (va_up (s_k z) k f)) q.1 = s_k z o := by
        show va_up (s_k z) k f q.1 = _
        rw [va_up_ne _ _ (by omega), e]
      rw [e2] at this
      rw [e] at this; exact this
    · have := h q hq
      have e2 : s_k (zk z (va_up (s_k z) k f)) q.1 = f := by
        show va_up (s_k z) k f q.1 = _
        rw [e, va_up_self]
      rw [e2] at this
      rw [e] at this; exact this
  · intro h q hq
    by_cases e : q.1 = k
    · have := h.2 q hq e
      have e2 : s_k (zk z (va_up (s_k z) k f)) q.1 = f := by
        show va_up (s_k z) k f q.1 = _
        rw [e, va_up_self]
      rw [e2]
      show hitP (s_l z) f (s_f z q.1) q.2.1 ↔ _
      rw [e]; exact this
    · have := h.1 q.1 (hr q hq) e q hq rfl
      have e2 : s_k (zk z (va_up (s_k z) k f)) q.1 = s_k z q.1 := by
        show va_up (s_k z) k f q.1 = _
        rw [va_up_ne _ _ e]
      rw [e2]; exact this
section SZS
variable {ki : Nat → Nat} {z : St} {I : Mm} {x y w : Int32} {Post : Int32 → Mm → Prop}
theorem bit_at {M i : Nat} (hM : M < 2 ^ 31) (hi : i < 32) : (nI M >>> (nI i &&& 31)) &&& (1 : Int32) = nI (M / 2 ^ i % 2) := by
  rw [pk_shrN hM (nI i &&& 31) i (nn_sl i hi), show (1 : Int32) = nI 1 from rfl, nn_and, Nat.and_one_is_mod]
theorem P_agree {d k f : Nat} (hw : wfS z) (hv : CV ki z I) (hd : d < s_n z) (hT : agD (s_l z) (s_r z) d k f → Post 1 I) (hF : ¬ agD (s_l z) (s_r z) d k f → Post 0 I) : wp_X4_agree (nI d) (nI (hmk k f (s_l z) (s_l z).length)) I Post := by
  have hn := hw.1
  have hl := hw.2.1
  have hr8 := hw.2.2.2.2.2.1.1
  have hrq := hw.2.2.2.2.2.1.2
  have hlt := hmk_lt k f (s_l z) (s_l z).length
  have hp : 2 ^ (s_l z).length ≤ 2 ^ 24 := Nat.pow_le_pow_right (by decide) hl
  unfold wp_X4_agree
  have key : ∀ n j, j + n = (s_r z).length → ((∀ q ∈ (s_r z).drop j, q.1 = d → (hitP (s_l z) k f q.2.1 ↔ q.2.2 = 1)) → Post 1 I) → wp_X4_agree_2 Post (n + 1) (nI d) (nI (hmk k f (s_l z) (s_l z).length)) (nI j) I := by
    intro n
    induction n with
    | zero =>
      intro j hj hq
      unfold wp_X4_agree_2
      refine t_le (s_r z).length j hv.2.2.2.2.1.1 rfl (by omega) (by omega) (fun _ => hq ?_) (fun q => by omega)
      intro q hm
      rw [List.drop_eq_nil_of_le (by omega)] at hm
      exact absurd hm List.not_mem_nil
    | succ n ih =>
      intro j hj hq
      unfold wp_X4_agree_2
      refine t_le (s_r z).length j hv.2.2.2.2.1.1 rfl (by omega) (by omega) (fun q => by omega) (fun hjl => ⟨vp_in_nI (by omega) (by decide), ?_⟩)
      obtain ⟨e1, e2, e3⟩ := hv.2.2.2.2.1.2 j hjl
      obtain ⟨b1, b2, b3⟩ := hrq _ (mem_gD hjl)
      rw [nI_clamp (by omega), e1, e2, e3]
      rw [drop_gD hjl] at hq
      have hin := mem_gD hjl
      generalize (s_r z).getD j (0, 0, 0) = q at *
      have hbit := hmk_bit k f (s_l z) (s_l z).length q.2.1 b2
      refine t_eq q.1 d rfl rfl (by omega) (by omega) (fun e => ⟨vp_in_nI (by omega) (by decide), vp_in_nI (by omega) (by decide), ?_⟩) (fun e => ?_)
      · rw [bit_at (by omega) (by omega), hbit]
        by_cases hh : (s_l z).getD q.2.1 0 ∈ (ply k f ((s_l z).take q.2.1)).1
        · rw [if_pos hh]
          refine t_eq 1 q.2.2 rfl rfl (by decide) (by omega) (fun e4 => ?_) (fun e4 => ?_)
          · unfold wp_X4_agree_41
            rw [show nI j + 1 = nI (j + 1) from nI_1 j]
            refine ih (j + 1) (by omega) (fun hd2 => hq (fun q' hm' => ?_))
            rcases List.mem_cons.mp hm' with rfl | hm'
            · exact fun _ => ⟨fun _ => e4.symm, fun _ => hh⟩
            · exact hd2 q' hm'
          · exact hF (fun ha => e4 ((ha q hin e).mp hh).symm)
        · rw [if_neg hh]
          refine t_eq 0 q.2.2 rfl rfl (by decide) (by omega) (fun e4 => ?_) (fun e4 => ?_)
          · unfold wp_X4_agree_41
            rw [show nI j + 1 = nI (j + 1) from nI_1 j]
            refine ih (j + 1) (by omega) (fun hd2 => hq (fun q' hm' => ?_))
            rcases List.mem_cons.mp hm' with rfl | hm'
            · exact fun _ => ⟨fun h => absurd h hh, fun h => by omega⟩
            · exact hd2 q' hm'
          · exact hF (fun ha => hh ((ha q hin e).mpr (by omega)))
      · unfold wp_X4_agree_41
        rw [show nI j + 1 = nI (j + 1) from nI_1 j]
        refine ih (j + 1) (by omega) (fun hd2 => hq (fun q' hm' => ?_))
        rcases List.mem_cons.mp hm' with rfl | hm'
        · exact fun h => absurd h e
        · exact hd2 q' hm'
  exact ⟨_, key (s_r z).length 0 (by omega) hT⟩
theorem P_others {k : Nat} (hw : wfS z) (hv : CV ki z I) (hk : k < s_n z) (hT : OA z k → ∀ I', SC I I' → Post 1 I') (hF : ¬ OA z k → ∀ I', SC I I' → Post 0 I') : wp_X9_othersAgree ki (s_n z) (nI k) I Post := by
  have hn := hw.1
  unfold wp_X9_othersAgree
  have kF : ∀ n j (J : Mm), j + n = s_n z → SC I J → ¬ OA z k → wp_X9_othersAgree_4 ki (s_n z) Post (n + 1) (nI k) 0 (nI j) J := by
    intro n j J hj hs hno
    have hvJ := hv.sc hn hs
    unfold wp_X9_othersAgree_4
    refine t_le (s_n z) j hvJ.1 rfl (by omega) (by omega) (fun _ => ⟨Or.inl rfl, hF hno J hs⟩) (fun _ => ?_)
    rw [if_pos rfl]
    exact ⟨Or.inl rfl, hF hno J hs⟩
  have key : ∀ n j (J : Mm), j + n = s_n z → SC I J → (∀ o, o < j → o ≠ k → agD (s_l z) (s_r z) o (s_k z o) (s_f z o)) → wp_X9_othersAgree_4 ki (s_n z) Post (n + 1) (nI k) 1 (nI j) J := by
    intro n
    induction n with
    | zero =>
      intro j J hj hs ho
      have hvJ := hv.sc hn hs
      unfold wp_X9_othersAgree_4
      refine t_le (s_n z) j hvJ.1 rfl (by omega) (by omega) (fun _ => ⟨Or.inr rfl, hT (fun o h1 h2 => ho o (by omega) h2) J hs⟩) (fun q => by omega)
    | succ n ih =>
      intro j J hj hs ho
      have hvJ := hv.sc hn hs
      unfold wp_X9_othersAgree_4
      refine t_le (s_n z) j hvJ.1 rfl (by omega) (by omega) (fun q => by omega) (fun hjn => ?_)
      rw [if_neg (by decide)]
      refine ⟨vp_in_nI (by omega) (by omega), ?_⟩
      rw [nI_clamp (by omega)]
      refine t_eq j k rfl rfl (by omega) (by omega) (fun e => ?_) (fun e => ?_)
      · unfold wp_X9_othersAgree_54 wp_X9_othersAgree_59
        rw [show nI j + 1 = nI (j + 1) from nI_1 j]
        exact ih (j + 1) J (by omega) hs (fun o h1 h2 => ho o (by omega) h2)
      · obtain ⟨k3, f1, f5⟩ := hw.2.2.2.2.1 j hjn
        obtain ⟨hki, hr⟩ := hvJ.2.2.2.1 j hjn
        refine p_kind k3 hki ?_
        rw [hr.1]
        refine P_hits hw hvJ k3 f1 (by omega) (fun J2 hs2 => ?_)
        have hvJ2 := hvJ.sc hn hs2
        refine P_agree hw hvJ2 hjn (fun ha => ?_) (fun ha => ?_)
        · rw [if_neg (by decide)]
          unfold wp_X9_othersAgree_54 wp_X9_othersAgree_59
          rw [show nI j + 1 = nI (j + 1) from nI_1 j]
          refine ih (j + 1) J2 (by omega) (hs.tr hs2) (fun o h1 h2 => ?_)
          by_cases eo : o = j
          · subst eo; exact ha
          · exact ho o (by omega) h2
        · rw [if_pos rfl]
          unfold wp_X9_othersAgree_59
          rw [show nI j + 1 = nI (j + 1) from nI_1 j]
          exact kF n (j + 1) J2 (by omega) (hs.tr hs2) (fun hO => ha (hO j hjn e))
  exact ⟨_, key (s_n z) 0 I (by omega) SC.rf (fun o h => absurd h (Nat.not_lt_zero _))⟩
theorem or2 : ∀ w, w < 256 → ∀ f, f < 8 → nI w ||| ((1 : Int32) <<< (nI f &&& 31)) = nI (w ||| 2 ^ f) := bt_set
theorem s9_sizes (hw : wfS z) (hv : CV ki z I) (h : ∀ I', SC I I' → Post (v_sizes z x) I') : wp_X9_sizes ki (s_n z) x I Post := by
  have hn := hw.1
  have hrq : ∀ q ∈ s_r z, q.1 < s_n z := fun q hq => (hw.2.2.2.2.2.1.2 q hq).1
  unfold wp_X9_sizes
  unfold v_sizes at h
  refine w_isDesk hw.1 hv.1 ?_
  rw [ite01]
  refine t_if (fun hx => ?_) (fun hx => ?_)
  · simp only [if_pos hx] at h
    obtain ⟨e, -, hk⟩ := hx.n (by omega)
    rw [e]
    generalize x.toNatClampNeg = k at *
    obtain ⟨k3, f1, f5⟩ := hw.2.2.2.2.1 k hk
    refine P_others hw hv hk (fun hO I1 hs1 => ?_) (fun hO I1 hs1 => ?_)
    · rw [if_neg (by decide)]
      have key : ∀ n f w (J : Mm), f + n = 6 → w < 256 → SC I J → (∀ I', SC I I' → Post (nI (bst (fun f => aSo (zf z (va_up (s_f z) k f))) n f w)) I') → 1 ≤ f → wp_X9_sizes_22 ki (s_n z) Post (n + 1) (nI k) (nI w) (nI f) J := by
        intro n
        induction n with
        | zero =>
          intro f w J hf hw2 hs hq h1
          unfold wp_X9_sizes_22
          exact t_lt 5 f rfl rfl (by omega) (by omega) (fun _ => hq J hs) (fun q => by omega)
        | succ n ih =>
          intro f w J hf hw2 hs hq h1
          have hvJ := hv.sc hn hs
          unfold wp_X9_sizes_22
          refine t_lt 5 f rfl rfl (by omega) (by omega) (fun _ => by omega) (fun q => ⟨vp_in_nI hk (by omega), ?_⟩)
          rw [nI_clamp (by omega)]
          refine p_kind k3 (hvJ.2.2.2.1 k hk).1 ?_
          refine P_hits hw hvJ k3 h1 (by omega) (fun J2 hs2 => ?_)
          have hvJ2 := hvJ.sc hn hs2
          simp only [bst] at hq
          refine P_agree hw hvJ2 hk (fun ha => ?_) (fun ha => ?_)
          · rw [if_neg (by decide)]
            unfold wp_X9_sizes_60
            rw [or2 w hw2 f (by omega), show nI f + 1 = nI (f + 1) from nI_1 f]
            rw [if_pos ((aSo_f hrq).mpr ⟨hO, ha⟩)] at hq
            exact ih (f + 1) _ J2 (by omega) (bt_sl w hw2 f (by omega)) (hs.tr hs2) hq (by omega)
          · rw [if_pos rfl]
            unfold wp_X9_sizes_60
            rw [show nI w ||| (0 : Int32) = nI w from Int32.or_zero, show nI f + 1 = nI (f + 1) from nI_1 f]
            rw [if_neg (fun hh => ha ((aSo_f hrq).mp hh).2), Nat.or_zero] at hq
            exact ih (f + 1) _ J2 (by omega) hw2 (hs.tr hs2) hq (by omega)
      exact ⟨_, key 5 1 0 I1 (by omega) (by decide) hs1 h (by omega)⟩
    · rw [if_pos rfl]
      have := h I1 hs1
      rw [bst_0 (fun f hh => hO ((aSo_f hrq).mp hh).1)] at this
      exact this
  · simp only [if_neg hx] at h; exact h I SC.rf
theorem s9_kinds (hw : wfS z) (hv : CV ki z I) (h : ∀ I', SC I I' → Post (v_kinds z x) I') : wp_X9_kinds ki (s_n z) x I Post := by
  have hn := hw.1
  have hrq : ∀ q ∈ s_r z, q.1 < s_n z := fun q hq => (hw.2.2.2.2.2.1.2 q hq).1
  unfold wp_X9_kinds
  unfold v_kinds at h
  refine w_isDesk hw.1 hv.1 ?_
  rw [ite01]
  refine t_if (fun hx => ?_) (fun hx => ?_)
  · simp only [if_pos hx] at h
    obtain ⟨e, -, hk⟩ := hx.n (by omega)
    rw [e]
    generalize x.toNatClampNeg = k at *
    obtain ⟨k3, f1, f5⟩ := hw.2.2.2.2.1 k hk
    refine P_others hw hv hk (fun hO I1 hs1 => ?_) (fun hO I1 hs1 => ?_)
    · rw [if_neg (by decide)]
      have key : ∀ n f w (J : Mm), f + n = 3 → w < 256 → SC I J → (∀ I', SC I I' → Post (nI (bst (fun f => aSo (zk z (va_up (s_k z) k f))) n f w)) I') → wp_X9_kinds_22 ki (s_n z) Post (n + 1) (nI k) (nI w) (nI f) J := by
        intro n
        induction n with
        | zero =>
          intro f w J hf hw2 hs hq
          unfold wp_X9_kinds_22
          exact t_le 3 f rfl rfl (by omega) (by omega) (fun _ => hq J hs) (fun q => by omega)
        | succ n ih =>
          intro f w J hf hw2 hs hq
          have hvJ := hv.sc hn hs
          unfold wp_X9_kinds_22
          refine t_le 3 f rfl rfl (by omega) (by omega) (fun _ => by omega) (fun q => ⟨vp_in_nI hk (by omega), ?_⟩)
          rw [nI_clamp (by omega), (hvJ.2.2.2.1 k hk).2.1]
          refine P_hits hw hvJ (by omega) f1 (by omega) (fun J2 hs2 => ?_)
          have hvJ2 := hvJ.sc hn hs2
          simp only [bst] at hq
          refine P_agree hw hvJ2 hk (fun ha => ?_) (fun ha => ?_)
          · rw [if_neg (by decide)]
            unfold wp_X9_kinds_60
            rw [or2 w hw2 f (by omega), show nI f + 1 = nI (f + 1) from nI_1 f]
            rw [if_pos ((aSo_k hrq).mpr ⟨hO, ha⟩)] at hq
            exact ih (f + 1) _ J2 (by omega) (bt_sl w hw2 f (by omega)) (hs.tr hs2) hq
          · rw [if_pos rfl]
            unfold wp_X9_kinds_60
            rw [show nI w ||| (0 : Int32) = nI w from Int32.or_zero, show nI f + 1 = nI (f + 1) from nI_1 f]
            rw [if_neg (fun hh => ha ((aSo_k hrq).mp hh).2), Nat.or_zero] at hq
            exact ih (f + 1) _ J2 (by omega) hw2 (hs.tr hs2) hq
      exact ⟨_, key 3 0 0 I1 (by omega) (by decide) hs1 h⟩
    · rw [if_pos rfl]
      have := h I1 hs1
      rw [bst_0 (fun f hh => hO ((aSo_k hrq).mp hh).1)] at this
      exact this
  · simp only [if_neg hx] at h; exact h I SC.rf
end SZS
