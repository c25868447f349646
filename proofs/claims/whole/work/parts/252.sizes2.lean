/-! sizes, kinds of the model; odds of both -/
section SZM
variable {ki : Nat → Nat} {z : St} {I : Mm} {x y w : Int32} {Post : Int32 → Mm → Prop}
theorem m_isHit {d i : Nat} (hw : wfS z) (hv : MV z I) (hd : d < s_n z) (hi : i < (s_l z).length) (h : ∀ I', SM I I' → Post (if hitP (s_l z) (s_k z d) (s_f z d) i then 1 else 0) I') : wp_X10_isHit (nI d) (nI i) I Post := by
  have hn := hw.1
  have hl := hw.2.1
  obtain ⟨k3, f1, f5⟩ := hw.2.2.2.2.1 d hd
  unfold wp_X10_isHit
  refine ⟨vp_in_nI (by omega) (by decide), vp_in_nI (by omega) (by decide), ?_⟩
  rw [nI_clamp (by omega), nI_clamp (by omega), (hv.2.2.2.1 d hd).1, (hv.2.2.2.1 d hd).2]
  refine M_line k3 (by omega) f1 (by omega) (l := (s_l z).take i) (by rw [List.length_take]; omega) (fun p hp => hw.2.2.1 p (List.mem_of_mem_take hp)) (fun j hj => ar_take hv.2.1.2 _ j (by rw [List.length_take]; omega)) (fun J hs hr => ?_)
  refine ⟨vp_in_nI (by omega) (by decide), ?_⟩
  have hvJ := hv.sm hs
  have hok := ply_ok (k := s_k z d) f1 ((s_l z).take i) ([], 0, 0) (ok0 (s_f z d)) (fun p hp => hw.2.2.1 p (List.mem_of_mem_take hp))
  rw [hvJ.2.1.2 i hi]
  refine M_where hr hok (by omega) (hw.2.2.1 _ (mem_of_getD hi)) ?_
  have hh := h J hs
  by_cases hm : (s_l z).getD i 0 ∈ (ply (s_k z d) (s_f z d) ((s_l z).take i)).1
  · rw [if_pos hm] at hh
    rw [if_pos hm]
    have hlen : (ply (s_k z d) (s_f z d) ((s_l z).take i)).1.length ≤ s_f z d := hok.2.2.1
    have hix := List.idxOf_lt_length_of_mem hm
    refine t_lt _ 0 rfl rfl (by omega) (by decide) (fun q => absurd q (Nat.not_lt_zero _)) (fun _ => hh)
  · rw [if_neg hm] at hh
    rw [if_neg hm]
    rw [if_pos (by decide)]; exact hh
theorem m_areSo (hw : wfS z) (hv : MV z I) (h : ∀ I', SM I I' → Post (if aSo z then 1 else 0) I') : wp_X10_areSo I Post := by
  have hn := hw.1
  have hl := hw.2.1
  have hr8 := hw.2.2.2.2.2.1.1
  have hrq := hw.2.2.2.2.2.1.2
  unfold wp_X10_areSo
  have kF : ∀ n j (J : Mm), j + n = (s_r z).length → SM I J → ¬ aSo z → wp_X10_areSo_4 Post (n + 1) 0 (nI j) J := by
    intro n
    induction n with
    | zero =>
      intro j J hj hs hno
      unfold wp_X10_areSo_4
      refine t_le (s_r z).length j (hv.sm hs).2.2.2.2.1.1 rfl (by omega) (by omega) (fun _ => ⟨Or.inl rfl, ?_⟩) (fun q => by omega)
      have := h J hs
      rw [if_neg hno] at this; exact this
    | succ n ih =>
      intro j J hj hs hno
      unfold wp_X10_areSo_4
      refine t_le (s_r z).length j (hv.sm hs).2.2.2.2.1.1 rfl (by omega) (by omega) (fun q => by omega) (fun hjl => ?_)
      rw [if_pos rfl]
      unfold wp_X10_areSo_54 wp_X10_areSo_55
      rw [show nI j + 1 = nI (j + 1) from nI_1 j]
      exact ih (j + 1) J (by omega) hs hno
  have key : ∀ n j (J : Mm), j + n = (s_r z).length → SM I J → ((∀ q ∈ (s_r z).drop j, (hitP (s_l z) (s_k z q.1) (s_f z q.1) q.2.1 ↔ q.2.2 = 1)) → aSo z) → wp_X10_areSo_4 Post (n + 1) 1 (nI j) J := by
    intro n
    induction n with
    | zero =>
      intro j J hj hs hq
      unfold wp_X10_areSo_4
      refine t_le (s_r z).length j (hv.sm hs).2.2.2.2.1.1 rfl (by omega) (by omega) (fun _ => ⟨Or.inr rfl, ?_⟩) (fun q => by omega)
      have := h J hs
      rw [if_pos (hq (fun q hm => by rw [List.drop_eq_nil_of_le (by omega)] at hm; exact absurd hm List.not_mem_nil))] at this; exact this
    | succ n ih =>
      intro j J hj hs hq
      have hvJ := hv.sm hs
      unfold wp_X10_areSo_4
      refine t_le (s_r z).length j hvJ.2.2.2.2.1.1 rfl (by omega) (by omega) (fun q => by omega) (fun hjl => ?_)
      rw [if_neg (by decide)]
      refine ⟨vp_in_nI (by omega) (by decide), vp_in_nI (by omega) (by decide), ?_⟩
      obtain ⟨e1, e2, e3⟩ := hvJ.2.2.2.2.1.2 j hjl
      obtain ⟨b1, b2, b3⟩ := hrq _ (mem_gD hjl)
      rw [nI_clamp (by omega), e1, e2]
      refine m_isHit hw hvJ b1 b2 (fun J2 hs2 => ⟨vp_in_nI (by omega) (by decide), ?_⟩)
      have hs2' := hs.tr hs2
      have e4 := ((hvJ.sm hs2).2.2.2.2.1.2 j hjl).2.2
      rw [e4]
      rw [drop_gD hjl] at hq
      have hin := mem_gD hjl
      generalize (s_r z).getD j (0, 0, 0) = q at *
      have go : (hitP (s_l z) (s_k z q.1) (s_f z q.1) q.2.1 ↔ q.2.2 = 1) → wp_X10_areSo_4 Post (n + 1) 1 (nI (j + 1)) J2 := fun hh => ih (j + 1) J2 (by omega) hs2' (fun hd => hq (fun q' hm => by
        rcases List.mem_cons.mp hm with rfl | hm
        · exact hh
        · exact hd q' hm))
      have no : ¬ (hitP (s_l z) (s_k z q.1) (s_f z q.1) q.2.1 ↔ q.2.2 = 1) → wp_X10_areSo_4 Post (n + 1) 0 (nI (j + 1)) J2 := fun hh => kF n (j + 1) J2 (by omega) hs2' (fun ha => hh (ha q hin))
      have ej : nI j + 1 = nI (j + 1) := nI_1 j
      by_cases hm : hitP (s_l z) (s_k z q.1) (s_f z q.1) q.2.1
      · rw [if_pos hm]
        refine t_eq q.2.2 1 rfl rfl (by omega) (by decide) (fun e5 => ?_) (fun e5 => ?_)
        · unfold wp_X10_areSo_47 wp_X10_areSo_55
          rw [if_pos rfl, ej]
          exact go ⟨fun _ => e5, fun _ => hm⟩
        · unfold wp_X10_areSo_47 wp_X10_areSo_54 wp_X10_areSo_55
          rw [if_neg (by decide), ej]
          exact no (fun hh => e5 (hh.mp hm))
      · rw [if_neg hm]
        refine t_eq q.2.2 1 rfl rfl (by omega) (by decide) (fun e5 => ?_) (fun e5 => ?_)
        · unfold wp_X10_areSo_47 wp_X10_areSo_54 wp_X10_areSo_55
          rw [if_neg (by decide), ej]
          exact no (fun hh => hm (hh.mpr e5))
        · unfold wp_X10_areSo_47 wp_X10_areSo_55
          rw [if_pos rfl, ej]
          exact go ⟨fun h => absurd h hm, fun h => absurd h e5⟩
  exact ⟨_, key (s_r z).length 0 I (by omega) SM.rf (fun hd => hd)⟩
theorem MV_f {k f : Nat} (hv : MV z I) : MV (zf z (va_up (s_f z) k f)) (up2 I 105 k (nI f)) := by
  obtain ⟨h1, h2, h3, h4, h5, h6, h7, h8⟩ := hv
  have o : ∀ c, c ≠ 105 → up2 I 105 k (nI f) c = I c := fun c hc => up2_oc hc
  refine ⟨by rw [o 100 (by decide)]; exact h1, ⟨by rw [o 100 (by decide)]; exact h2.1, by rw [o 106 (by decide)]; exact h2.2⟩, by rw [o 100 (by decide)]; exact h3, fun d hd => ?_, ⟨by rw [o 100 (by decide)]; exact h5.1, by rw [o 122 (by decide), o 123 (by decide), o 124 (by decide)]; exact h5.2⟩, by rw [o 125 (by decide), o 126 (by decide), o 127 (by decide)]; exact h6, by rw [o 100 (by decide)]; exact h7, by rw [o 100 (by decide)]; exact h8⟩
  have hd : d < s_n z := hd
  rw [o 104 (by decide), up2_c]
  show I 104 d = nI (s_k z d) ∧ upd (I 105) k (nI f) d = nI (va_up (s_f z) k f d)
  refine ⟨(h4 d hd).1, ?_⟩
  by_cases e : d = k
  · rw [e, upd_s, va_up_self]
  · rw [upd_n _ _ e, va_up_ne _ _ e]; exact (h4 d hd).2
theorem MV_k {k f : Nat} (hv : MV z I) : MV (zk z (va_up (s_k z) k f)) (up2 I 104 k (nI f)) := by
  obtain ⟨h1, h2, h3, h4, h5, h6, h7, h8⟩ := hv
  have o : ∀ c, c ≠ 104 → up2 I 104 k (nI f) c = I c := fun c hc => up2_oc hc
  refine ⟨by rw [o 100 (by decide)]; exact h1, ⟨by rw [o 100 (by decide)]; exact h2.1, by rw [o 106 (by decide)]; exact h2.2⟩, by rw [o 100 (by decide)]; exact h3, fun d hd => ?_, ⟨by rw [o 100 (by decide)]; exact h5.1, by rw [o 122 (by decide), o 123 (by decide), o 124 (by decide)]; exact h5.2⟩, by rw [o 125 (by decide), o 126 (by decide), o 127 (by decide)]; exact h6, by rw [o 100 (by decide)]; exact h7, by rw [o 100 (by decide)]; exact h8⟩
  have hd : d < s_n z := hd
  rw [o 105 (by decide), up2_c]
  show upd (I 104) k (nI f) d = nI (va_up (s_k z) k f d) ∧ I 105 d = nI (s_f z d)
  refine ⟨?_, (h4 d hd).2⟩
  by_cases e : d = k
  · rw [e, upd_s, va_up_self]
  · rw [upd_n _ _ e, va_up_ne _ _ e]; exact (h4 d hd).1
theorem wf_f {k f : Nat} (hw : wfS z) (h1 : 1 ≤ f) (h5 : f ≤ 5) : wfS (zf z (va_up (s_f z) k f)) := by
  obtain ⟨a1, a2, a3, a4, a5, a6⟩ := hw
  refine ⟨a1, a2, a3, a4, fun d hd => ?_, a6⟩
  have := a5 d hd
  show s_k z d < 3 ∧ 1 ≤ va_up (s_f z) k f d ∧ va_up (s_f z) k f d ≤ 5
  by_cases e : d = k
  · rw [e, va_up_self]; rw [e] at this; exact ⟨this.1, h1, h5⟩
  · rw [va_up_ne _ _ e]; exact this
theorem wf_k {k f : Nat} (hw : wfS z) (h3 : f < 3) : wfS (zk z (va_up (s_k z) k f)) := by
  obtain ⟨a1, a2, a3, a4, a5, a6⟩ := hw
  refine ⟨a1, a2, a3, a4, fun d hd => ?_, a6⟩
  have := a5 d hd
  show va_up (s_k z) k f d < 3 ∧ 1 ≤ s_f z d ∧ s_f z d ≤ 5
  by_cases e : d = k
  · rw [e, va_up_self]; rw [e] at this; exact ⟨h3, this.2⟩
  · rw [va_up_ne _ _ e]; exact this
theorem vu2 (F : Nat → Nat) (k a b : Nat) : va_up (va_up F k a) k b = va_up F k b := by
  funext d
  by_cases e : d = k
  · subst e; rw [va_up_self, va_up_self]
  · rw [va_up_ne _ _ e, va_up_ne _ _ e, va_up_ne _ _ e]
theorem vu0 (F : Nat → Nat) (k : Nat) : va_up F k (F k) = F := by
  funext d
  by_cases e : d = k
  · subst e; rw [va_up_self]
  · rw [va_up_ne _ _ e]
theorem s10_sizes (hw : wfS z) (hv : MV z I) (h : ∀ I', FM I I' → MV z I' → Post (v_sizes z x) I') : wp_X10_sizes x I Post := by
  have hn := hw.1
  unfold wp_X10_sizes
  unfold v_sizes at h
  refine m_noDesk hw.1 hv.1 ?_
  rw [ite10]
  refine t_if (fun hx => ?_) (fun hx => ?_)
  · simp only [if_pos hx] at h
    obtain ⟨e, -, hk⟩ := hx.n (by omega)
    rw [e]
    generalize x.toNatClampNeg = k at *
    refine ⟨vp_in_nI (by omega) (by decide), ?_⟩
    rw [nI_clamp (by omega), (hv.2.2.2.1 k hk).2]
    have key : ∀ n f w g (J : Mm), f + n = 6 → w < 256 → FM I J → MV (zf z (va_up (s_f z) k g)) J → (∀ I', FM I I' → MV z I' → Post (nI (bst (fun f => aSo (zf z (va_up (s_f z) k f))) n f w)) I') → 1 ≤ f → wp_X10_sizes_22 Post (n + 1) (nI k) (nI (s_f z k)) (nI w) (nI f) J := by
      intro n
      induction n with
      | zero =>
        intro f w g J hf hw2 hs hvJ hq h1
        unfold wp_X10_sizes_22
        refine t_lt 5 f rfl rfl (by omega) (by omega) (fun _ => ⟨vp_in_nI (by omega) (by decide), ?_⟩) (fun q => by omega)
        rw [nI_clamp (by omega)]
        refine hq _ (hs.tr (FM.up (by decide))) ?_
        have := MV_f (k := k) (f := s_f z k) hvJ
        rw [show va_up (s_f (zf z (va_up (s_f z) k g))) k (s_f z k) = s_f z by show va_up (va_up (s_f z) k g) k (s_f z k) = _; rw [vu2, vu0]] at this
        exact this
      | succ n ih =>
        intro f w g J hf hw2 hs hvJ hq h1
        unfold wp_X10_sizes_22
        refine t_lt 5 f rfl rfl (by omega) (by omega) (fun _ => by omega) (fun q => ⟨vp_in_nI (by omega) (by decide), ?_⟩)
        rw [nI_clamp (by omega)]
        have hv2 := MV_f (k := k) (f := f) hvJ
        rw [show va_up (s_f (zf z (va_up (s_f z) k g))) k f = va_up (s_f z) k f from vu2 _ _ _ _] at hv2
        have hv2 : MV (zf z (va_up (s_f z) k f)) (up2 J 105 k (nI f)) := hv2
        refine m_areSo (wf_f (k := k) hw h1 (by omega)) hv2 (fun J2 hs2 => ?_)
        have hf2 : FM I J2 := (hs.tr (FM.up (by decide))).tr hs2.fm
        have hv3 := hv2.sm hs2
        simp only [bst] at hq
        by_cases ha : aSo (zf z (va_up (s_f z) k f))
        · rw [if_pos ha] at hq
          rw [if_pos ha, if_neg (by decide)]
          unfold wp_X10_sizes_52
          rw [or2 w hw2 f (by omega), show nI f + 1 = nI (f + 1) from nI_1 f]
          exact ih (f + 1) _ f J2 (by omega) (bt_sl w hw2 f (by omega)) hf2 hv3 hq (by omega)
        · rw [if_neg ha, Nat.or_zero] at hq
          rw [if_neg ha, if_pos rfl]
          unfold wp_X10_sizes_52
          rw [show nI w ||| (0 : Int32) = nI w from Int32.or_zero, show nI f + 1 = nI (f + 1) from nI_1 f]
          exact ih (f + 1) _ f J2 (by omega) hw2 hf2 hv3 hq (by omega)
    exact ⟨_, key 5 1 0 (s_f z k) I (by omega) (by decide) FM.rf (by rw [vu0]; exact hv) h (by omega)⟩
  · simp only [if_neg hx] at h; exact h I FM.rf hv
theorem s10_kinds (hw : wfS z) (hv : MV z I) (h : ∀ I', FM I I' → MV z I' → Post (v_kinds z x) I') : wp_X10_kinds x I Post := by
  have hn := hw.1
  unfold wp_X10_kinds
  unfold v_kinds at h
  refine m_noDesk hw.1 hv.1 ?_
  rw [ite10]
  refine t_if (fun hx => ?_) (fun hx => ?_)
  · simp only [if_pos hx] at h
    obtain ⟨e, -, hk⟩ := hx.n (by omega)
    rw [e]
    generalize x.toNatClampNeg = k at *
    obtain ⟨k3, f1, f5⟩ := hw.2.2.2.2.1 k hk
    refine ⟨vp_in_nI (by omega) (by decide), ?_⟩
    rw [nI_clamp (by omega), (hv.2.2.2.1 k hk).1]
    have key : ∀ n f w g (J : Mm), f + n = 3 → w < 256 → FM I J → MV (zk z (va_up (s_k z) k g)) J → (∀ I', FM I I' → MV z I' → Post (nI (bst (fun f => aSo (zk z (va_up (s_k z) k f))) n f w)) I') → wp_X10_kinds_22 Post (n + 1) (nI k) (nI (s_k z k)) (nI w) (nI f) J := by
      intro n
      induction n with
      | zero =>
        intro f w g J hf hw2 hs hvJ hq
        unfold wp_X10_kinds_22
        refine t_le 3 f rfl rfl (by omega) (by omega) (fun _ => ⟨vp_in_nI (by omega) (by decide), ?_⟩) (fun q => by omega)
        rw [nI_clamp (by omega)]
        refine hq _ (hs.tr (FM.up (by decide))) ?_
        have := MV_k (k := k) (f := s_k z k) hvJ
        rw [show va_up (s_k (zk z (va_up (s_k z) k g))) k (s_k z k) = s_k z by show va_up (va_up (s_k z) k g) k (s_k z k) = _; rw [vu2, vu0]] at this
        exact this
      | succ n ih =>
        intro f w g J hf hw2 hs hvJ hq
        unfold wp_X10_kinds_22
        refine t_le 3 f rfl rfl (by omega) (by omega) (fun _ => by omega) (fun q => ⟨vp_in_nI (by omega) (by decide), ?_⟩)
        rw [nI_clamp (by omega)]
        have hv2 := MV_k (k := k) (f := f) hvJ
        rw [show va_up (s_k (zk z (va_up (s_k z) k g))) k f = va_up (s_k z) k f from vu2 _ _ _ _] at hv2
        have hv2 : MV (zk z (va_up (s_k z) k f)) (up2 J 104 k (nI f)) := hv2
        refine m_areSo (wf_k (k := k) hw (by omega)) hv2 (fun J2 hs2 => ?_)
        have hf2 : FM I J2 := (hs.tr (FM.up (by decide))).tr hs2.fm
        have hv3 := hv2.sm hs2
        simp only [bst] at hq
        by_cases ha : aSo (zk z (va_up (s_k z) k f))
        · rw [if_pos ha] at hq
          rw [if_pos ha, if_neg (by decide)]
          unfold wp_X10_kinds_52
          rw [or2 w hw2 f (by omega), show nI f + 1 = nI (f + 1) from nI_1 f]
          exact ih (f + 1) _ f J2 (by omega) (bt_sl w hw2 f (by omega)) hf2 hv3 hq
        · rw [if_neg ha, Nat.or_zero] at hq
          rw [if_neg ha, if_pos rfl]
          unfold wp_X10_kinds_52
          rw [show nI w ||| (0 : Int32) = nI w from Int32.or_zero, show nI f + 1 = nI (f + 1) from nI_1 f]
          exact ih (f + 1) _ f J2 (by omega) hw2 hf2 hv3 hq
    exact ⟨_, key 3 0 0 (s_k z k) I (by omega) (by decide) FM.rf (by rw [vu0]; exact hv) h⟩
  · simp only [if_neg hx] at h; exact h I FM.rf hv
end SZM
/-! odds -/
def cmF : Nat → Int64 → Int64 → Option Int64
  | 0, _, _ => none
  | n + 1, a, b => if lg_cmp a 0 ≤ 0 then some b else if a = 0 then none else cmF n (b - b / a * a) a
def shF : Nat → Int64 → Int64 → Option Int64
  | 0, _, _ => none
  | n + 1, a, b => if lg_cmp b 0 = 0 then some a else if b = 0 then none else shF n b (a - a / b * b)
def upF (m : Nat) : Nat → Int64
  | 0 => 1
  | j + 1 => upF m j * (nI m).toInt64
def dnF : Nat → Int64
  | 0 => 1
  | j + 1 => dnF j * 8
def gF (m n : Nat) : Int64 := (shF 12 (upF m n) (dnF n)).getD 1
theorem gF_1 : ∀ m, m < 6 → ∀ n, n < 4 → shF 12 (upF m n) (dnF n) = some (gF m n) ∧ ¬ gF m n = 0 := by decide +kernel
theorem gF_2 : ∀ m, m < 6 → ∀ n, n < 4 → ∃ r, cmF 12 (upF m n) (dnF n) = some r ∧ (if r < 1 then 1 else r) = gF m n := by
  have h : ∀ m, m < 6 → ∀ n, n < 4 → (cmF 12 (upF m n) (dnF n)).isSome = true ∧ (if (cmF 12 (upF m n) (dnF n)).getD 1 < 1 then 1 else (cmF 12 (upF m n) (dnF n)).getD 1) = gF m n := by decide +kernel
  intro m hm n hn
  obtain ⟨h1, h2⟩ := h m hm n hn
  obtain ⟨r, e⟩ := Option.isSome_iff_exists.mp h1
  exact ⟨r, e, by rw [e] at h2; exact h2⟩
def v_odds (z : St) (x y w : Int32) : Int64 := if InR x 0 (s_n z) then (if InR y 0 4 then (if InR w 0 2 then (if w = 0 then upF (now z x.toNatClampNeg).1.length y.toNatClampNeg / gF (now z x.toNatClampNeg).1.length y.toNatClampNeg else dnF y.toNatClampNeg / gF (now z x.toNatClampNeg).1.length y.toNatClampNeg) else (-9223372036854775808)) else (-9223372036854775808)) else (-9223372036854775808)
section ODS
variable {ki : Nat → Nat} {z : St} {I : Mm} {x y w : Int32} {Post : Int64 → Mm → Prop}
theorem w_cm {K : Int64 → Mm → Prop} : ∀ n a b x8 r, cmF n a b = some r → x8 + n ≤ 64 → K r I → wp_X9_commonMeasure_9 K Post n a b (nI x8) I := by
  intro n
  induction n with
  | zero => intro a b x8 r h; exact absurd h (by simp [cmF])
  | succ n ih =>
    intro a b x8 r h hx hK
    unfold wp_X9_commonMeasure_9
    refine t_le 64 x8 rfl rfl (by decide) (by omega) (fun q => by omega) (fun _ => ?_)
    simp only [cmF] at h
    refine t_if (fun q => ?_) (fun q => ?_)
    · rw [if_pos q] at h
      rw [Option.some.inj h]; exact hK
    · rw [if_neg q] at h
      by_cases h0 : a = 0
      · rw [if_pos h0] at h; exact absurd h (by simp)
      · rw [if_neg h0] at h
        refine ⟨h0, ?_⟩
        rw [show nI x8 + 1 = nI (x8 + 1) from nI_1 x8]
        exact ih _ _ (x8 + 1) r h (by omega) hK
theorem m_sh {K : Int64 → Int64 → Int32 → Int64 → Mm → Prop} {y0 y2 : Int64} {x4 : Int32} : ∀ n a b r, shF n a b = some r → K y0 y2 x4 r I → wp_X10_share_6 K Post n y0 y2 x4 a b I := by
  intro n
  induction n with
  | zero => intro a b r h; exact absurd h (by simp [shF])
  | succ n ih =>
    intro a b r h hK
    unfold wp_X10_share_6
    simp only [shF] at h
    refine t_if (fun q => ?_) (fun q => ?_)
    · rw [if_pos q] at h
      rw [Option.some.inj h]; exact hK
    · rw [if_neg q] at h
      by_cases h0 : b = 0
      · rw [if_pos h0] at h; exact absurd h (by simp)
      · rw [if_neg h0] at h
        exact ⟨h0, ih _ _ r h hK⟩
theorem s9_odds (hw : wfS z) (hv : CV ki z I) (h : Post (v_odds z x y w) I) : wp_X9_odds ki (s_n z) x y w I Post := by
  have hn := hw.1
  unfold wp_X9_odds
  unfold v_odds at h
  refine w_isDesk hw.1 hv.1 ?_
  rw [ite01]
  refine t_if (fun hx => ?_) (fun hx => ?_)
  · rw [if_pos hx] at h
    obtain ⟨e, -, hk⟩ := hx.n (by omega)
    refine w9 (a := 0) (b := 4) (by decide) (by decide) ?_
    rw [ite01]
    refine t_if (fun hy => ?_) (fun hy => ?_)
    · rw [if_pos hy] at h
      obtain ⟨ey, -, hy4⟩ := hy.n (by decide)
      refine w9 (a := 0) (b := 2) (by decide) (by decide) ?_
      rw [ite01]
      refine t_if (fun hz => ?_) (fun hz => ?_)
      · rw [if_pos hz] at h
        rw [e, ey]
        generalize x.toNatClampNeg = k at *
        generalize y.toNatClampNeg = n at *
        obtain ⟨ok, k3, f1, f5⟩ := wf_now hw hk
        have hlen := ok.2.2.1
        obtain ⟨hki, hr⟩ := hv.2.2.2.1 _ hk
        have key : ∀ i j, j + i = n → wp_X9_odds_39 ki (s_n z) (fun x3 y4 y6 I => wp_X9_odds_74 ki (s_n z) Post x3 y4 y6 I) Post (i + 1) (nI k) (nI n) w (upF (now z k).1.length j) (dnF j) (nI j) I := by
          intro i
          induction i with
          | zero =>
            intro j hj
            unfold wp_X9_odds_39
            refine t_le n j rfl rfl (by omega) (by omega) (fun _ => ?_) (fun q => by omega)
            have : j = n := by omega
            subst this
            show wp_X9_odds_74 ki (s_n z) Post w _ _ I
            unfold wp_X9_odds_74 wp_X9_commonMeasure
            obtain ⟨r, e1, e2⟩ := gF_2 (now z k).1.length (by omega) j hy4
            have h0 := (gF_1 (now z k).1.length (by omega) j hy4).2
            refine ⟨12, w_cm 12 _ _ 0 r e1 (by decide) ?_⟩
            show wp_X9_commonMeasure_44 _ r I
            unfold wp_X9_commonMeasure_44
            rw [e2]
            refine t_if (fun q => ⟨h0, ?_⟩) (fun q => ⟨h0, ?_⟩)
            · rw [if_pos q] at h; exact h
            · rw [if_neg q] at h; exact h
          | succ i ih =>
            intro j hj
            unfold wp_X9_odds_39
            refine t_le n j rfl rfl (by omega) (by omega) (fun q => by omega) (fun _ => ⟨vp_in_nI hk (by omega), ?_⟩)
            rw [nI_clamp (by omega), hr.2.1, show nI j + 1 = nI (j + 1) from nI_1 j]
            exact ih (j + 1) (by omega)
        exact ⟨_, key n 0 (by omega)⟩
      · rw [if_neg hz] at h; exact h
    · rw [if_neg hy] at h; exact h
  · rw [if_neg hx] at h; exact h
theorem s10_odds (hw : wfS z) (hv : MV z I) (h : ∀ I', SM I I' → Post (v_odds z x y w) I') : wp_X10_odds x y w I Post := by
  have hn := hw.1
  unfold wp_X10_odds
  unfold v_odds at h
  refine m_noDesk hw.1 hv.1 ?_
  rw [ite10]
  refine t_if (fun hx => ?_) (fun hx => ?_)
  · simp only [if_pos hx] at h
    obtain ⟨e, -, hk⟩ := hx.n (by omega)
    refine w10 (a := 0) (b := 4) (by decide) (by decide) ?_
    rw [ite01]
    refine t_if (fun hy => ?_) (fun hy => ?_)
    · simp only [if_pos hy] at h
      obtain ⟨ey, -, hy4⟩ := hy.n (by decide)
      refine w10 (a := 0) (b := 2) (by decide) (by decide) ?_
      rw [ite01]
      refine t_if (fun hz => ?_) (fun hz => ?_)
      · simp only [if_pos hz] at h
        obtain ⟨ok, k3, f1, f5⟩ := wf_now hw hk
        have hlen := ok.2.2.1
        refine M_now hw hv hx (fun J hs hr => ?_)
        have h := h J hs
        rw [ey]
        generalize x.toNatClampNeg = k at *
        generalize y.toNatClampNeg = n at *
        have key : ∀ i j, j + i = n → wp_X10_odds_48 (fun x3 y4 y6 I => wp_X10_odds_78 Post x3 y4 y6 I) Post (i + 1) (nI n) w (upF (now z k).1.length j) (dnF j) (nI j) J := by
          intro i
          induction i with
          | zero =>
            intro j hj
            unfold wp_X10_odds_48
            refine t_le n j rfl rfl (by omega) (by omega) (fun _ => ?_) (fun q => by omega)
            have : j = n := by omega
            subst this
            show wp_X10_odds_78 Post w _ _ J
            unfold wp_X10_odds_78 wp_X10_share
            obtain ⟨e1, h0⟩ := gF_1 (now z k).1.length (by omega) j hy4
            refine ⟨12, m_sh 12 _ _ _ e1 ?_⟩
            show wp_X10_share_31 _ _ _ _ _ J
            unfold wp_X10_share_31
            refine t_if (fun q => ⟨h0, ?_⟩) (fun q => ⟨h0, ?_⟩)
            · rw [if_pos q] at h; exact h
            · rw [if_neg q] at h; exact h
          | succ i ih =>
            intro j hj
            unfold wp_X10_odds_48
            refine t_le n j rfl rfl (by omega) (by omega) (fun q => by omega) (fun _ => ?_)
            rw [hr.2.2.1, show nI j + 1 = nI (j + 1) from nI_1 j]
            exact ih (j + 1) (by omega)
        exact ⟨_, key n 0 (by omega)⟩
      · simp only [if_neg hz] at h; exact h I SM.rf
    · simp only [if_neg hy] at h; exact h I SM.rf
  · simp only [if_neg hx] at h; exact h I SM.rf
end ODS
