/-! the desk's and the play's rows, over the memory itself -/
def fr2 (I I' : Mm) (d : Nat) : Prop := ∀ c, c ≠ d → c ≠ d + 20 → I' c = I c
theorem fr2.rf {I : Mm} {d : Nat} : fr2 I I d := fun _ _ _ => rfl
theorem fr2.tr {I J K : Mm} {d : Nat} (h1 : fr2 I J d) (h2 : fr2 J K d) : fr2 I K d := fun c a b => (h2 c a b).trans (h1 c a b)
theorem fr2.mk {I : Mm} {d : Nat} {D A : Nat → Int32} : fr2 I (mk2 I d (d + 20) D A) d := fun c a b => mk2_o a b
theorem fr2.fc {I J : Mm} {d : Nat} (h : fr2 I J d) (hd : d < 80) : FC I J := fun c hc => h c (by omega) (by omega)
theorem fr2.sc {I J : Mm} {k : Nat} (h : fr2 I J (30 + k)) (hk : k < 3) : SC I J := fun c hc => h c (fun e => hc (by subst e; rcases (show k = 0 ∨ k = 1 ∨ k = 2 by omega) with rfl | rfl | rfl <;> decide)) (fun e => hc (by subst e; rcases (show k = 0 ∨ k = 1 ∨ k = 2 by omega) with rfl | rfl | rfl <;> decide))
section WRP
variable {ki : Nat → Nat} {d : Nat} {I : Mm} {f : Nat} {s : DS}
theorem P_pages {Post : Int32 → Mm → Prop} (hr : rp (I d) (I (d + 20)) f s) (hk : okD f s) (hf : f ≤ 8) (h : Post (nI (setL s.1)) I) : wp_X3_pages ki d I Post := by
  have := p_pages (ki := ki) (I := I) (d := d) (Post := Post) hr hk hf (by rw [mk2_self]; exact h)
  rw [mk2_self] at this; exact this
theorem P_next {k : Nat} {Post : Int32 → Mm → Prop} (hk3 : k < 3) (hki : ki d = kc k) (hr : rp (I d) (I (d + 20)) f s) (hk : okD f s) (hf : f ≤ 8) (hf1 : 1 ≤ f) (h : Post (goV k f s) I) : wp_X3_nextToGo ki d I Post := by
  have := p_next (I := I) (d := d) (Post := Post) hk3 hki hr hk hf hf1 (by rw [mk2_self]; exact h)
  rw [mk2_self] at this; exact this
theorem P_clear {g : Nat} {Post : Mm → Prop} (h : ∀ I', fr2 I I' d → rp (I' d) (I' (d + 20)) g ([], 0, 0) → Post I') : wp_X3_clear ki d (nI g) I Post := by
  have := p_clear (ki := ki) (I := I) (d := d) (D := I d) (A := I (d + 20)) (g := g) (Post := Post) (fun D' hr => h _ fr2.mk (by rw [mk2_d (dne d), mk2_r]; exact hr))
  rw [mk2_self] at this; exact this
theorem P_serve {k p : Nat} {Post : Int32 → Mm → Prop} (hk3 : k < 3) (hki : ki d = kc k) (hr : rp (I d) (I (d + 20)) f s) (hk : okD f s) (hf : f ≤ 8) (hf1 : 1 ≤ f) (hp : p < 8) (h : ∀ I', fr2 I I' d → rp (I' d) (I' (d + 20)) f (stp k f s p) → Post (if p ∈ s.1 then 1 else 0) I') : wp_X3_serve ki d (nI p) I Post := by
  have := p_serve (I := I) (d := d) (Post := Post) hk3 hki hr hk hf hf1 hp (fun D' A' hr => h _ fr2.mk (by rw [mk2_d (dne d), mk2_r]; exact hr))
  rw [mk2_self] at this; exact this
theorem P_become {o : Nat} {Post : Mm → Prop} (h1 : o ≠ d) (h2 : o ≠ d + 20) (hr : rp (I o) (I (o + 20)) f s) (hk : okD f s) (hf : f ≤ 8) (h : ∀ I', fr2 I I' d → rp (I' d) (I' (d + 20)) f s → Post I') : wp_X3_become ki d o I Post :=
  p_become h1 h2 hr hk hf (fun D' A' hr => h _ fr2.mk (by rw [mk2_d (dne d), mk2_r]; exact hr))
theorem SM.mk {D A : Nat → Int32} (h : smD (I 100) D) : SM I (mk2 I 100 118 D A) := by
  refine ⟨fun c hc => mk2_o (fun e => hc (by subst e; decide)) (fun e => hc (by subst e; decide)), fun j hj => ?_⟩
  rw [mk2_d mne]
  refine h j ?_
  simp only [scJ, List.mem_cons, List.not_mem_nil, or_false] at hj
  omega
theorem M_line {k n : Nat} {l : List Nat} {Post : Mm → Prop} (hk3 : k < 3) (hf : f ≤ 8) (hf1 : 1 ≤ f) (hn : n ≤ 24) (hl : l.length = n) (hlp : ∀ p ∈ l, p < 8) (ha : ∀ j, j < n → I 106 j = nI (l.getD j 0)) (h : ∀ I', SM I I' → mp (I' 100) (I' 118) k f (ply k f l) → Post I') : wp_X10_playsLine (nI k) (nI f) (nI n) I Post :=
  m_line hk3 hf hf1 hn hl hlp ha (fun D' A' hs hr => h _ (SM.mk hs) (by rw [mk2_d mne, mk2_r]; exact hr))
theorem M_plays {k p : Nat} {Post : Int32 → Mm → Prop} (hk3 : k < 3) (hr : mp (I 100) (I 118) k f s) (hk : okD f s) (hf : f ≤ 8) (hf1 : 1 ≤ f) (hp : p < 8) (h : ∀ I', SM I I' → mp (I' 100) (I' 118) k f (stp k f s p) → Post (if p ∈ s.1 then 0 else 1) I') : wp_X10_plays (nI p) I Post := by
  have := m_plays (I := I) (Post := Post) hk3 hr hk hf hf1 hp (fun D' A' hs hr => h _ (SM.mk hs) (by rw [mk2_d mne, mk2_r]; exact hr))
  rw [mk2_self] at this; exact this
theorem M_set {k : Nat} {Post : Int32 → Mm → Prop} (hr : mp (I 100) (I 118) k f s) (hk : okD f s) (hf : f ≤ 8) (h : Post (nI (setL s.1)) I) : wp_X10_playSet I Post := by
  have := m_set (I := I) (Post := Post) hr hk hf (by rw [mk2_self]; exact h)
  rw [mk2_self] at this; exact this
theorem M_go {k : Nat} {Post : Int32 → Mm → Prop} (hk3 : k < 3) (hr : mp (I 100) (I 118) k f s) (hk : okD f s) (hf : f ≤ 8) (hf1 : 1 ≤ f) (h : Post (goV k f s) I) : wp_X10_wouldGo I Post := by
  have := m_go (I := I) (Post := Post) hk3 hr hk hf hf1 (by rw [mk2_self]; exact h)
  rw [mk2_self] at this; exact this
theorem M_where {k p : Nat} {Post : Int32 → Mm → Prop} (hr : mp (I 100) (I 118) k f s) (hk : okD f s) (hf : f ≤ 8) (hp : p < 8) (h : Post (if p ∈ s.1 then nI (s.1.idxOf p) else (-9)) I) : wp_X10_whereLies (nI p) I Post := by
  have := m_where (I := I) (Post := Post) hr hk hf hp (by rw [mk2_self]; exact h)
  rw [mk2_self] at this; exact this
end WRP
/-- a desk's kinds and frames, its numbers, as the state has them -/
theorem wf_now {z : St} (hw : wfS z) {k : Nat} (hk : k < s_n z) : okD (s_f z k) (now z k) ∧ s_k z k < 3 ∧ 1 ≤ s_f z k ∧ s_f z k ≤ 5 := by
  obtain ⟨h1, h2, h3, h4, h5, -⟩ := hw
  have := h5 k hk
  exact ⟨ply_ok this.2.1 _ _ (ok0 _) (fun p hp => h3 p (List.mem_of_mem_take hp)), this⟩
theorem ar_take {A : Nat → Int32} {L : List Nat} (h : ar A L) (n : Nat) : ∀ j, j < (L.take n).length → A j = nI ((L.take n).getD j 0) := by
  intro j hj
  rw [List.length_take] at hj
  rw [h j (by omega)]
  congr 1
  simp [List.getD_eq_getElem?_getD, List.getElem?_take, show j < n by omega]
/-- the model plays a desk as it is now -/
theorem M_now {z : St} {I : Mm} {x : Int32} {Post : Mm → Prop} (hw : wfS z) (hv : MV z I) (hx : InR x 0 (s_n z)) (h : ∀ I', SM I I' → mp (I' 100) (I' 118) (s_k z x.toNatClampNeg) (s_f z x.toNatClampNeg) (now z x.toNatClampNeg) → Post I') : wp_X10_playsNow x I Post := by
  have hn := hw.1
  have hc := hw.2.2.2.1
  have hl := hw.2.1
  obtain ⟨e, -, hk⟩ := hx.n (by omega)
  obtain ⟨ok, k3, f1, f5⟩ := wf_now hw hk
  unfold wp_X10_playsNow
  refine ⟨vp_n e (by omega) (by decide), vp_n e (by omega) (by decide), ?_⟩
  rw [(hv.2.2.2.1 _ hk).1, (hv.2.2.2.1 _ hk).2, hv.2.2.1]
  refine M_line k3 (by omega) f1 (by omega) (l := (s_l z).take (s_c z)) (by rw [List.length_take]; omega) (fun p hp => hw.2.2.1 p (List.mem_of_mem_take hp)) (fun j hj => ar_take hv.2.1.2 _ j (by rw [List.length_take]; omega)) h
