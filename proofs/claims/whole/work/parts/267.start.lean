/-! THE START: what both constructors leave is the empty state -/
def z0 : St := (0, [], 0, fun _ => 0, fun _ => 0, [], fun _ => none, 0, 0)
theorem wf_z0 : wfS z0 := ⟨by decide, by decide, fun p h => absurd h List.not_mem_nil, Nat.le_refl 0, fun k h => absurd h (Nat.not_lt_zero _), ⟨by decide, fun q h => absurd h List.not_mem_nil⟩, fun k q _ h => (by cases h), fun _ => rfl, fun h => absurd h (Nat.lt_irrefl 0)⟩
theorem lt4 {k : Nat} (h : k < 4) : k = 0 ∨ k = 1 ∨ k = 2 ∨ k = 3 := by omega
theorem lt3 {k : Nat} (h : k < 3) : k = 0 ∨ k = 1 ∨ k = 2 := by omega
section STA
variable {g : Gm} {I : Mm}
theorem sa_A {S : List SE} (hs : Sh g S) (i : Nat) {c n : Nat} (he : S[i]? = some (c, 11, n, [])) : shA g c n := ⟨hs.m i he, hs.k i he, hs.l i he⟩
theorem sa_O {S : List SE} (hs : Sh g S) (i : Nat) {c k n : Nat} {L : List (Nat × Nat)} (he : S[i]? = some (c, k, n, L)) : shO g c k := ⟨hs.m i he, List.mem_singleton.mpr (hs.k i he)⟩
theorem st_P (hs : Sh g s10_S33) : shP g 0 := by
  refine ⟨by decide, ⟨sa_O hs 0 rfl, hs.r 0 7 rfl rfl, hs.r 0 6 rfl rfl, hs.r 0 5 rfl rfl, hs.r 0 4 rfl rfl, hs.r 0 3 rfl rfl, hs.r 0 2 rfl rfl, hs.r 0 1 rfl rfl, hs.r 0 0 rfl rfl⟩, ⟨hs.m 1 rfl, hs.k 1 rfl, hs.l 1 rfl⟩, ⟨hs.m 6 rfl, hs.k 6 rfl, hs.l 6 rfl⟩, ⟨hs.m 7 rfl, hs.k 7 rfl, hs.l 7 rfl⟩, fun k hk => ?_, fun k hk => absurd hk (Nat.not_lt_zero _), fun k hk => ?_, ⟨sa_O hs 2 rfl, sa_A hs 3 rfl, sa_A hs 4 rfl, sa_A hs 5 rfl, hs.r 2 2 rfl rfl, hs.r 2 1 rfl rfl, hs.r 2 0 rfl rfl⟩, ⟨sa_O hs 8 rfl, sa_A hs 9 rfl, hs.r 8 0 rfl rfl⟩, ⟨sa_O hs 10 rfl, sa_A hs 11 rfl, hs.r 10 0 rfl rfl⟩, ⟨sa_O hs 12 rfl, sa_A hs 13 rfl, sa_A hs 14 rfl, sa_A hs 15 rfl, hs.r 12 2 rfl rfl, hs.r 12 1 rfl rfl, hs.r 12 0 rfl rfl⟩, sa_O hs 16 rfl⟩
  · rcases lt4 hk with rfl | rfl | rfl | rfl
    · exact ⟨hs.r 1 3 rfl rfl, sa_O hs 17 rfl, sa_A hs 18 rfl, hs.r 17 0 rfl rfl⟩
    · exact ⟨hs.r 1 2 rfl rfl, sa_O hs 19 rfl, sa_A hs 20 rfl, hs.r 19 0 rfl rfl⟩
    · exact ⟨hs.r 1 1 rfl rfl, sa_O hs 21 rfl, sa_A hs 22 rfl, hs.r 21 0 rfl rfl⟩
    · exact ⟨hs.r 1 0 rfl rfl, sa_O hs 23 rfl, sa_A hs 24 rfl, hs.r 23 0 rfl rfl⟩
  · have e0 : gK g 30 = 3 := hs.k 25 rfl
    have e1 : gK g 31 = 0 := hs.k 27 rfl
    have e2 : gK g 32 = 5 := hs.k 29 rfl
    rcases lt3 hk with rfl | rfl | rfl
    · exact ⟨hs.r 7 2 rfl rfl, ⟨⟨hs.m 25 rfl, by show gK g 30 ∈ _; rw [e0]; decide⟩, sa_A hs 26 rfl, hs.r 25 0 rfl rfl⟩, e0⟩
    · exact ⟨hs.r 7 1 rfl rfl, ⟨⟨hs.m 27 rfl, by show gK g 31 ∈ _; rw [e1]; decide⟩, sa_A hs 28 rfl, hs.r 27 0 rfl rfl⟩, e1⟩
    · exact ⟨hs.r 7 0 rfl rfl, ⟨⟨hs.m 29 rfl, by show gK g 32 ∈ _; rw [e2]; decide⟩, sa_A hs 30 rfl, hs.r 29 0 rfl rfl⟩, e2⟩
theorem st_M (hs : Sh g s10_S33) : shM g := ⟨sa_O hs 31 rfl, List.forall_mem_cons.mpr ⟨⟨sa_A hs 32 rfl, hs.r 31 15 rfl rfl⟩, List.forall_mem_cons.mpr ⟨⟨sa_A hs 33 rfl, hs.r 31 14 rfl rfl⟩, List.forall_mem_cons.mpr ⟨⟨sa_A hs 34 rfl, hs.r 31 13 rfl rfl⟩, List.forall_mem_cons.mpr ⟨⟨sa_A hs 35 rfl, hs.r 31 12 rfl rfl⟩, List.forall_mem_cons.mpr ⟨⟨sa_A hs 36 rfl, hs.r 31 11 rfl rfl⟩, List.forall_mem_cons.mpr ⟨⟨sa_A hs 37 rfl, hs.r 31 10 rfl rfl⟩, List.forall_mem_cons.mpr ⟨⟨sa_A hs 38 rfl, hs.r 31 9 rfl rfl⟩, List.forall_mem_cons.mpr ⟨⟨sa_A hs 39 rfl, hs.r 31 8 rfl rfl⟩, List.forall_mem_cons.mpr ⟨⟨sa_A hs 40 rfl, hs.r 31 7 rfl rfl⟩, List.forall_mem_cons.mpr ⟨⟨sa_A hs 41 rfl, hs.r 31 6 rfl rfl⟩, List.forall_mem_cons.mpr ⟨⟨sa_A hs 42 rfl, hs.r 31 5 rfl rfl⟩, List.forall_mem_cons.mpr ⟨⟨sa_A hs 43 rfl, hs.r 31 4 rfl rfl⟩, List.forall_mem_cons.mpr ⟨⟨sa_A hs 44 rfl, hs.r 31 3 rfl rfl⟩, List.forall_mem_cons.mpr ⟨⟨sa_A hs 45 rfl, hs.r 31 2 rfl rfl⟩, List.forall_mem_cons.mpr ⟨⟨sa_A hs 46 rfl, hs.r 31 1 rfl rfl⟩, List.forall_mem_cons.mpr ⟨⟨sa_A hs 47 rfl, hs.r 31 0 rfl rfl⟩, fun _ h => absurd h List.not_mem_nil⟩⟩⟩⟩⟩⟩⟩⟩⟩⟩⟩⟩⟩⟩⟩⟩⟩
theorem st_C (hs : Sh g s10_S33) (hv : Vi I (s10_S33.map (fun e => e.1)) s10_W) : CV (gK g) z0 I := by
  refine ⟨hv 0 (by decide) 8, ⟨hv 8 (by decide) 1, fun j hj => absurd hj (Nat.not_lt_zero _)⟩, hv 0 (by decide) 9, fun k hk => absurd hk (Nat.not_lt_zero _), ⟨hv 12 (by decide) 3, fun j hj => absurd hj (Nat.not_lt_zero _)⟩, fun k hk => ?_, hv 0 (by decide) 10, hv 16 (by decide) 0, fun k hk => ?_⟩
  · rcases lt4 hk with rfl | rfl | rfl | rfl
    · exact hv 20 (by decide) 1
    · exact hv 21 (by decide) 1
    · exact hv 22 (by decide) 1
    · exact hv 23 (by decide) 1
  · rcases lt3 hk with rfl | rfl | rfl
    · exact hs.k 25 rfl
    · exact hs.k 27 rfl
    · exact hs.k 29 rfl
theorem st_N (hv : Vi I (s10_S33.map (fun e => e.1)) s10_W) : MV z0 I := by
  refine ⟨hv 100 (by decide) 1, ⟨hv 100 (by decide) 2, fun j hj => absurd hj (Nat.not_lt_zero _)⟩, hv 100 (by decide) 3, fun k hk => absurd hk (Nat.not_lt_zero _), ⟨hv 100 (by decide) 21, fun j hj => absurd hj (Nat.not_lt_zero _)⟩, fun k hk => ?_, hv 100 (by decide) 0, hv 100 (by decide) 29⟩
  rcases lt4 hk with rfl | rfl | rfl | rfl
  · exact hv 125 (by decide) 0
  · exact hv 125 (by decide) 1
  · exact hv 125 (by decide) 2
  · exact hv 125 (by decide) 3
end STA
