-- THE START
def in_P (w : Nat) : Nat → Nat → Nat := fun k _ => if k = 6 then w else 0
theorem in_us {w u : Nat} : ¬ ou_us (in_P w) u := fun h => by
  have := h.2
  have e : in_P w 5 (u / 24) = 0 := rfl
  omega
theorem in_R0 {w : Nat} (h2 : 2 ≤ w) (h6 : w ≤ 6) {sf : Nat → Int32} (hs : ∀ s, s < 3 → sf s = -1) :
    i_Rel 1 (nI w, 0, -1, 0, 0, 0, 0, 120, (fun _ => 0), (fun _ => 0), (fun _ => 0), (fun _ => 0), (fun _ => 0), (fun _ => 0), (fun _ => 0), (fun _ => 0), (fun _ => 0), (fun _ => 0), (fun _ => 0), (fun _ => 0), (fun _ => 0), (fun _ => 0), (fun _ => 0), (fun _ => 0), (fun _ => 0), (fun _ => 0), (fun _ => 0), (fun _ => 0), sf, (fun _ => 0))
      (nI w, 0, -1, 0, 0, 0, (fun _ => 0), (fun _ => 0), (fun _ => 0), (fun _ => 0), (fun _ => 0), (fun _ => 0), (fun _ => 0), (fun _ => 0), (fun _ => 0), (fun _ => 0), (fun _ => 0), (fun _ => 0), (fun _ => 0), (fun _ => 0), (fun _ => 0), (fun _ => 0), (fun _ => 0), (fun _ => 0), (fun _ => 0), (fun _ => 0), (fun _ => 0), (fun _ => 0), (fun _ => 0), (fun _ => 0), (fun _ => 0), (fun _ => 0)) := by
  have s0 : ∀ f, in_P w 5 f = 0 := fun _ => rfl
  refine ⟨in_P w, 0, fun _ => 0, -1, fun _ => none, fun r => r, ⟨⟨h2, h6, fun f => Nat.zero_le _, fun u hu => absurd hu in_us⟩, ⟨0, by decide, fun u hu => absurd hu in_us, fun f _ hs => ?_⟩, Nat.zero_le _, fun i hi => absurd hi (Nat.not_lt_zero i), fun u hu => absurd hu in_us, fun s _ f x q => ?_⟩,
    ⟨rfl, rfl, rfl, fun i hi => absurd hi (Nat.not_lt_zero i), fun f _ => rfl, fun u hu => absurd hu in_us, fun u _ => rfl, fun f _ hs => ?_, fun c hc => absurd hc.1 in_us, fun s hs3 => ⟨fun _ => hs s hs3, fun f x q => ?_⟩⟩,
    ⟨rfl, rfl, rfl, fun i hi => absurd hi (Nat.not_lt_zero i), fun f _ => rfl, fun f _ hs => ?_, fun u hu => absurd hu in_us, ⟨fun r hr => absurd hr in_us, fun f _ hs => ?_, fun r s hr => absurd hr in_us, fun u hu => absurd hu in_us⟩, fun c hc => absurd hc.1 in_us, fun s hs3 => ⟨fun _ => rfl, fun f x q => ?_⟩⟩⟩
  · rw [s0] at hs; exact absurd hs (Nat.lt_irrefl 0)
  · exact absurd q (by simp)
  · rw [s0] at hs; exact absurd hs (Nat.lt_irrefl 0)
  · exact absurd q (by simp)
  · rw [s0] at hs; exact absurd hs (Nat.lt_irrefl 0)
  · rw [s0] at hs; exact absurd hs (Nat.lt_irrefl 0)
  · exact absurd q (by simp)
theorem in_255 {w : Int32} {post : SX → Prop} (h : ∀ sf, (∀ s, s < 3 → sf s = -1) → post (w, 0, -1, 0, 0, 0, 0, 120, (fun _ => 0), (fun _ => 0), (fun _ => 0), (fun _ => 0), (fun _ => 0), (fun _ => 0), (fun _ => 0), (fun _ => 0), (fun _ => 0), (fun _ => 0), (fun _ => 0), (fun _ => 0), (fun _ => 0), (fun _ => 0), (fun _ => 0), (fun _ => 0), (fun _ => 0), (fun _ => 0), (fun _ => 0), (fun _ => 0), sf, (fun _ => 0))) :
    ∃ n, wX_init_255 post w 0 (-1) 0 0 0 0 120 n 0 (fun _ => 0) (fun _ => 0) (fun _ => 0) (fun _ => 0) (fun _ => 0) (fun _ => 0) (fun _ => 0) (fun _ => 0) (fun _ => 0) (fun _ => 0) (fun _ => 0) (fun _ => 0) (fun _ => 0) (fun _ => 0) (fun _ => 0) (fun _ => 0) (fun _ => 0) (fun _ => 0) (fun _ => 0) (fun _ => 0) (fun _ => 0) (fun _ => 0) := by
  refine ⟨4, br_f (by decide) ⟨pk_in 0 3 (by decide), fun A eA x ex => ?_⟩⟩
  subst eA ex
  refine br_f (by decide) ⟨pk_in 1 3 (by decide), fun A eA x ex => ?_⟩
  subst eA ex
  refine br_f (by decide) ⟨pk_in 2 3 (by decide), fun A eA x ex => ?_⟩
  subst eA ex
  refine br_t (by decide) (h _ (fun s hs => ?_))
  have : s = 0 ∨ s = 1 ∨ s = 2 := by omega
  rcases this with q | q | q <;> subst q <;> rfl
theorem i_vc0 (k0 : Int32) : wpX_init (fun u => wpY_init (fun v => i_Rel 1 u v) k0) k0 := by
  by_cases a : 2 ≤ k0
  · refine br_t a ?_
    by_cases b : k0 ≤ 6
    · have hh : ∃ w, w < 7 ∧ k0 = nI w := by
        rcases pk_ix k0 (n := 7) (by decide) with q | q | ⟨j, hj, e⟩
        · have : (2 : Int32) < 0 := Int32.lt_of_le_of_lt a q
          exact absurd this (by decide)
        · have : (7 : Int32) ≤ 6 := Int32.le_trans q b
          exact absurd this (by decide)
        · exact ⟨j, hj, e⟩
      obtain ⟨w, w7, rfl⟩ := hh
      have w2 : 2 ≤ w := Nat.le_of_not_lt (fun q => nI_ge (b := 2) q (by decide) a)
      refine br_t b (in_255 (fun sf hs => br_t a (br_t b (in_R0 w2 (by omega) hs))))
    · exact br_f b (in_255 (fun sf hs => br_t a (br_f b (in_R0 (w := 6) (by decide) (by decide) hs))))
  · exact br_f a (in_255 (fun sf hs => br_f a (in_R0 (w := 2) (by decide) (by decide) hs)))
