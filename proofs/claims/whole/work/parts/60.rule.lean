-- the rules, op by op
section
variable {P : Nat → Nat → Nat} {T : Nat → Option ou_O} {c : Nat} {o : ou_O}
theorem ru_l (h : ou_lf (P 0 (c / 6)) = true) : ou_rl P T c = some (ou_lv P c) := by unfold ou_rl; rw [if_pos h]
theorem ru_n (h : ¬ ou_lf (P 0 (c / 6)) = true) (ha : T (ou_ps P 2 c) = none) : ou_rl P T c = none := by unfold ou_rl; rw [if_neg h, ha]; rfl
theorem ru_s (h : ¬ ou_lf (P 0 (c / 6)) = true) (ha : T (ou_ps P 2 c) = some o) : ou_rl P T c = ou_go T (ou_md P c o) (P 0 (c / 6)) o := by unfold ou_rl; rw [if_neg h, ha]; rfl
theorem ru_e (h : ¬ ou_lf (P 0 (c / 6)) = true) (ha : T (ou_ps P 2 c) = some o) (h6 : P 0 (c / 6) ≠ 6) (h1 : ¬ o.1 = 1) : ou_rl P T c = some o := by
  rw [ru_s h ha]; simp [ou_md, h6, h1, ou_go]
theorem ru_6 (t : P 0 (c / 6) = 6) (ha : T (ou_ps P 2 c) = some o) : ou_rl P T c = if o.1 = 1 then some o else T (ou_ps P 3 c) := by
  rw [ru_s (by rw [t]; decide) ha]
  by_cases h1 : o.1 = 1
  · simp [ou_md, t, h1, ou_go]
  · simp [ou_md, t, h1, ou_go]
theorem ru_21 (t : P 0 (c / 6) = 21) (ha : T (ou_ps P 2 c) = some o) (h1 : o.1 = 1) : ou_rl P T c = if o.2.2 = 0 then some o else T (ou_ps P 3 c) := by
  rw [ru_s (by rw [t]; decide) ha]
  by_cases v : o.2.2 = 0
  · simp [ou_md, t, h1, v, ou_go]
  · simp [ou_md, t, h1, v, ou_go]
theorem ru_22 (t : P 0 (c / 6) = 22) (ha : T (ou_ps P 2 c) = some o) (h1 : o.1 = 1) : ou_rl P T c = if o.2.2 = 0 then T (ou_ps P 3 c) else some o := by
  rw [ru_s (by rw [t]; decide) ha]
  by_cases v : o.2.2 = 0
  · simp [ou_md, t, h1, v, ou_go]
  · simp [ou_md, t, h1, v, ou_go]
theorem ru_3 (t : P 0 (c / 6) = 3) (ha : T (ou_ps P 2 c) = some o) (h1 : o.1 = 1) : ou_rl P T c = if o.2.2 = 0 then T (ou_ps P 4 c) else T (ou_ps P 3 c) := by
  rw [ru_s (by rw [t]; decide) ha]
  by_cases v : o.2.2 = 0
  · simp [ou_md, t, h1, v, ou_go]
  · simp [ou_md, t, h1, v, ou_go]
theorem ru_28 (t : P 0 (c / 6) = 28) (ha : T (ou_ps P 2 c) = some o) (h1 : o.1 = 1) : ou_rl P T c = some (1, 1, -o.2.2) := by
  rw [ru_s (by rw [t]; decide) ha]; simp [ou_md, t, h1, ou_go]
theorem ru_23 (t : P 0 (c / 6) = 23 ∨ P 0 (c / 6) = 9) (ha : T (ou_ps P 2 c) = some o) (h1 : o.1 = 1) : ou_rl P T c = some (1, 2, if o.2.2 = 0 then 1 else 0) := by
  rcases t with t | t
  · rw [ru_s (by rw [t]; decide) ha]; simp [ou_md, t, h1, ou_go]
  · rw [ru_s (by rw [t]; decide) ha]; simp [ou_md, t, h1, ou_go]
theorem ru_7 (t : P 0 (c / 6) = 7) (ha : T (ou_ps P 2 c) = some o) (h1 : o.1 = 1) : ou_rl P T c = if o.2.2 = 0 then some (5, 0, 0) else T (ou_ps P 2 (ou_jn o.2.2)) := by
  rw [ru_s (by rw [t]; decide) ha]
  by_cases v : o.2.2 = 0
  · simp [ou_md, t, h1, v, ou_go]
  · simp [ou_md, t, h1, v, ou_go]
theorem ru_8 (t : P 0 (c / 6) = 8) (ha : T (ou_ps P 2 c) = some o) (h1 : o.1 = 1) : ou_rl P T c = if o.2.2 = 0 then some (5, 0, 0) else T (ou_ps P 3 (ou_jn o.2.2)) := by
  rw [ru_s (by rw [t]; decide) ha]
  by_cases v : o.2.2 = 0
  · simp [ou_md, t, h1, v, ou_go]
  · simp [ou_md, t, h1, v, ou_go]
theorem ru_13 (t : P 0 (c / 6) = 13) (ha : T (ou_ps P 2 c) = some o) (h1 : o.1 = 1) : ou_rl P T c = if o.2.2 < 0 ∨ lN (P 6 0) ≤ o.2.2 then some (4, 0, 0) else T (ou_cf P (P 1 (c / 6)) (ou_an o.2.2)) := by
  rw [ru_s (by rw [t]; decide) ha]
  by_cases v : o.2.2 < 0 ∨ lN (P 6 0) ≤ o.2.2
  · rw [if_pos v]; simp only [ou_md, t, h1, ou_go]; rw [if_pos v]; simp
  · rw [if_neg v]; simp only [ou_md, t, h1, ou_go]; rw [if_neg v]; simp
theorem ru_2 (t : 14 ≤ P 0 (c / 6) ∧ P 0 (c / 6) ≤ 20) (ha : T (ou_ps P 2 c) = some o) (h1 : o.1 = 1) : ou_rl P T c = (T (ou_ps P 3 c)).bind (fun o2 => if o2.1 = 1 then some (ou_ar (P 0 (c / 6)) o.2.2 o2.2.2) else some o2) := by
  have hl : ¬ ou_lf (P 0 (c / 6)) = true := by
    simp [ou_lf]; omega
  rw [ru_s hl ha]
  have hmd : ou_md P c o = (2, ou_ps P 3 c, o) := by
    unfold ou_md
    rw [if_neg (by omega), if_neg (by simp [h1]), if_neg (by omega), if_neg (by omega), if_neg (by omega), if_neg (by omega), if_neg (by omega), if_neg (by omega), if_neg (by omega), if_neg (by omega)]
  rw [hmd]; rfl
end
-- a table that is sound is typed, and its rules look at used cells
def tt_K (P : Nat → Nat → Nat) (c0 : Nat) : Nat → Nat := ki_k P (ki_c c0)
theorem ru_t {P : Nat → Nat → Nat} {T : Nat → Option ou_O} {c0 c : Nat} {o : ou_O} (hP : pg_ok P) (hv : rl_V P c0) (hT : ps_s P T) (h : T c = some o) : ty_o P (tt_K P c0) c o := by
  obtain ⟨k, hk⟩ := hT c o h
  exact ty_ev hP (ki_ty hP hv) k c o hk
theorem ru_p {P : Nat → Nat → Nat} {c j : Nat} (hP : pg_ok P) (hu : ou_uc P c) (hj : j < pg_n (P 0 (c / 6))) : ou_uc P (ou_ps P (2 + j) c) := by
  obtain ⟨_, _, _, h⟩ := hP.2.2.2 _ hu.1
  refine ⟨?_, by rw [ou_ps_m]; exact hu.2⟩
  rw [ou_ps_d]
  exact pg_pu hu.1 (h j hj).1 (h j hj).2
