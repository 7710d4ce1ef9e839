-- THE NEW PROGRAM
noncomputable def np_d (Tk : List tz_T) (ds : List df_D) (f : Nat) : Option df_D :=
  @dite _ (∃ (i : Nat) (d : df_D), ds[i]? = some d ∧ mn_f Tk ds i = f) (Classical.propDecidable _) (fun h => some h.choose_spec.choose) (fun _ => none)
theorem np_s {Tk : List tz_T} {ds : List df_D} (hu : ∀ i j, i < ds.length → j < ds.length → mn_f Tk ds i = mn_f Tk ds j → i = j) {i : Nat} {d : df_D} (h : ds[i]? = some d) : np_d Tk ds (mn_f Tk ds i) = some d := by
  unfold np_d
  have hh : ∃ (j : Nat) (c : df_D), ds[j]? = some c ∧ mn_f Tk ds j = mn_f Tk ds i := ⟨i, d, h, rfl⟩
  rw [dif_pos hh]
  have q := hh.choose_spec.choose_spec
  have il : ∀ (i : Nat) (d : df_D), ds[i]? = some d → i < ds.length := by
    intro i d q
    rcases Nat.lt_or_ge i ds.length with w | w
    · exact w
    · rw [List.getElem?_eq_none w] at q; exact absurd q (by simp)
  have e := hu _ _ (il _ _ q.1) (il _ _ h) q.2
  have key : ∀ (j : Nat) (c : df_D), ds[j]? = some c → j = i → c = d := fun j c a b => by subst b; rw [h] at a; exact (Option.some.inj a).symm
  exact congrArg some (key _ _ q.1 e)
theorem np_n {Tk : List tz_T} {ds : List df_D} {f : Nat} (h : ¬ ∃ i, i < ds.length ∧ mn_f Tk ds i = f) : np_d Tk ds f = none := by
  unfold np_d
  rw [dif_neg]
  rintro ⟨i, d, h1, h2⟩
  refine h ⟨i, ?_, h2⟩
  rcases Nat.lt_or_ge i ds.length with w | w
  · exact w
  · rw [List.getElem?_eq_none w] at h1; exact absurd h1 (by simp)
noncomputable def np_P (P : Nat → Nat → Nat) (Tk : List tz_T) (Q : Nat → Nat → Nat) (ds : List df_D) : Nat → Nat → Nat := fun k x =>
  if k = 6 then P 6 x else
  if k = 5 then (match np_d Tk ds x with | some d => d.2.2.1 - d.2.1 | none => P 5 x) else
  match np_d Tk ds (x / 24) with
  | some d => if k ≤ 1 then Q k (d.2.1 + x % 24) else Q k (d.2.1 + x % 24) + x / 24 * 24 - d.2.1
  | none => P k x
section
variable {P : Nat → Nat → Nat} {Tk : List tz_T} {Q : Nat → Nat → Nat} {ds : List df_D} {f k : Nat} {d : df_D}
theorem np_6 : np_P P Tk Q ds 6 = P 6 := by funext x; rfl
theorem np_5s (h : np_d Tk ds f = some d) : np_P P Tk Q ds 5 f = d.2.2.1 - d.2.1 := by
  unfold np_P; rw [if_neg (by decide), if_pos rfl, h]
theorem np_5n (h : np_d Tk ds f = none) : np_P P Tk Q ds 5 f = P 5 f := by
  unfold np_P; rw [if_neg (by decide), if_pos rfl, h]
theorem np_ks {x : Nat} (hk : k < 5) (h : np_d Tk ds (x / 24) = some d) : np_P P Tk Q ds k x = if k ≤ 1 then Q k (d.2.1 + x % 24) else Q k (d.2.1 + x % 24) + x / 24 * 24 - d.2.1 := by
  unfold np_P; rw [if_neg (by omega), if_neg (by omega), h]
theorem np_kn {x : Nat} (hk : k < 5) (h : np_d Tk ds (x / 24) = none) : np_P P Tk Q ds k x = P k x := by
  unfold np_P; rw [if_neg (by omega), if_neg (by omega), h]
end
-- what load has checked
def np_H (P : Nat → Nat → Nat) (Tk : List tz_T) (Q : Nat → Nat → Nat) (ds : List df_D) (e : Nat) : Prop :=
  pg_ok P ∧ rl_le P ∧ (∀ i j, i < ds.length → j < ds.length → mn_f Tk ds i = mn_f Tk ds j → i = j) ∧
  (∀ (i : Nat) (d : df_D), ds[i]? = some d → i < ds.length ∧ mn_f Tk ds i < 5 ∧ d.2.1 < d.2.2.1 ∧ d.2.2.1 - d.2.1 ≤ 24 ∧ 120 ≤ d.2.1 ∧ d.2.2.1 ≤ e ∧
    ∀ u, d.2.1 ≤ u → u < d.2.2.1 → pg_op (Q 0 u) ∧ (Q 0 u = 1 → Q 1 u < 1000000000) ∧ (Q 0 u = 13 → Q 1 u < 5 ∧ ((∃ j, j < ds.length ∧ mn_f Tk ds j = Q 1 u) ∨ 0 < P 5 (Q 1 u))) ∧
      (d.2.1 ≤ Q 2 u ∧ Q 2 u ≤ u) ∧ (d.2.1 ≤ Q 3 u ∧ Q 3 u ≤ u) ∧ (d.2.1 ≤ Q 4 u ∧ Q 4 u ≤ u) ∧ (∀ j, j < pg_n (Q 0 u) → Q (2 + j) u < u))
section
variable {P : Nat → Nat → Nat} {Tk : List tz_T} {Q : Nat → Nat → Nat} {ds : List df_D} {e : Nat}
theorem np_c (H : np_H P Tk Q ds e) (f : Nat) : (∃ i d, ds[i]? = some d ∧ mn_f Tk ds i = f ∧ np_d Tk ds f = some d) ∨ ((¬ ∃ i, i < ds.length ∧ mn_f Tk ds i = f) ∧ np_d Tk ds f = none) := by
  by_cases h : ∃ i, i < ds.length ∧ mn_f Tk ds i = f
  · obtain ⟨i, h1, h2⟩ := h
    have hs : ds[i]? = some ds[i] := List.getElem?_eq_getElem h1
    exact Or.inl ⟨i, ds[i], hs, h2, h2 ▸ np_s H.2.2.1 hs⟩
  · exact Or.inr ⟨h, np_n h⟩
theorem np_pos (H : np_H P Tk Q ds e) {f : Nat} (h : 0 < P 5 f ∨ ∃ i, i < ds.length ∧ mn_f Tk ds i = f) : 0 < np_P P Tk Q ds 5 f := by
  rcases np_c H f with ⟨i, d, h1, h2, h3⟩ | ⟨h1, h2⟩
  · rw [np_5s h3]; have := (H.2.2.2 i d h1).2.2.1; omega
  · rw [np_5n h2]
    rcases h with h | h
    · exact h
    · exact absurd h h1
theorem np_us (H : np_H P Tk Q ds e) {u : Nat} (hu : ou_us (np_P P Tk Q ds) u) : (∃ i d, ds[i]? = some d ∧ mn_f Tk ds i = u / 24 ∧ np_d Tk ds (u / 24) = some d ∧ u % 24 < d.2.2.1 - d.2.1) ∨ ((¬ ∃ i, i < ds.length ∧ mn_f Tk ds i = u / 24) ∧ np_d Tk ds (u / 24) = none ∧ ou_us P u) := by
  obtain ⟨h1, h2⟩ := hu
  rcases np_c H (u / 24) with ⟨i, d, a, b, c⟩ | ⟨a, b⟩
  · rw [np_5s c] at h2; exact Or.inl ⟨i, d, a, b, c, h2⟩
  · rw [np_5n b] at h2; exact Or.inr ⟨a, b, h1, h2⟩
theorem np_ok (H : np_H P Tk Q ds e) : pg_ok (np_P P Tk Q ds) ∧ rl_le (np_P P Tk Q ds) := by
  have H0 := H
  obtain ⟨hP, hle, hu, hd⟩ := H
  refine ⟨⟨by rw [np_6]; exact hP.1, by rw [np_6]; exact hP.2.1, fun f => ?_, fun u us => ?_⟩, fun u us => ?_⟩
  · rcases np_c H0 f with ⟨i, d, h1, h2, h3⟩ | ⟨h1, h2⟩
    · rw [np_5s h3]; exact (hd i d h1).2.2.2.1
    · rw [np_5n h2]; exact hP.2.2.1 f
  · rcases np_us H0 us with ⟨i, d, h1, h2, h3, h4⟩ | ⟨h1, h2, h3⟩
    · obtain ⟨_, f5, FE, s24, d120, de, nd⟩ := hd i d h1
      obtain ⟨q1, q2, q3, ⟨q4, q5⟩, ⟨q6, q7⟩, ⟨q8, q9⟩, q10⟩ := nd (d.2.1 + u % 24) (by omega) (by omega)
      have k0 : np_P P Tk Q ds 0 u = Q 0 (d.2.1 + u % 24) := np_ks (by decide) h3
      have k1 : np_P P Tk Q ds 1 u = Q 1 (d.2.1 + u % 24) := np_ks (by decide) h3
      unfold pg_nd
      rw [k0, k1]
      refine ⟨q1, q2, fun q => ⟨(q3 q).1, np_pos H0 ((q3 q).2.symm)⟩, fun j hj => ?_⟩
      have n3 : pg_n (Q 0 (d.2.1 + u % 24)) ≤ 3 := by unfold pg_n; repeat' split
                                                      all_goals omega
      have kj : np_P P Tk Q ds (2 + j) u = Q (2 + j) (d.2.1 + u % 24) + u / 24 * 24 - d.2.1 := by
        rw [np_ks (by omega) h3, if_neg (by omega)]
      have lt := q10 j hj
      have ge : d.2.1 ≤ Q (2 + j) (d.2.1 + u % 24) := by
        have : j = 0 ∨ j = 1 ∨ j = 2 := by omega
        rcases this with z | z | z <;> subst z
        · exact q4
        · exact q6
        · exact q8
      rw [kj]
      omega
    · have k0 : np_P P Tk Q ds 0 u = P 0 u := np_kn (by decide) h2
      have k1 : np_P P Tk Q ds 1 u = P 1 u := np_kn (by decide) h2
      obtain ⟨q1, q2, q3, q4⟩ := hP.2.2.2 u h3
      unfold pg_nd
      rw [k0, k1]
      refine ⟨q1, q2, fun q => ⟨(q3 q).1, np_pos H0 (Or.inl (q3 q).2)⟩, fun j hj => ?_⟩
      have n3 : pg_n (P 0 u) ≤ 3 := by unfold pg_n; repeat' split
                                       all_goals omega
      rw [np_kn (by omega) h2]
      exact q4 j hj
  · rcases np_us H0 us with ⟨i, d, h1, h2, h3, h4⟩ | ⟨h1, h2, h3⟩
    · obtain ⟨_, f5, FE, s24, d120, de, nd⟩ := hd i d h1
      obtain ⟨q1, q2, q3, ⟨q4, q5⟩, ⟨q6, q7⟩, ⟨q8, q9⟩, q10⟩ := nd (d.2.1 + u % 24) (by omega) (by omega)
      have k2 : np_P P Tk Q ds 2 u = Q 2 (d.2.1 + u % 24) + u / 24 * 24 - d.2.1 := np_ks (by decide) h3
      have k3 : np_P P Tk Q ds 3 u = Q 3 (d.2.1 + u % 24) + u / 24 * 24 - d.2.1 := np_ks (by decide) h3
      have k4 : np_P P Tk Q ds 4 u = Q 4 (d.2.1 + u % 24) + u / 24 * 24 - d.2.1 := np_ks (by decide) h3
      rw [k2, k3, k4]
      omega
    · rw [np_kn (k := 2) (by decide) h2, np_kn (k := 3) (by decide) h2, np_kn (k := 4) (by decide) h2]
      exact hle u h3
-- the kinds of the new program's nodes
theorem np_k (H : np_H P Tk Q ds e) {kc : Nat → Nat} {i : Nat} {d : df_D} (hs : ds[i]? = some d) : ∀ k, k < d.2.2.1 - d.2.1 → ki_k (np_P P Tk Q ds) kc (mn_f Tk ds i * 24 + k) = ki_k Q kc (d.2.1 + k) := by
  obtain ⟨hok, _⟩ := np_ok H
  have hd := np_s H.2.2.1 hs
  obtain ⟨_, f5, FE, s24, d120, de, nd⟩ := H.2.2.2 i d hs
  have clQ : ki_cl Q (fun u => d.2.1 ≤ u ∧ u < d.2.2.1) := by
    intro u hu j hj
    obtain ⟨q1, q2, q3, ⟨q4, q5⟩, ⟨q6, q7⟩, ⟨q8, q9⟩, q10⟩ := nd u hu.1 hu.2
    have n3 : pg_n (Q 0 u) ≤ 3 := by unfold pg_n; repeat' split
                                     all_goals omega
    have lt := q10 j hj
    refine ⟨lt, ?_, by omega⟩
    have : j = 0 ∨ j = 1 ∨ j = 2 := by omega
    rcases this with z | z | z <;> subst z
    · exact q4
    · exact q6
    · exact q8
  intro k hk
  have e1 : (mn_f Tk ds i * 24 + k) / 24 = mn_f Tk ds i := by omega
  have us : ou_us (np_P P Tk Q ds) (mn_f Tk ds i * 24 + k) := ⟨by omega, by rw [e1, np_5s hd]; omega⟩
  have := ki_u (P := np_P P Tk Q ds) (kc := kc) (S := fun u => mn_f Tk ds i * 24 ≤ u ∧ u < mn_f Tk ds i * 24 + (d.2.2.1 - d.2.1)) (K := fun u => ki_k Q kc (d.2.1 + (u - mn_f Tk ds i * 24))) (by
    intro u hu j hj
    have eu : u / 24 = mn_f Tk ds i := by omega
    have uu : ou_us (np_P P Tk Q ds) u := ⟨by omega, by rw [eu, np_5s hd]; omega⟩
    obtain ⟨_, _, _, o4⟩ := hok.2.2.2 u uu
    have := o4 j hj
    exact ⟨this.1, by omega, by omega⟩) (mn_f Tk ds i * 24 + k) ⟨by omega, by omega⟩ (by
    intro v _ hv
    have ev : v / 24 = mn_f Tk ds i := by omega
    have em : v % 24 = v - mn_f Tk ds i * 24 := by omega
    have hd2 : np_d Tk ds (v / 24) = some d := by rw [ev]; exact hd
    obtain ⟨q1, q2, q3, ⟨q4, q5⟩, ⟨q6, q7⟩, ⟨q8, q9⟩, q10⟩ := nd (d.2.1 + (v - mn_f Tk ds i * 24)) (by omega) (by omega)
    have k0 : np_P P Tk Q ds 0 v = Q 0 (d.2.1 + (v - mn_f Tk ds i * 24)) := by rw [← em]; exact np_ks (by decide) hd2
    have k1 : np_P P Tk Q ds 1 v = Q 1 (d.2.1 + (v - mn_f Tk ds i * 24)) := by rw [← em]; exact np_ks (by decide) hd2
    have k2 : np_P P Tk Q ds 2 v = Q 2 (d.2.1 + (v - mn_f Tk ds i * 24)) + v / 24 * 24 - d.2.1 := by rw [← em]; exact np_ks (by decide) hd2
    have k3 : np_P P Tk Q ds 3 v = Q 3 (d.2.1 + (v - mn_f Tk ds i * 24)) + v / 24 * 24 - d.2.1 := by rw [← em]; exact np_ks (by decide) hd2
    rw [k0, k1, k2, k3]
    have a2 : d.2.1 + (Q 2 (d.2.1 + (v - mn_f Tk ds i * 24)) + v / 24 * 24 - d.2.1 - mn_f Tk ds i * 24) = Q 2 (d.2.1 + (v - mn_f Tk ds i * 24)) := by omega
    have a3 : d.2.1 + (Q 3 (d.2.1 + (v - mn_f Tk ds i * 24)) + v / 24 * 24 - d.2.1 - mn_f Tk ds i * 24) = Q 3 (d.2.1 + (v - mn_f Tk ds i * 24)) := by omega
    rw [a2, a3]
    exact ki_e clQ ⟨by omega, by omega⟩)
  rw [← this]
  rw [Nat.add_sub_cancel_left]
theorem np_v (H : np_H P Tk Q ds e) {kc : Nat → Nat} (hl : la_ok P (fun f => ∃ i, i < ds.length ∧ mn_f Tk ds i = f) kc) (ht : ∀ p, ¬ tb_b Tk Q ds e kc p) : ki_ok (np_P P Tk Q ds) kc := by
  obtain ⟨hok, hle⟩ := np_ok H
  have H0 := H
  obtain ⟨hP, hle0, hu, hd⟩ := H
  -- kept nodes
  have keep : ∀ u, (ou_us P u ∧ np_d Tk ds (u / 24) = none) → ki_k (np_P P Tk Q ds) kc u = ki_k P kc u := by
    have cl : ∀ R : Nat → Nat → Nat, (∀ u, ou_us P u → np_d Tk ds (u / 24) = none → ∀ k, k < 5 → R k u = P k u) → ki_cl R (fun u => ou_us P u ∧ np_d Tk ds (u / 24) = none) := by
      intro R hR u ⟨h1, h2⟩ j hj
      rw [hR u h1 h2 0 (by decide)] at hj
      have n3 : pg_n (P 0 u) ≤ 3 := by unfold pg_n; repeat' split
                                       all_goals omega
      rw [hR u h1 h2 (2 + j) (by omega)]
      obtain ⟨_, _, _, o4⟩ := hP.2.2.2 u h1
      have := o4 j hj
      exact ⟨this.1, pg_pu h1 this.1 this.2, by rw [this.2]; exact h2⟩
    have c1 := cl (np_P P Tk Q ds) (fun u h1 h2 k hk => np_kn hk h2)
    have c2 := cl P (fun u h1 h2 k hk => rfl)
    intro u hu
    exact ki_ag c1 c2 (fun v hv => ⟨np_kn (by decide) hv.2, np_kn (by decide) hv.2, fun _ => np_kn (by decide) hv.2, fun _ => np_kn (by decide) hv.2⟩) u hu
  refine ⟨fun u us => ?_, fun f hf hs => ?_⟩
  · rcases np_us H0 us with ⟨i, d, h1, h2, h3, h4⟩ | ⟨h1, h2, h3⟩
    · obtain ⟨_, f5, FE, s24, d120, de, nd⟩ := hd i d h1
      obtain ⟨q1, q2, q3, ⟨q4, q5⟩, ⟨q6, q7⟩, ⟨q8, q9⟩, q10⟩ := nd (d.2.1 + u % 24) (by omega) (by omega)
      have k0 : np_P P Tk Q ds 0 u = Q 0 (d.2.1 + u % 24) := np_ks (by decide) h3
      have k2 : np_P P Tk Q ds 2 u = Q 2 (d.2.1 + u % 24) + u / 24 * 24 - d.2.1 := np_ks (by decide) h3
      have k3 : np_P P Tk Q ds 3 u = Q 3 (d.2.1 + u % 24) + u / 24 * 24 - d.2.1 := np_ks (by decide) h3
      have k4 : np_P P Tk Q ds 4 u = Q 4 (d.2.1 + u % 24) + u / 24 * 24 - d.2.1 := np_ks (by decide) h3
      have tr : ∀ v, d.2.1 ≤ v → v < d.2.2.1 → ki_k (np_P P Tk Q ds) kc (v + u / 24 * 24 - d.2.1) = ki_k Q kc v := by
        intro v v1 v2
        have := np_k H0 (kc := kc) h1 (v - d.2.1) (by omega)
        rw [h2, (by omega : u / 24 * 24 + (v - d.2.1) = v + u / 24 * 24 - d.2.1), (by omega : d.2.1 + (v - d.2.1) = v)] at this
        exact this
      rw [k0, k2, k3, k4, tr _ q4 (by omega), tr _ q6 (by omega), tr _ q8 (by omega)]
      exact Classical.byContradiction (fun w => ht _ (Or.inl ⟨d.2.1 + u % 24, by omega, by omega, w, rfl⟩))
    · have f5 : u / 24 < 5 := by have := h3.1; omega
      have s24 := hP.2.2.1 (u / 24)
      have us2 := h3.2
      have m := (hl (u / 24) f5 (by omega) h1).1 u (by omega) (by omega)
      obtain ⟨⟨a1, a2⟩, ⟨b1, b2⟩, ⟨c1, c2⟩⟩ := hle0 u h3
      have us3 : ∀ v, v ≤ u → v / 24 = u / 24 → ou_us P v ∧ np_d Tk ds (v / 24) = none := fun v v1 v2 => ⟨⟨by have := h3.1; omega, by rw [v2]; omega⟩, by rw [v2]; exact h2⟩
      rw [np_kn (k := 0) (by decide) h2, np_kn (k := 2) (by decide) h2, np_kn (k := 3) (by decide) h2, np_kn (k := 4) (by decide) h2, keep _ (us3 _ a1 a2), keep _ (us3 _ b1 b2), keep _ (us3 _ c1 c2)]
      exact m
  · rcases np_c H0 f with ⟨i, d, h1, h2, h3⟩ | ⟨h1, h2⟩
    · obtain ⟨_, f5, FE, s24, d120, de, nd⟩ := hd i d h1
      rw [np_5s h3]
      have := np_k H0 (kc := kc) h1 (d.2.2.1 - d.2.1 - 1) (by omega)
      rw [h2, (by omega : f * 24 + (d.2.2.1 - d.2.1 - 1) = f * 24 + (d.2.2.1 - d.2.1) - 1), (by omega : d.2.1 + (d.2.2.1 - d.2.1 - 1) = d.2.2.1 - 1)] at this
      rw [this]
      exact Classical.byContradiction (fun w => ht _ (Or.inr ⟨i, d, h1, by rw [h2]; exact w, rfl⟩))
    · rw [np_5n h2] at hs ⊢
      have s24 := hP.2.2.1 f
      have ef : (f * 24 + P 5 f - 1) / 24 = f := by omega
      rw [keep _ ⟨⟨by omega, by rw [ef]; omega⟩, by rw [ef]; exact h2⟩]
      exact (hl f hf hs h1).2
end
