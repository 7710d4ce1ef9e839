-- the state of X's parser: definitions and pure transitions
def ms_o : List fr_F → List Nat
  | [] => []
  | f :: fs => if f.1 = 26 ∨ f.1 = 7 ∨ f.1 = 8 ∨ f.1 = 9 ∨ f.1 = 13 then 26 :: ms_o fs else if f.1 = 3 then 3 :: ms_o fs else if f.1 = 31 then 4 :: ms_o fs else if f.1 = 6 then 6 :: ms_o fs else ms_o fs
def fr_B (fr : Nat) : List fr_F → Prop
  | [] => True
  | f :: fs => (f.1 = 30 → f.2.2.1 = fr + 1) ∧ fr_B fr fs
abbrev df_D : Type := Nat × Nat × Nat × Nat
def df_C (tk : Nat → Nat) (Q : Nat → Nat → Nat) : List df_D → Nat → Nat → Prop
  | [], t, e => t = 0 ∧ e = 120
  | d :: r, t, e => t = d.2.2.2 + 1 ∧ e = d.2.2.1 ∧ tk d.1 = 13 ∧ tk (d.1 + 1) = 20 ∧ tk d.2.2.2 = 25 ∧ (∀ i, d.1 ≤ i → i < d.2.2.2 → tk i ≠ 25) ∧
      nd_W tk Q (d.1 + 2) d.2.2.2 (d.2.2.1 - 1) ∧ rg_o tk (d.1 + 2) d.2.2.2 ∧ Q 10 (d.2.2.1 - 1) = d.2.1 ∧ d.2.1 < d.2.2.1 ∧ 120 ≤ d.2.1 ∧ df_C tk Q r d.1 d.2.1
theorem df_Cc {tk : Nat → Nat} {Q R : Nat → Nat → Nat} {u : Nat} (e : ∀ k w, w < u → R k w = Q k w) : ∀ (dl : List df_D) (t n : Nat), n ≤ u → df_C tk Q dl t n → df_C tk R dl t n := by
  intro dl
  induction dl with
  | nil => intro t n _ h; exact h
  | cons d r ih =>
    intro t n hn h
    obtain ⟨h1, h2, h3, h4, h5, h6, h7, h8, h9, h10, h11, h12⟩ := h
    refine ⟨h1, h2, h3, h4, h5, h6, nd_Wc (fun k => e k _ (by omega)) h7, h8, ?_, h10, h11, ih _ _ (by omega) h12⟩
    rw [e _ _ (by omega)]; exact h9
def df_A (Tk : List tz_T) (dp df de : Nat → Int32) : List df_D → Prop
  | [] => True
  | d :: r => dp r.length = nI (tt_p Tk d.1) ∧ df r.length = nI d.2.1 ∧ de r.length = nI d.2.2.1 ∧ df_A Tk dp df de r
theorem df_Au {Tk : List tz_T} {dp df de dp2 df2 de2 : Nat → Int32} : ∀ (dl : List df_D), (∀ i, i < dl.length → dp2 i = dp i ∧ df2 i = df i ∧ de2 i = de i) → df_A Tk dp df de dl → df_A Tk dp2 df2 de2 dl := by
  intro dl
  induction dl with
  | nil => intro _ h; exact h
  | cons d r ih =>
    intro e h
    obtain ⟨h1, h2, h3, h4⟩ := h
    rw [List.length_cons] at e
    obtain ⟨e1, e2, e3⟩ := e r.length (by omega)
    exact ⟨e1.trans h1, e2.trans h2, e3.trans h3, ih (fun i hi => e i (by omega)) h4⟩
def pa_w (st : Nat) : Nat := if st = 1 then 0 else if st = 2 then 1 else if st = 3 then 2 else if st = 4 then 3 else if st = 5 then 5 else 4
def pa_o (st : Nat) (fs : List fr_F) : List Nat := if st = 5 then ms_o fs.tail else ms_o fs
def pa_B (Tk : List tz_T) (no0 nn0 np0 pt0 : Nat → Int32) (st t : Nat) (Q : Nat → Nat → Nat) (e : Nat) (fs : List fr_F) (ops : List Nat) (dl : List df_D) (fcn ocn dcn nen : Int32) (dp df de no nn np nd pt : Nat → Int32) : Prop :=
  fcn = nI fs.length ∧ ocn = nI ops.length ∧ dcn = nI dl.length ∧ nen = nI e ∧ xp_N Tk Q e no nn np nd pt ∧ xp_K no0 nn0 np0 pt0 no nn np pt ∧ df_A Tk dp df de dl ∧
  t ≤ Tk.length ∧ e + fs.length ≤ t + 120 ∧ dl.length ≤ t ∧ ms_f (tt_k Tk) t = some (pa_w st, pa_o st fs)
def pa_D (Tk : List tz_T) (t : Nat) (Q : Nat → Nat → Nat) (F fr : Nat) (fs : List fr_F) (dl : List df_D) (dp df : Nat → Int32) : Prop :=
  df_C (tt_k Tk) Q dl fr F ∧ 120 ≤ F ∧ tt_k Tk fr = 13 ∧ tt_k Tk (fr + 1) = 20 ∧ fr_B fr fs ∧ (∀ i, fr ≤ i → i < t → tt_k Tk i ≠ 25) ∧ fr < t ∧ dl.length ≤ fr ∧ dp dl.length = nI (tt_p Tk fr) ∧ df dl.length = nI F
def pa_S (tk : Nat → Nat) (Q : Nat → Nat → Nat) (F st t e : Nat) (fs : List fr_F) (ops : List Nat) : Prop :=
  fr_t Q F ops e ∧ ops.length + 120 ≤ e ∧
  ((st = 3 ∧ fr_S tk Q fs ops t ∧ ∃ f r, fs = f :: r ∧ fr_n f.1 = 1) ∨
   (st = 4 ∧ fr_S tk Q fs ops t ∧ ∃ f r, fs = f :: r) ∨
   (st = 5 ∧ ∃ c r, fs = (c, t - 1, t - 1, t + 1) :: r ∧ 1 ≤ t ∧ (c = 7 ∨ c = 8 ∨ c = 9 ∨ c = 13) ∧ tk (t - 1) = c ∧ fr_S tk Q r ops (t - 1) ∧ ∃ f q, r = f :: q) ∨
   (st = 6 ∧ ∃ v rest at0, ops = v :: rest ∧ fr_S tk Q fs rest at0 ∧ fr_o tk Q at0 t v ∧ rg_L tk 7 at0 t ∧ ∃ f r, fs = f :: r))
def pa_I (Tk : List tz_T) (no0 nn0 np0 pt0 : Nat → Int32) (st t : Nat) (fcn ocn dcn nen : Int32) (fc fp op dp df de no nn np nd pt : Nat → Int32) : Prop :=
  ∃ Q e F fr fs ops dl, pa_B Tk no0 nn0 np0 pt0 st t Q e fs ops dl fcn ocn dcn nen dp df de no nn np nd pt ∧
    ((st = 1 ∧ fs = [] ∧ ops = [] ∧ df_C (tt_k Tk) Q dl t e) ∨
     (st = 2 ∧ fs = [] ∧ ops = [] ∧ t = fr + 1 ∧ tt_k Tk fr = 13 ∧ df_C (tt_k Tk) Q dl fr e ∧ dl.length ≤ fr ∧ dp dl.length = nI (tt_p Tk fr) ∧ df dl.length = nI e) ∨
     (3 ≤ st ∧ st ≤ 6 ∧ pa_D Tk t Q F fr fs dl dp df ∧ xp_F Tk t fs fc fp ∧ ar_L op ops ∧ pa_S (tt_k Tk) Q F st t e fs ops))
theorem pa_ms {tk : Nat → Nat} {t w : Nat} {o : List Nat} (h : ms_f tk t = some (w, o)) : ms_f tk (t + 1) = ms_s w o (tk t) := by
  show (ms_f tk t).bind _ = _
  rw [h]; rfl
theorem pa_n7 (c : Nat) : fr_n c ≤ 7 ∧ 1 ≤ fr_n c := by
  have : fr_l c ≤ 7 := by unfold fr_l; repeat' split
                          all_goals omega
  unfold fr_n
  split
  · omega
  · split <;> omega
theorem xp_Fm {Tk : List tz_T} {t t2 : Nat} {fs : List fr_F} {fc fp : Nat → Int32} (h : xp_F Tk t fs fc fp) (ht : t ≤ t2) : xp_F Tk t2 fs fc fp :=
  ⟨h.1, h.2.1, fun f hf => ⟨(h.2.2 f hf).1, by have := (h.2.2 f hf).2; omega⟩⟩
theorem xp_Fp {Tk : List tz_T} {t : Nat} {fs : List fr_F} {fc fp : Nat → Int32} {c st p nx x y : Nat} (h : xp_F Tk t fs fc fp) (hc : c < 34) (hp : p < t + 1) (hx : x = xc_t c) (hy : y = tt_p Tk p) :
    xp_F Tk (t + 1) ((c, st, p, nx) :: fs) (upd fc fs.length (nI x)) (upd fp fs.length (nI y)) := by
  subst hx hy
  refine ⟨?_, ?_, fun f hf => ?_⟩
  · have := ar_p (c := xc_t c) h.1
    rw [List.length_map] at this
    exact this
  · have := ar_p (c := tt_p Tk p) h.2.1
    rw [List.length_map] at this
    exact this
  · rcases List.mem_cons.mp hf with q | q
    · rw [q]; exact ⟨hc, hp⟩
    · have := h.2.2 f q; exact ⟨this.1, by omega⟩
-- a frame is pushed on states 3 and 4
theorem pa_push {Tk : List tz_T} {no0 nn0 np0 pt0 : Nat → Int32} {st t c nx st2 x : Nat} {fcn ocn dcn nen : Int32} {fc fp op dp df de no nn np nd pt : Nat → Int32} {Q : Nat → Nat → Nat} {e F fr : Nat} {fs : List fr_F} {ops : List Nat} {dl : List df_D}
    (hB : pa_B Tk no0 nn0 np0 pt0 st t Q e fs ops dl fcn ocn dcn nen dp df de no nn np nd pt) (hD : pa_D Tk t Q F fr fs dl dp df) (hF : xp_F Tk t fs fc fp) (ho : ar_L op ops) (ht : fr_t Q F ops e) (hl : ops.length + 120 ≤ e)
    (htT : t < Tk.length) (h25 : tt_k Tk t ≠ 25) (hc : c < 34) (h30 : c ≠ 30) (hs : 3 ≤ st2 ∧ st2 ≤ 5) (hx : x = xc_t c)
    (hm : ms_s (pa_w st) (pa_o st fs) (tt_k Tk t) = some (pa_w st2, pa_o st2 ((c, t, t, nx) :: fs)))
    (hS : pa_S (tt_k Tk) Q F st2 (t + 1) e ((c, t, t, nx) :: fs) ops) :
    pa_I Tk no0 nn0 np0 pt0 st2 (t + 1) (nI (fs.length + 1)) ocn dcn nen (upd fc fs.length (nI x)) (upd fp fs.length (nI (tt_p Tk t))) op dp df de no nn np nd pt := by
  obtain ⟨b1, b2, b3, b4, b5, b6, b7, b8, b9, b10, b11⟩ := hB
  obtain ⟨d1, d2, d3, d4, d5, d6, d7, d8, d9, d10⟩ := hD
  refine ⟨Q, e, F, fr, (c, t, t, nx) :: fs, ops, dl, ⟨rfl, b2, b3, b4, b5, b6, b7, by omega, by rw [List.length_cons]; omega, by omega, ?_⟩, Or.inr (Or.inr ⟨hs.1, by omega, ⟨d1, d2, d3, d4, ⟨fun q => absurd q h30, d5⟩, fun i h1 h2 => ?_, by omega, d8, d9, d10⟩, xp_Fp hF hc (by omega) hx rfl, ho, hS⟩)⟩
  · rw [pa_ms b11]; exact hm
  · by_cases q : i = t
    · rw [q]; exact h25
    · exact d6 i h1 (by omega)
theorem df_Al {tk : Nat → Nat} {Q : Nat → Nat → Nat} : ∀ (dl : List df_D) (t e : Nat), df_C tk Q dl t e → 120 ≤ e ∧ dl.length ≤ t := by
  intro dl
  induction dl with
  | nil => intro t e h; obtain ⟨h1, h2⟩ := h; rw [List.length_nil]; omega
  | cons d r ih =>
    intro t e h
    obtain ⟨h1, h2, h3, h4, h5, h6, h7, h8, h9, h10, h11, h12⟩ := h
    have := ih _ _ h12
    have := h8.1
    rw [List.length_cons]; omega
