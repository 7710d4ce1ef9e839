theorem bq_1 {A B : Prop} (b : B) : ((1 : Int32) = 0 → A) ∧ (¬ (1 : Int32) = 0 → B) := br_f (by decide) b
-- THE RELATION: a ghost program P (numbered as X numbers), the text, the place, the slots, and the pictures of them on both sides
def xc_t (t : Nat) : Nat :=
  if t = 1 then 1 else if t = 2 then 120 else if t = 3 then 26982 else if t = 4 then 1952998766 else if t = 5 then 1701606245 else
  if t = 6 then 7631481 else if t = 7 then 26724 else if t = 8 then 29804 else if t = 9 then 7239020 else if t = 10 then 7235948 else
  if t = 11 then 7955827 else if t = 12 then 28271 else if t = 13 then 3 else if t = 14 then 43 else if t = 15 then 45 else
  if t = 16 then 42 else if t = 17 then 47 else if t = 18 then 37 else if t = 19 then 60 else if t = 20 then 61 else
  if t = 21 then 38 else if t = 22 then 124 else if t = 23 then 33 else if t = 24 then 58 else if t = 25 then 59 else
  if t = 26 then 40 else if t = 27 then 41 else if t = 28 then 2 else if t = 30 then 4 else if t = 31 then 5 else
  if t = 32 then 6 else if t = 33 then 7 else 0
abbrev rl_V (P : Nat → Nat → Nat) (c : Nat) : Prop := ki_ok P (ki_c c)
def rl_le (P : Nat → Nat → Nat) : Prop := ∀ u, ou_us P u → (P 2 u ≤ u ∧ P 2 u / 24 = u / 24) ∧ (P 3 u ≤ u ∧ P 3 u / 24 = u / 24) ∧ (P 4 u ≤ u ∧ P 4 u / 24 = u / 24)
def rl_G (P : Nat → Nat → Nat) (L : Nat) (tx : Nat → Nat) (sl : Nat → Option (Nat × Nat)) : Prop :=
  pg_ok P ∧ (∃ c, c < 243 ∧ rl_V P c) ∧ L ≤ 200 ∧ (∀ i, i < L → 32 ≤ tx i ∧ tx i ≤ 126) ∧ rl_le P ∧
  (∀ s, s < 3 → ∀ f x, sl s = some (f, x) → f < 5 ∧ 0 < P 5 f ∧ x < P 6 0)
def rl_tX (P : Nat → Nat → Nat) (T : Nat → Option ou_O) (st : Nat → Int32) (re : Nat → Int64) : Prop :=
  ∀ c, ou_uc P c → (T c = none → st c = 2) ∧ (∀ o, T c = some o → st c = nI o.1 ∧ (o.1 = 1 → re c = o.2.2))
def rl_sX (sl : Nat → Option (Nat × Nat)) (sf sa : Nat → Int32) : Prop :=
  ∀ s, s < 3 → (sl s = none → sf s = -1) ∧ (∀ f x, sl s = some (f, x) → sf s = nI f ∧ sa s = nI x)
def rl_nX (P : Nat → Nat → Nat) (no nn pt : Nat → Int32) (u : Nat) : Prop :=
  no u = nI (xc_t (P 0 u)) ∧ nn u = nI (P 1 u) ∧ pt (u * 3) = nI (P 2 u) ∧ pt (u * 3 + 1) = nI (P 3 u) ∧ pt (u * 3 + 2) = nI (P 4 u)
def rl_X (P : Nat → Nat → Nat) (L : Nat) (tx : Nat → Nat) (pl : Int32) (sl : Nat → Option (Nat × Nat)) (u : SX) : Prop := match u with
  | (f_width, f_textLength, f_foundPlace, f_tokenCount, f_frameCount, f_operandCount, f_defCount, f_nodeEnd, a_text, a_tokenCode, a_tokenPlace, a_frameCode, a_framePlace, a_operand, a_defPlace, a_defFirst, a_defEnd, a_nodeOp, a_nodeNumber, a_nodePlace, a_nodeDepth, a_nodeKind, a_part, a_size, a_kindFound, a_choice, a_status, a_result, a_slotFunction, a_slotArgument) => f_width = nI (P 6 0) ∧ f_textLength = nI L ∧ f_foundPlace = pl ∧ (∀ i, i < L → a_text i = nI (tx i)) ∧
      (∀ f, f < 5 → a_size f = nI (P 5 f)) ∧ (∀ u, ou_us P u → rl_nX P a_nodeOp a_nodeNumber a_part u) ∧ (∀ u, u < 120 → a_nodePlace u = 0) ∧
      (∀ f, f < 5 → 0 < P 5 f → ∃ r, a_kindFound f = nI r ∧ ki_r (rl_V P) 243 f r) ∧ rl_tX P (ou_E P) a_status a_result ∧ rl_sX sl a_slotFunction a_slotArgument
def rl_gc (g : Nat → Nat) (q : Nat) : Nat := g (q / 6) * 6 + q % 6
def rl_tY (P : Nat → Nat → Nat) (g : Nat → Nat) (T : Nat → Option ou_O) (st : Nat → Int32) (nu : Nat → Int64) (og : Nat → Int32) : Prop :=
  ∀ d, ou_uc P d → (T (rl_gc g d) = none → st d = 0) ∧ (∀ o, T (rl_gc g d) = some o → st d = nI o.1 ∧ (o.1 = 1 → (o.2.1 ≠ 3 → nu d = o.2.2) ∧
    (o.2.1 = 3 → (o.2.2 = 0 → nu d = 0) ∧ (o.2.2 ≠ 0 → nu d = 1 ∧ ∃ q, ou_uc P q ∧ og d = nI q ∧ rl_gc g q = ou_jn o.2.2))))
def rl_sY (sl : Nat → Option (Nat × Nat)) (sf sa sh : Nat → Int32) : Prop :=
  ∀ s, s < 3 → (sl s = none → sh s = 0) ∧ (∀ f x, sl s = some (f, x) → sh s = 1 ∧ sf s = nI f ∧ sa s = nI x)
def rl_nY (P : Nat → Nat → Nat) (g : Nat → Nat) (no nn na nb nc : Nat → Int32) (r : Nat) : Prop :=
  no r = nI (P 0 (g r)) ∧ nn r = nI (P 1 (g r)) ∧
  (0 < pg_n (P 0 (g r)) → ∃ a, na r = nI a ∧ ou_us P a ∧ g a = P 2 (g r)) ∧
  (1 < pg_n (P 0 (g r)) → ∃ a, nb r = nI a ∧ ou_us P a ∧ g a = P 3 (g r)) ∧
  (2 < pg_n (P 0 (g r)) → ∃ a, nc r = nI a ∧ ou_us P a ∧ g a = P 4 (g r))
def rl_g (P : Nat → Nat → Nat) (g : Nat → Nat) : Prop :=
  (∀ r, ou_us P r → ou_us P (g r) ∧ g r / 24 = r / 24) ∧ (∀ f, f < 5 → 0 < P 5 f → g (f * 24) = f * 24 + P 5 f - 1) ∧
  (∀ r s, ou_us P r → ou_us P s → g r = g s → r = s) ∧ (∀ u, ou_us P u → ∃ r, ou_us P r ∧ g r = u)
def rl_Y (P : Nat → Nat → Nat) (L : Nat) (tx : Nat → Nat) (pl : Int32) (sl : Nat → Option (Nat × Nat)) (g : Nat → Nat) (v : SY) : Prop := match v with
  | (f_width, f_length, f_place, f_toks, f_nodes, f_defs, a_text, a_tok, a_tokNum, a_tokPlace, a_opened, a_nOp, a_nNum, a_nPlace, a_nA, a_nB, a_nC, a_nLo, a_nHi, a_nLevel, a_defName, a_defPlace, a_defRoot, a_loaded, a_count, a_status, a_number, a_origin, a_choice, a_slotF, a_slotX, a_slotHeld) => f_width = nI (P 6 0) ∧ f_length = nI L ∧ f_place = pl ∧ (∀ i, i < L → a_text i = nI (tx i)) ∧
      (∀ f, f < 5 → a_loaded f = if 0 < P 5 f then 1 else 0) ∧ (∀ f, f < 5 → 0 < P 5 f → a_count f = nI (P 5 f)) ∧
      (∀ r, ou_us P r → rl_nY P g a_nOp a_nNum a_nA a_nB a_nC r) ∧ rl_g P g ∧ rl_tY P g (ou_E P) a_status a_number a_origin ∧ rl_sY sl a_slotF a_slotX a_slotHeld
def i_Rel (k : Nat) (u : SX) (v : SY) : Prop := ∃ P L tx pl sl g, rl_G P L tx sl ∧ rl_X P L tx pl sl u ∧ rl_Y P L tx pl sl g v
theorem i_up {k : Nat} {u : SX} {v : SY} (h : i_Rel k u v) : i_Rel (k + 4) u v := h
