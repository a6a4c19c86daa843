-- the search, over numbers alone
/-- mood, level, who drew ahead (9: nobody), from which hour on each may draw -/
abbrev SS : Type := Int × Int × Int × (Nat → Int)
/-- how many folk, kinds, feels, rests, who quarrel, rain -/
abbrev PP : Type := Nat × (Nat → Int) × (Nat → Int) × (Nat → Int) × (Nat → Nat → Bool) × Int
def p_n (P : PP) : Nat := P.1
def p_k (P : PP) : Nat → Int := P.2.1
def p_f (P : PP) : Nat → Int := P.2.2.1
def p_r (P : PP) : Nat → Int := P.2.2.2.1
def p_q (P : PP) : Nat → Nat → Bool := P.2.2.2.2.1
def p_w (P : PP) : Int := P.2.2.2.2.2
def y_m (s : SS) : Int := s.1
def y_l (s : SS) : Int := s.2.1
def y_a (s : SS) : Int := s.2.2.1
def y_f (s : SS) : Nat → Int := s.2.2.2
/-- the pails that c gets -/
def g_p (P : PP) (s : SS) (c : Nat) : Int := if c < p_n P then (if (y_a s ≠ 9 ∧ p_q P c (y_a s).toNat = true) then 0 else min (y_l s) (m_pails (p_k P c) (y_m s))) else 0
/-- what of them is sweet -/
def g_s (P : PP) (s : SS) (c : Nat) : Int := if c < p_n P then (if p_k P c = 1 ∨ (p_k P c = 0 ∧ 0 ≤ y_m s) then g_p P s c else 0) else 0
def g_ok (P : PP) (h : Nat) (s : SS) (c : Nat) : Prop := p_n P ≤ c ∨ y_f s c ≤ (h : Int)
def g_st (P : PP) (h : Nat) (s : SS) (c : Nat) : SS := if c < p_n P then (m_wane (m_clamp (y_m s + m_felt (p_k P c) (p_f P c))), m_rain (y_l s - g_p P s c) (p_w P), (c : Int), fun j => if j = c then (h : Int) + p_r P c else y_f s j) else (m_wane (y_m s), m_rain (y_l s) (p_w P), 9, y_f s)
abbrev BB : Type := Int × (Nat → Nat)
/-- one choice after the other, c of n + 1 - i -/
def g_fold (f : Nat → BB → BB) : Nat → Nat → BB → BB
  | 0, _, b => b
  | k + 1, i, b => g_fold f k (i + 1) (f i b)
/-- the best row behind what has been chosen -/
def dfs (P : PP) : Nat → Nat → SS → Int → (Nat → Nat) → BB → BB
  | 0, _, _, acc, p, b => if b.1 < acc then (acc, p) else b
  | k + 1, h, s, acc, p, b => g_fold (fun c b => if p_n P ≤ c ∨ y_f s c ≤ (h : Int) then dfs P k (h + 1) (g_st P h s c) (acc + g_s P s c) (fun j => if j = h then c else p j) b else b) (p_n P + 1) 0 b
theorem g_p_rng {P : PP} {s : SS} {c : Nat} (hl : 0 ≤ y_l s) : 0 ≤ g_p P s c ∧ g_p P s c ≤ 9 ∧ g_p P s c ≤ y_l s := by
  have := m_pails_rng (p_k P c) (y_m s)
  unfold g_p
  split
  · split <;> omega
  · omega
theorem g_s_rng {P : PP} {s : SS} {c : Nat} (hl : 0 ≤ y_l s) : 0 ≤ g_s P s c ∧ g_s P s c ≤ 9 := by
  have := g_p_rng (P := P) (c := c) hl
  unfold g_s
  split
  · split <;> omega
  · omega
theorem g_st_l {P : PP} {h : Nat} {s : SS} {c : Nat} (hl : 0 ≤ y_l s) (hw : 0 ≤ p_w P) : 0 ≤ y_l (g_st P h s c) := by
  have := g_p_rng (P := P) (c := c) hl
  unfold g_st
  by_cases q : c < p_n P
  · rw [if_pos q]
    show 0 ≤ m_rain (y_l s - g_p P s c) (p_w P)
    unfold m_rain; omega
  · rw [if_neg q]
    show 0 ≤ m_rain (y_l s) (p_w P)
    unfold m_rain; omega
theorem g_fold_id {f : Nat → BB → BB} {b : BB} : ∀ (k i : Nat), (∀ c, i ≤ c → c < i + k → f c b = b) → g_fold f k i b = b := by
  intro k
  induction k with
  | zero => intro i _; rfl
  | succ k ih =>
    intro i hf
    show g_fold f k (i + 1) (f i b) = b
    rw [hf i (by omega) (by omega)]
    exact ih (i + 1) (fun c h1 h2 => hf c (by omega) (by omega))
/-- only more than the best is of use -/
theorem dfs_cut {P : PP} (hw : 0 ≤ p_w P) : ∀ (k h : Nat) (s : SS) (acc : Int) (p : Nat → Nat) (b : BB), 0 ≤ y_l s → acc + 9 * (k : Int) ≤ b.1 → dfs P k h s acc p b = b := by
  intro k
  induction k with
  | zero =>
    intro h s acc p b hl hb
    show (if b.1 < acc then _ else b) = b
    rw [if_neg (by omega)]
  | succ k ih =>
    intro h s acc p b hl hb
    refine g_fold_id _ _ (fun c _ _ => ?_)
    have hg := g_s_rng (P := P) (c := c) hl
    by_cases q : p_n P ≤ c ∨ y_f s c ≤ (h : Int)
    · rw [if_pos q]
      exact ih (h + 1) _ _ _ b (g_st_l hl hw) (by omega)
    · rw [if_neg q]
