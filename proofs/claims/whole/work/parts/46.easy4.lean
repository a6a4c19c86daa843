-- sets gathered bit by bit
def m_set (c : Nat → Prop) [DecidablePred c] : Nat → Int32
  | 0 => 0
  | k + 1 => if c k then m_set c k ||| ((1 : Int32) <<< (nI k &&& 31)) else m_set c k
theorem m_set_congr {c d : Nat → Prop} [DecidablePred c] [DecidablePred d] (n : Nat) (h : ∀ k, k < n → (c k ↔ d k)) : m_set c n = m_set d n := by
  induction n with
  | zero => rfl
  | succ n ih =>
    have e := ih (fun k hk => h k (by omega))
    unfold m_set
    rw [e]
    by_cases hc : c n
    · rw [if_pos hc, if_pos ((h n (by omega)).mp hc)]
    · rw [if_neg hc, if_neg (fun q => hc ((h n (by omega)).mpr q))]
-- may
theorem q_may {x : wXS} {post : Int32 → Prop} (hf : FK (w_f (x_w x))) {n : Nat} (hn : (w_i (w_f (x_w x)) 4).toInt = (n : Int)) (h : post (m_set (fun i => (w_a (w_o (x_w x)) 1 i).toInt = 0) n)) : wpX5_may x post := by
  have h6 := hf.1
  have key : ∀ k i : Nat, i + k = n → ∃ f, wpX5_may_L4 x post f (m_set (fun i => (w_a (w_o (x_w x)) 1 i).toInt = 0) i) (nI i) := by
    intro k
    induction k with
    | zero =>
      intro i hi
      refine ⟨1, ?_⟩
      show wpX5_may_4 _ x post _ _
      unfold wpX5_may_4
      have ei : i = n := by omega
      subst ei
      refine ⟨fun _ => h, fun q => absurd ?_ q⟩
      rw [t_le, hn, nI_toInt (by omega)]
      omega
    | succ k ih =>
      intro i hi
      obtain ⟨f, hf'⟩ := ih (i + 1) (by omega)
      refine ⟨f + 1, ?_⟩
      show wpX5_may_4 _ x post _ _
      unfold wpX5_may_4 wpX5_may_35
      have ei : (nI i).toInt = (i : Int) := nI_toInt (by omega)
      rw [t_le, hn, ei]
      refine ⟨fun q => by exfalso; omega, fun _ => ?_⟩
      rw [nI_1]
      unfold m_set at hf'
      refine q_mayDraw hf (fun i' hi' hc' hz => c1 ?_) (fun hz => c0 ?_)
      · have e : i' = i := by omega
        subst e
        rw [if_pos hz] at hf'
        exact hf'
      · rw [if_neg (hz i ei (by omega))] at hf'
        exact hf'
  obtain ⟨f, hf'⟩ := key n 0 (by omega)
  exact ⟨f, hf'⟩
theorem r_may {t : wSt} {post : Int32 → Prop} {n : Nat} (hn : (w_i t 5).toInt = (n : Int)) (h6 : n ≤ 6) (h : post (m_set (fun i => (w_a t 4 i).toInt ≤ (w_i t 11).toInt) n)) : wpX6_may t post := by
  have key : ∀ k i : Nat, i + k = n → ∃ f, wpX6_may_L4 t post f (m_set (fun i => (w_a t 4 i).toInt ≤ (w_i t 11).toInt) i) (nI i) := by
    intro k
    induction k with
    | zero =>
      intro i hi
      refine ⟨1, ?_⟩
      show wpX6_may_4 _ t post _ _
      unfold wpX6_may_4
      have ei : i = n := by omega
      subst ei
      refine ⟨fun _ => h, fun q => absurd ?_ q⟩
      rw [t_le, hn, nI_toInt (by omega)]
      omega
    | succ k ih =>
      intro i hi
      obtain ⟨f, hf'⟩ := ih (i + 1) (by omega)
      refine ⟨f + 1, ?_⟩
      show wpX6_may_4 _ t post _ _
      unfold wpX6_may_4 wpX6_may_33
      have ei : (nI i).toInt = (i : Int) := nI_toInt (by omega)
      rw [t_le, hn, ei, t_cl ei, t_lt, nI_1]
      refine ⟨fun q => by exfalso; omega, fun _ => ⟨t_in (by omega), fun c => ?_, fun c => ?_⟩⟩
      · unfold m_set at hf'
        rw [if_neg (by omega)] at hf'
        rw [Int32.or_zero]
        exact hf'
      · unfold m_set at hf'
        rw [if_pos (by omega)] at hf'
        exact hf'
  obtain ⟨f, hf'⟩ := key n 0 (by omega)
  exact ⟨f, hf'⟩
theorem op_may {x : wXS} {t : wSt} (h : REL x t) {post : Int32 → Prop} (hp : ∀ r, (∀ {p2 : Int32 → Prop}, p2 r → wpX6_may t p2) → post r) : wpX5_may x post := by
  have hm := h.m6
  have e4 := h.cnt
  obtain ⟨n, hn⟩ := nat_of hm.1
  obtain ⟨w1, w2⟩ := h.1.2.1
  refine q_may h.fk (by rw [e4]; exact hn) (hp _ (fun {p2} p2v => r_may hn (by omega) ?_))
  rw [m_set_congr (d := fun i => (w_a t 4 i).toInt ≤ (w_i t 11).toInt) n (fun k hk => ?_)] at p2v
  · exact p2v
  · have e := w1 k (by omega)
    rw [if_pos (by omega)] at e
    rw [e]
    omega
-- stranger
theorem m_clamp_rng (x : Int) : -9 ≤ m_clamp x ∧ m_clamp x ≤ 9 := by unfold m_clamp; omega
theorem m_wane_rng {x : Int} (h : -9 ≤ x ∧ x ≤ 9) : -9 ≤ m_wane x ∧ m_wane x ≤ 9 := by unfold m_wane; split <;> (try split) <;> omega
theorem sh3 {v : Int32} {i : Nat} (hi : i < 7) (hv : v.toInt = (i : Int) - 3) : v + 3 = nI i := by
  have n3 := tn3
  rw [t_eq, t_add (by omega), nI_toInt (by omega)]
  omega
def m_strB (k m p : Int) (i : Nat) : Bool := decide (m_pails k (m_wane (m_clamp (m + ((i : Int) - 3)))) = p)
theorem q_strangerL {a b c : Int32} {x : wXS} {post : Int32 → Prop} (hf : FK (w_f (x_w x))) {j : Nat} (hb : b.toInt = (j : Int)) (hc : (j : Int) < (w_i (w_f (x_w x)) 4).toInt) (ha : -9 ≤ a.toInt ∧ a.toInt ≤ 9) (h : post (m_set (fun i => m_strB (w_a (w_f (x_w x)) 0 j).toInt a.toInt c.toInt i = true) 7)) : ∃ f, wpX5_stranger_L38 x post f a b c 0 (-3) := by
  have n3 := tn3
  have n1 := tn1
  have key : ∀ k i : Nat, ∀ v : Int32, i + k = 7 → v.toInt = (i : Int) - 3 → ∃ f, wpX5_stranger_L38 x post f a b c (m_set (fun i => m_strB (w_a (w_f (x_w x)) 0 j).toInt a.toInt c.toInt i = true) i) v := by
    intro k
    induction k with
    | zero =>
      intro i v hi hv
      refine ⟨1, ?_⟩
      show wpX5_stranger_38 _ x post _ _ _ _ _
      unfold wpX5_stranger_38
      have ei : i = 7 := by omega
      subst ei
      rw [t_lt, tn3]
      exact ⟨fun _ => h, fun q => by exfalso; omega⟩
    | succ k ih =>
      intro i v hi hv
      obtain ⟨f, hf'⟩ := ih (i + 1) (v + 1) (by omega) (by rw [t_add (by omega)]; omega)
      refine ⟨f + 1, ?_⟩
      show wpX5_stranger_38 _ x post _ _ _ _ _
      unfold wpX5_stranger_38 wpX5_stranger_84
      rw [t_lt, tn3]
      refine ⟨fun q => by exfalso; omega, fun _ => ?_⟩
      refine q_asMood (fun r1 hr1 => ?_)
      rw [t_add (by omega)] at hr1
      have g1 := m_clamp_rng (a.toInt + v.toInt)
      refine q_waned (by omega) (fun r2 hr2 => ?_)
      have g2 := m_wane_rng g1
      rw [hr1] at hr2
      refine q_pailsAt hf hb hc (by omega) (fun r3 hr3 => ?_)
      rw [hr2, hv] at hr3
      unfold m_set at hf'
      rw [t_eq, hr3, sh3 (by omega) hv]
      refine ⟨fun q => ?_, fun q => ?_⟩
      · rw [if_neg (by unfold m_strB; simpa using q)] at hf'; exact hf'
      · rw [if_pos (by unfold m_strB; simpa using q)] at hf'; exact hf'
  obtain ⟨f, hf'⟩ := key 7 0 (-3) (by omega) (by rw [tnm3]; omega)
  exact ⟨f, hf'⟩
theorem r_strangerL {a b c : Int32} {t : wSt} {post : Int32 → Prop} {j : Nat} (hb : b.toInt = (j : Int)) (hc : j < 6) (ha : -9 ≤ a.toInt ∧ a.toInt ≤ 9) (h : post (m_set (fun i => m_strB (w_a t 0 j).toInt a.toInt c.toInt i = true) 7)) : ∃ f, wpX6_stranger_L36 t post f a b c 0 (-3) := by
  have n3 := tn3
  have n4 := tn4
  have n1 := tn1
  have key : ∀ k i : Nat, ∀ v : Int32, i + k = 7 → v.toInt = (i : Int) - 3 → ∃ f, wpX6_stranger_L36 t post f a b c (m_set (fun i => m_strB (w_a t 0 j).toInt a.toInt c.toInt i = true) i) v := by
    intro k
    induction k with
    | zero =>
      intro i v hi hv
      refine ⟨1, ?_⟩
      show wpX6_stranger_36 _ t post _ _ _ _ _
      unfold wpX6_stranger_36
      have ei : i = 7 := by omega
      subst ei
      rw [t_le, tn4]
      exact ⟨fun _ => h, fun q => by exfalso; omega⟩
    | succ k ih =>
      intro i v hi hv
      obtain ⟨f, hf'⟩ := ih (i + 1) (v + 1) (by omega) (by rw [t_add (by omega)]; omega)
      refine ⟨f + 1, ?_⟩
      show wpX6_stranger_36 _ t post _ _ _ _ _
      unfold wpX6_stranger_36 wpX6_stranger_77
      rw [t_le, tn4]
      refine ⟨fun q => by exfalso; omega, fun _ => ⟨t_in (by omega), ?_⟩⟩
      refine r_most9 (fun r1 hr1 => ?_)
      rw [t_add (by omega)] at hr1
      have g1 := m_clamp_rng (a.toInt + v.toInt)
      refine r_wane (by omega) (fun r2 hr2 => ?_)
      have g2 := m_wane_rng g1
      rw [hr1] at hr2
      rw [t_cl hb]
      refine r_pailsOf (by omega) (fun r3 hr3 => ?_)
      rw [hr2, hv] at hr3
      unfold m_set at hf'
      rw [t_eq, hr3, sh3 (by omega) hv]
      refine ⟨fun q => ?_, fun q => ?_⟩
      · rw [if_neg (by unfold m_strB; simpa using q)] at hf'; rw [Int32.or_zero]; exact hf'
      · rw [if_pos (by unfold m_strB; simpa using q)] at hf'; exact hf'
  obtain ⟨f, hf'⟩ := key 7 0 (-3) (by omega) (by rw [tnm3]; omega)
  exact ⟨f, hf'⟩
theorem op_stranger {a b c : Int32} {x : wXS} {t : wSt} (h : REL x t) {post : Int32 → Prop} (hp : ∀ r, (∀ {p2 : Int32 → Prop}, p2 r → wpX6_stranger a b c t p2) → post r) : wpX5_stranger a b c x post := by
  have hm := h.m6
  have e4 := h.cnt
  obtain ⟨-, -, heq, -, -⟩ := h.1.1
  have ms : ∀ {p2 : Int32 → Prop}, (¬ ((-9 ≤ a.toInt ∧ a.toInt ≤ 9) ∧ (0 ≤ b.toInt ∧ b.toInt < (w_i t 5).toInt) ∧ 0 ≤ c.toInt ∧ c.toInt ≤ 9) → p2 (-1)) → ((-9 ≤ a.toInt ∧ a.toInt ≤ 9) → (0 ≤ b.toInt ∧ b.toInt < (w_i t 5).toInt) → ∃ n, wpX6_stranger_L36 t p2 n a b c 0 (-3)) → wpX6_stranger a b c t p2 := by
    intro p2 g0 g1
    unfold wpX6_stranger
    refine r_isMood (fun x1 x2 => c1 (r_isOne (by omega) (fun x3 x4 => c1 (r_in (fun x5 x6 => d1 (g1 ⟨x1, x2⟩ ⟨x3, x4⟩)) (fun hn => d0 (g0 (fun q => hn (by rw [t_l, ln0, ln9]; exact q.2.2)))))) (fun hn => c0 (g0 (fun q => hn q.2.1))))) (fun hn => c0 (g0 (fun q => hn q.1)))
  have bad : ¬ ((-9 ≤ a.toInt ∧ a.toInt ≤ 9) ∧ (0 ≤ b.toInt ∧ b.toInt < (w_i t 5).toInt) ∧ 0 ≤ c.toInt ∧ c.toInt ≤ 9) → post (-1) := fun hn => hp _ (fun {p2} p2v => by
    unfold wpX6_stranger
    exact r_isMood (fun x1 x2 => c1 (r_isOne (by omega) (fun x3 x4 => c1 (r_in (fun x5 x6 => absurd ⟨⟨x1, x2⟩, ⟨x3, x4⟩, by rw [t_l, ln0] at x5; exact x5, by rw [t_l, ln9] at x6; exact x6⟩ hn) (fun _ => d0 p2v))) (fun _ => c0 p2v))) (fun _ => c0 p2v))
  unfold wpX5_stranger
  refine q_isMood (fun x1 x2 => c1 (q_has (fun x3 x4 => c1 (q_isPails (fun x5 x6 => d1 ?_) (fun hn => d0 (bad (fun q => hn (by rw [t_l]; exact q.2.2)))))) (fun hn => c0 (bad (fun q => hn (by rw [e4]; exact q.2.1)))))) (fun hn => c0 (bad (fun q => hn q.1)))
  rw [t_l] at x5 x6
  rw [e4] at x4
  obtain ⟨j, hj⟩ := nat_of x3
  refine q_strangerL h.fk hj (by rw [e4]; omega) ⟨x1, x2⟩ (hp _ (fun {p2} p2v => ms (fun hn => absurd ⟨⟨x1, x2⟩, ⟨x3, x4⟩, x5, x6⟩ hn) (fun _ _ => r_strangerL hj (by omega) ⟨x1, x2⟩ ?_)))
  rw [(heq j (by omega)).1] at p2v
  exact p2v
-- liar
theorem q_isTale {a b c : Int32} {x : wXS} {post : Int32 → Prop} (h1 : (0 ≤ a.toInt ∧ a.toInt < (w_i (w_f (x_w x)) 4).toInt) → (-9 ≤ b.toInt ∧ b.toInt ≤ 9) → (0 ≤ c.toInt ∧ c.toInt ≤ 9) → post 1) (h0 : ¬ ((0 ≤ a.toInt ∧ a.toInt < (w_i (w_f (x_w x)) 4).toInt) ∧ (-9 ≤ b.toInt ∧ b.toInt ≤ 9) ∧ (0 ≤ c.toInt ∧ c.toInt ≤ 9)) → post 0) : wpX5_isTale a b c x post := by
  unfold wpX5_isTale
  refine q_has (fun x1 x2 => c1 (q_isMood (fun x3 x4 => c1 (q_isPails (fun x5 x6 => c1 (h1 ⟨x1, x2⟩ ⟨x3, x4⟩ ?_)) (fun hn => c0 (h0 (fun q => hn ?_))))) (fun hn => c0 (h0 (fun q => hn q.2.1))))) (fun hn => c0 (h0 (fun q => hn q.1)))
  · rw [t_l] at x5 x6; exact ⟨x5, x6⟩
  · rw [t_l]; exact q.2.2
theorem op_liar {a b c d e f : Int32} {x : wXS} {t : wSt} (h : REL x t) {post : Int32 → Prop} (hp : ∀ r, (∀ {p2 : Int32 → Prop}, p2 r → wpX6_liar a b c d e f t p2) → post r) : wpX5_liar a b c d e f x post := by
  have hm := h.m6
  have e4 := h.cnt
  have hFK := h.fk
  obtain ⟨-, -, heq, -, -⟩ := h.1.1
  have ml : ∀ {p2 : Int32 → Prop}, (¬ (((0 ≤ a.toInt ∧ a.toInt < (w_i t 5).toInt) ∧ (-9 ≤ b.toInt ∧ b.toInt ≤ 9) ∧ (0 ≤ c.toInt ∧ c.toInt ≤ 9)) ∧ ((0 ≤ d.toInt ∧ d.toInt < (w_i t 5).toInt) ∧ (-9 ≤ e.toInt ∧ e.toInt ≤ 9) ∧ (0 ≤ f.toInt ∧ f.toInt ≤ 9)) ∧ a.toInt ≠ d.toInt) → p2 (-1)) → ((0 ≤ a.toInt ∧ a.toInt < (w_i t 5).toInt) → (0 ≤ d.toInt ∧ d.toInt < (w_i t 5).toInt) → wpX6_pailsOf (w_a t 0 a.toNatClampNeg) b (fun r7 => (¬ r7 = c → wpX6_liar_84 t p2 d e f 1) ∧ (r7 = c → wpX6_liar_84 t p2 d e f 0))) → wpX6_liar a b c d e f t p2 := by
    intro p2 g0 g1
    unfold wpX6_liar
    refine r_isOne (by omega) (fun x1 x2 => c1 (r_isMood (fun x3 x4 => c1 (r_in (fun x5 x6 => c1 (r_isOne (by omega) (fun y1 y2 => c1 (r_isMood (fun y3 y4 => c1 (r_in (fun y5 y6 => c1 ?_) (fun hn => c0 (g0 (fun q => hn (by rw [t_l, ln0, ln9]; exact q.2.1.2.2)))))) (fun hn => c0 (g0 (fun q => hn q.2.1.2.1))))) (fun hn => c0 (g0 (fun q => hn q.2.1.1))))) (fun hn => c0 (g0 (fun q => hn (by rw [t_l, ln0, ln9]; exact q.1.2.2)))))) (fun hn => c0 (g0 (fun q => hn q.1.2.1))))) (fun hn => c0 (g0 (fun q => hn q.1.1)))
    rw [t_eq]
    exact ⟨fun _ => ⟨t_in (by omega), g1 ⟨x1, x2⟩ ⟨y1, y2⟩⟩, fun z => g0 (fun q => q.2.2 z)⟩
  have bad : ¬ (((0 ≤ a.toInt ∧ a.toInt < (w_i t 5).toInt) ∧ (-9 ≤ b.toInt ∧ b.toInt ≤ 9) ∧ (0 ≤ c.toInt ∧ c.toInt ≤ 9)) ∧ ((0 ≤ d.toInt ∧ d.toInt < (w_i t 5).toInt) ∧ (-9 ≤ e.toInt ∧ e.toInt ≤ 9) ∧ (0 ≤ f.toInt ∧ f.toInt ≤ 9)) ∧ a.toInt ≠ d.toInt) → post (-1) := fun hn => hp _ (fun {p2} p2v => by
    unfold wpX6_liar
    refine r_isOne (by omega) (fun x1 x2 => c1 (r_isMood (fun x3 x4 => c1 (r_in (fun x5 x6 => c1 (r_isOne (by omega) (fun y1 y2 => c1 (r_isMood (fun y3 y4 => c1 (r_in (fun y5 y6 => c1 ?_) (fun _ => c0 p2v))) (fun _ => c0 p2v))) (fun _ => c0 p2v))) (fun _ => c0 p2v))) (fun _ => c0 p2v))) (fun _ => c0 p2v)
    rw [t_eq]
    rw [t_l] at x5 x6 y5 y6
    rw [ln0] at x5 y5
    rw [ln9] at x6 y6
    exact ⟨fun z => absurd ⟨⟨⟨x1, x2⟩, ⟨x3, x4⟩, x5, x6⟩, ⟨⟨y1, y2⟩, ⟨y3, y4⟩, y5, y6⟩, z⟩ hn, fun _ => p2v⟩)
  unfold wpX5_liar
  refine q_isTale (fun x1 x2 x3 => c1 (q_isTale (fun y1 y2 y3 => c1 ?_) (fun hn => c0 (bad (fun q => hn (by rw [e4]; exact q.2.1)))))) (fun hn => c0 (bad (fun q => hn (by rw [e4]; exact q.1))))
  rw [t_eq]
  refine ⟨fun hne => ?_, fun z => bad (fun q => q.2.2 z)⟩
  rw [e4] at x1 y1
  obtain ⟨i, hi⟩ := nat_of x1.1
  obtain ⟨j, hj⟩ := nat_of y1.1
  have gi := (heq i (by omega)).1
  have gj := (heq j (by omega)).1
  have key : ∀ (v v' : Int32), v = v' → (v = 0 ∨ v = 1) → (∀ {p2 : Int32 → Prop}, wpX6_liar_84 t p2 d e f v' → wpX6_liar a b c d e f t p2) → wpX5_liar_52 x post d e f v := by
    intro v v' hv hv2 hpp
    subst hv
    unfold wpX5_liar_52 wpX5_liar_78
    refine q_pailsAt hFK hj (by rw [e4]; omega) (by omega) (fun r hr => ?_)
    rw [gj] at hr
    have k2 : ∀ (g : Int32), ((g = 2 ∧ r.toInt ≠ f.toInt) ∨ (g = 0 ∧ r.toInt = f.toInt)) → post (v ||| g) := by
      intro g hg
      have es : v ||| g = v + g := by
        rcases hv2 with rfl | rfl <;> rcases hg with ⟨rfl, -⟩ | ⟨rfl, -⟩ <;> decide
      rw [es]
      refine hp _ (fun {p2} p2v => hpp ?_)
      unfold wpX6_liar_84 wpX6_liar_106
      rw [t_cl hj]
      refine ⟨t_in (by omega), r_pailsOf (by omega) (fun r' hr' => ?_)⟩
      rw [t_eq, hr']
      rw [hr] at hg
      rcases hg with ⟨rfl, z⟩ | ⟨rfl, z⟩
      · exact ⟨fun _ => p2v, fun q => absurd q z⟩
      · exact ⟨fun q => absurd z q, fun _ => p2v⟩
    rw [t_eq]
    exact ⟨fun q => k2 _ (Or.inl ⟨rfl, q⟩), fun q => k2 _ (Or.inr ⟨rfl, q⟩)⟩
  have mp : ∀ (v : Int32) (r : Int32), r.toInt = m_pails (w_a t 0 i).toInt b.toInt → ((v = 1 ∧ r.toInt ≠ c.toInt) ∨ (v = 0 ∧ r.toInt = c.toInt)) → ∀ {p2 : Int32 → Prop}, wpX6_liar_84 t p2 d e f v → wpX6_liar a b c d e f t p2 := by
    intro v r hr hv p2 hq
    refine ml (fun hn => absurd ⟨⟨x1, x2, x3⟩, ⟨y1, y2, y3⟩, hne⟩ hn) (fun _ _ => ?_)
    rw [t_cl hi]
    refine r_pailsOf (by omega) (fun r' hr' => ?_)
    rw [t_eq, hr', ← hr]
    rcases hv with ⟨rfl, z⟩ | ⟨rfl, z⟩
    · exact ⟨fun _ => hq, fun q => absurd q z⟩
    · exact ⟨fun q => absurd z q, fun _ => hq⟩
  refine q_pailsAt hFK hi (by rw [e4]; omega) (by omega) (fun r hr => ?_)
  rw [gi] at hr
  rw [t_eq]
  exact ⟨fun q => key 1 1 rfl (Or.inr rfl) (mp 1 r hr (Or.inl ⟨rfl, q⟩)), fun q => key 0 0 rfl (Or.inl rfl) (mp 0 r hr (Or.inr ⟨rfl, q⟩))⟩
