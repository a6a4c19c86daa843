-- the bytes of a word
def m_byte (w : Int64) (x : Int32) : Int64 := (w >>> (((8 : Int32) * x).toInt64 &&& 63)) &&& 255
def SG (w : Int64) (i : Nat) : Prop := 32 ≤ (m_byte w (nI i)).toInt ∧ (m_byte w (nI i)).toInt ≤ 126
theorem q_byteOf {w : Int64} {x : Int32} {post : Int32 → Prop} (h : post (m_byte w x).toInt32) : wpX5_byteOf w x post := by
  unfold wpX5_byteOf
  rw [byte_eq]
  exact h
theorem q_areSignsL {w : Int64} {a : Int32} {n : Nat} (ha : a.toInt = (n : Int)) (hn : n ≤ 8) {post : Int32 → Prop} : ∀ (k i : Nat), i + k = n → (∀ q, q < i → SG w q) → ((∀ q, q < n → SG w q) → post 1) → (¬ (∀ q, q < n → SG w q) → post 0) → wpX5_areSigns_L2 post (k + 1) w a (nI i) := by
  have n126 : (126 : Int32).toInt = 126 := by decide
  have n32 : (32 : Int32).toInt = 32 := by decide
  intro k
  induction k with
  | zero =>
    intro i hi hg g1 g0
    show wpX5_areSigns_2 _ post _ _ _
    unfold wpX5_areSigns_2
    rw [t_le, ha, nI_toInt (by omega)]
    exact ⟨fun _ => g1 (fun q hq => hg q (by omega)), fun q => by exfalso; omega⟩
  | succ k ih =>
    intro i hi hg g1 g0
    have ei : (nI i).toInt = (i : Int) := nI_toInt (by omega)
    show wpX5_areSigns_2 _ post _ _ _
    unfold wpX5_areSigns_2
    rw [t_le, ha, ei]
    refine ⟨fun q => by exfalso; omega, fun _ => q_byteOf (q_within ?_ ?_)⟩ <;> rw [show (m_byte w (nI i)).toInt32.toInt = (m_byte w (nI i)).toInt from (byte_rng _).1, n32, n126]
    · refine fun u v => d1 ?_
      rw [nI_1]
      refine ih (i + 1) (by omega) (fun q hq => ?_) g1 g0
      by_cases e : q = i
      · rw [e]; exact ⟨u, v⟩
      · exact hg q (by omega)
    · exact fun u => d0 (g0 (fun z => u (z i (by omega))))
theorem r_signsL {w : Int64} {a : Int32} {n : Nat} (ha : a.toInt = (n : Int)) (hn : n ≤ 8) {t : wSt} {post : Int32 → wSt → Prop} : ∀ (k : Nat) (y : Int32), k ≤ n → y.toInt = (k : Int) - 1 → (∀ q, k ≤ q → q < n → SG w q) → ((∀ q, q < n → SG w q) → (((w_i t 17) + a) ≤ (60 : Int32) → (∃ n, wpX6_type_L74  post n w (a - (1 : Int32)) t)) ∧ (¬ ((w_i t 17) + a) ≤ (60 : Int32) → (post (-3 : Int32) t))) → (¬ (∀ q, q < n → SG w q) → post (-1) t) → wpX6_type_L19 post (k + 1) w a y t := by
  have n1 := tn1
  have l126 : (126 : Int64).toInt = 126 := by decide
  have l32 : (32 : Int64).toInt = 32 := by decide
  intro k
  induction k with
  | zero =>
    intro y hk hy hg g1 g0
    show wpX6_type_19 _ post _ _ _ _
    unfold wpX6_type_19
    rw [t_lt, tn0]
    exact ⟨fun _ => g1 (fun q hq => hg q (by omega) hq), fun q => by exfalso; omega⟩
  | succ k ih =>
    intro y hk hy hg g1 g0
    have ey : y = nI k := by rw [t_eq, nI_toInt (by omega)]; omega
    have hy1 : (y + -1).toInt = (k : Int) - 1 := by rw [t_add (by rw [tnm1]; omega), tnm1]; omega
    show wpX6_type_19 _ post _ _ _ _
    unfold wpX6_type_19
    rw [t_lt, tn0]
    refine ⟨fun q => by exfalso; omega, fun _ => r_in ?_ ?_⟩ <;> rw [show ((w >>> (((8 : Int32) * y).toInt64 &&& 63)) &&& (255 : Int64)).toInt = (m_byte w (nI k)).toInt from by rw [ey]; rfl, l32, l126]
    · refine fun u v => d1 ?_
      refine ih (y + -1) (by omega) hy1 (fun q h1 h2 => ?_) g1 g0
      by_cases e : q = k
      · rw [e]; exact ⟨u, v⟩
      · exact hg q (by omega) h2
    · exact fun u => d0 (g0 (fun z => u (z k (by omega))))
theorem nar_byte : ∀ k : Nat, k < 127 → vp_nar .byte ((nI k).toInt8.toInt32) = nI k := by decide +kernel
-- type
theorem op_typeL {w : Int64} : ∀ (k : Nat) (y : Int32) (x : wXS) (t : wSt) (post : Int32 → wXS → Prop), k ≤ 8 → y.toInt = (k : Int) - 1 → REL x t → (w_i t 17).toInt + k ≤ 60 → (∀ q, q < k → SG w q) → (∀ r x', (∀ {p2 : Int32 → wSt → Prop}, (∀ t', REL x' t' → p2 r t') → wpX6_type_L74 p2 (k + 1) w y t) → post r x') → wpX5_type_L42 post (k + 1) w y x := by
  have n1 := tn1
  have n60 := tn60
  intro k
  induction k with
  | zero =>
    intro y x t post hk hy h hl hg hp
    show wpX5_type_42 _ post _ _ _
    unfold wpX5_type_42
    rw [t_lt, tn0, h.2.2.1.1]
    refine ⟨fun _ => hp _ x (fun {p2} hp2 => ?_), fun q => by exfalso; omega⟩
    show wpX6_type_74 _ p2 _ _ _
    unfold wpX6_type_74
    rw [t_lt, tn0]
    exact ⟨fun _ => hp2 t h, fun q => by exfalso; omega⟩
  | succ k ih =>
    intro y x t post hk hy h hl hg hp
    have ey : y = nI k := by rw [t_eq, nI_toInt (by omega)]; omega
    have hy1 : (y + -1).toInt = (k : Int) - 1 := by rw [t_add (by rw [tnm1]; omega), tnm1]; omega
    obtain ⟨T1, T2, T3⟩ := h.2.2.1
    obtain ⟨L, hL⟩ := nat_of T2.1
    obtain ⟨s1, s2⟩ := hg k (by omega)
    have hb : (m_byte w y).toInt32.toInt = (m_byte w (nI k)).toInt := by rw [ey]; exact (byte_rng _).1
    obtain ⟨v, hv⟩ := nat_of (x := (m_byte w y).toInt32) (by omega)
    have ev : (m_byte w y).toInt32 = nI v := by rw [t_eq, nI_toInt (by omega)]; exact hv
    have el : (w_i t 17 + 1).toInt = (w_i t 17).toInt + 1 := by rw [t_add (by omega), n1]
    show wpX5_type_42 _ post _ _ _
    unfold wpX5_type_42
    rw [t_lt, tn0]
    refine ⟨fun q => by exfalso; omega, fun _ => q_byteOf ?_⟩
    unfold wpX3_append
    rw [T1, t_le, n60]
    refine ⟨fun q => by exfalso; omega, fun _ => ⟨t_in (by omega), ?_⟩⟩
    rw [ev, nar_byte v (by omega), t_cl hL]
    rintro z1 rfl
    rintro z2 rfl
    rintro z3 rfl
    have hR : REL (x_st x (w_si (w_sa (x_t x) 0 (upd (w_a (x_t x) 0) L (nI v))) 1 (w_i (w_sa (x_t x) 0 (upd (w_a (x_t x) 0) L (nI v))) 1 + 1))) (w_si (w_sa t 16 (upd (w_a t 16) L (nI v))) 17 (w_i t 17 + 1)) := by
      refine ⟨h.1.eq ⟨⟨rfl, rfl, rfl, rfl, rfl, rfl, rfl, rfl, rfl, rfl⟩, rfl, rfl, rfl, rfl, rfl, rfl⟩, h.2.1.eq rfl rfl, ⟨?_, ?_, fun i hi => ?_⟩, h.2.2.2.eq rfl rfl rfl⟩
      · show w_i (x_t x) 1 + 1 = w_i t 17 + 1
        rw [T1]
      · show 0 ≤ (w_i t 17 + 1).toInt ∧ (w_i t 17 + 1).toInt ≤ 60
        omega
      · have hi' : (i : Int) < (w_i t 17 + 1).toInt := hi
        show upd (w_a (x_t x) 0) L (nI v) i = upd (w_a t 16) L (nI v) i ∧ 32 ≤ (upd (w_a t 16) L (nI v) i).toInt ∧ (upd (w_a t 16) L (nI v) i).toInt ≤ 126
        rw [g_u, g_u]
        by_cases e : i = L
        · rw [if_pos e, if_pos e]
          refine ⟨rfl, ?_⟩
          rw [nI_toInt (by omega)]; omega
        · rw [if_neg e, if_neg e]
          exact T3 i (by omega)
    refine ih (y + -1) _ _ post (by omega) hy1 hR (by show (w_i t 17 + 1).toInt + k ≤ 60; omega) (fun q hq => hg q (by omega)) (fun r x' hx => hp r x' (fun {p2} hp2 => ?_))
    show wpX6_type_74 _ p2 _ _ _
    unfold wpX6_type_74
    rw [t_lt, tn0]
    refine ⟨fun q => by exfalso; omega, fun _ => ⟨t_in (by omega), ?_⟩⟩
    have eb : ((w >>> (((8 : Int32) * y).toInt64 &&& 63)) &&& (255 : Int64)).toInt32 = nI v := ev
    rw [eb, t_cl hL]
    rintro z1 rfl
    rintro z2 rfl
    exact hx hp2
theorem op_type {w : Int64} {a : Int32} {x : wXS} {t : wSt} (h : REL x t) {post : Int32 → wXS → Prop} (hp : ∀ r x', (∀ {p2 : Int32 → wSt → Prop}, (∀ t', REL x' t' → p2 r t') → wpX6_type w a t p2) → post r x') : wpX5_type w a x post := by
  have n1 := tn1
  have n60 := tn60
  obtain ⟨T1, T2, T3⟩ := h.2.2.1
  unfold wpX5_type
  refine q_within ?_ ?_ <;> rw [tn1, tn8]
  · intro k1 k2
    refine c1 ?_
    obtain ⟨n, hn⟩ := nat_of (x := a) (by omega)
    have ea : (a - 1).toInt = (n : Int) - 1 := by rw [t_sub (by omega)]; omega
    have kM : ∀ {p2 : Int32 → wSt → Prop}, (∃ n, wpX6_type_L19 p2 n w a (a - 1) t) → wpX6_type w a t p2 := by
      intro p2 hh
      unfold wpX6_type
      refine r_in ?_ ?_ <;> rw [t_l, ln1, ln8]
      · exact fun _ _ => d1 hh
      · exact fun q => absurd ⟨k1, k2⟩ q
    unfold wpX5_areSigns
    refine ⟨n + 1, q_areSignsL hn (by omega) n 0 (by omega) (fun q hq => by omega) (fun hS => d1 ?_) (fun hS => d0 (hp (-1) x (fun {p2} hp2 => kM ⟨n + 1, ?_⟩)))⟩
    · rw [T1, t_le, n60, t_add (by omega)]
      refine ⟨fun c => ⟨n + 1, ?_⟩, fun c => hp (-3) x (fun {p2} hp2 => kM ⟨n + 1, ?_⟩)⟩
      · refine op_typeL n (a - 1) x t post (by omega) ea h (by omega) hS (fun r x' hx => hp r x' (fun {p2} hp2 => kM ⟨n + 1, ?_⟩))
        refine r_signsL hn (by omega) n (a - 1) (by omega) ea (fun q h1 h2 => by omega) (fun _ => ?_) (fun q => absurd hS q)
        rw [t_le, n60, t_add (by omega)]
        exact ⟨fun _ => ⟨n + 1, hx hp2⟩, fun q => absurd c q⟩
      · refine r_signsL hn (by omega) n (a - 1) (by omega) ea (fun q h1 h2 => by omega) (fun _ => ?_) (fun q => absurd hS q)
        rw [t_le, n60, t_add (by omega)]
        exact ⟨fun q => absurd q c, fun _ => hp2 t h⟩
    · exact r_signsL hn (by omega) n (a - 1) (by omega) ea (fun q h1 h2 => by omega) (fun q => absurd q hS) (fun _ => hp2 t h)
  · intro q
    refine c0 (hp (-1) x (fun {p2} hp2 => ?_))
    unfold wpX6_type
    refine r_in ?_ ?_ <;> rw [t_l, ln1, ln8]
    · exact fun q1 q2 => absurd ⟨q1, q2⟩ q
    · exact fun _ => d0 (hp2 t h)
