-- bits
theorem bt_and1v (y : Int32) : y &&& 1 = if bt y 0 = true then 1 else 0 := by
  by_cases h : bt y 0 = true
  · rw [if_pos h]; exact (bt_and1 y).mpr h
  · rw [if_neg h]
    apply b_ext
    intro i hi
    rw [b_and, b_1 i hi, b_0]
    by_cases h0 : i = 0
    · subst h0; simp [h]
    · simp [h0]
theorem bt_val (q x : Int32) (n : Nat) (hn : n < 32) (hx : x.toInt = (n : Int)) : (q >>> (x &&& 31)) &&& 1 = if bt q n = true then 1 else 0 := by
  rw [bt_and1v]
  have e := bt_test q x n hn hx
  rw [bt_and1] at e
  by_cases h : bt q n = true
  · rw [if_pos h, if_pos (e.mpr h)]
  · rw [if_neg h, if_neg (fun c => h (e.mp c))]
theorem nI_of_toInt {x : Int32} {n : Nat} (hn : n < 2 ^ 31) (hx : x.toInt = (n : Int)) : x = nI n := by rw [t_eq, hx, nI_toInt hn]
theorem bt_one (x : Int32) (n : Nat) (hn : n < 32) (hx : x.toInt = (n : Int)) (i : Nat) (hi : i < 32) : bt ((1 : Int32) <<< (x &&& 31)) i = decide (i = n) := by
  rw [nI_of_toInt (by omega) hx, b_shl n hn 1 hi]
  by_cases h : n ≤ i
  · rw [b_1 _ (by omega)]
    by_cases e : i = n
    · subst e; simp
    · have : i - n ≠ 0 := by omega
      simp [this, e]
  · have : i ≠ n := by omega
    simp [h, this]
theorem bt_set (q x : Int32) (n : Nat) (hn : n < 32) (hx : x.toInt = (n : Int)) (i : Nat) : bt (q ||| ((1 : Int32) <<< (x &&& 31))) i = if i = n then true else bt q i := by
  rcases Nat.lt_or_ge i 32 with hi | hi
  · rw [b_or, bt_one x n hn hx i hi]
    by_cases e : i = n <;> simp [e]
  · rw [b_big hi, b_big hi, if_neg (by omega)]
theorem bt_clr (q x : Int32) (n : Nat) (hn : n < 32) (hx : x.toInt = (n : Int)) (i : Nat) : bt (q &&& (((1 : Int32) <<< (x &&& 31)) ^^^ (-1 : Int32))) i = if i = n then false else bt q i := by
  rcases Nat.lt_or_ge i 32 with hi | hi
  · rw [b_and, b_xor, bt_one x n hn hx i hi, b_m1 i hi]
    by_cases e : i = n <;> simp [e]
  · rw [b_big hi, b_big hi]; split <;> rfl
-- quarrel
theorem WR.foes {w : wP2} {t : wSt} {va vb : Int32} {i j : Nat} {is : Bool} (h : WR w t) (hi : (i : Int) < (w_i t 5).toInt) (hj : (j : Int) < (w_i t 5).toInt) (hij : i ≠ j) (ha : ∀ k, bt va k = if k = j then is else bt (w_a t 3 i) k) (hb : ∀ k, bt vb k = if k = i then is else bt (w_a t 3 j) k) :
    WR (w_sf w (w_sa (w_f w) 3 (upd (upd (w_a (w_f w) 3) i va) j vb))) (w_sa t 3 (upd (upd (w_a t 3) i va) j vb)) := by
  obtain ⟨⟨⟨f1, f2⟩, e4, heq, hsy, hhi⟩, hA, hO, hG, hP⟩ := h
  refine ⟨⟨⟨f1, f2⟩, e4, ?_, ?_, ?_⟩, hA, hO, hG, hP⟩
  · intro k hk
    obtain ⟨g0, g1, g2, g3⟩ := heq k hk
    refine ⟨g0, g1, g2, ?_⟩
    show upd (upd (w_a (w_f w) 3) i va) j vb k = upd (upd (w_a t 3) i va) j vb k
    simp only [g_u]
    rw [g3]
  · intro k m hk hm
    show bt (upd (upd (w_a t 3) i va) j vb k) m = bt (upd (upd (w_a t 3) i va) j vb m) k
    have hk' : (k : Int) < (w_i t 5).toInt := hk
    have hm' : (m : Int) < (w_i t 5).toInt := hm
    simp only [g_u]
    by_cases k1 : k = j <;> by_cases k2 : k = i <;> by_cases m1 : m = j <;> by_cases m2 : m = i <;> simp only [k1, k2, m1, m2, if_true, if_false, ha, hb, eq_self_iff_true, hij, Ne.symm hij] <;> first | rfl | (exfalso; omega) | skip
    all_goals first | (subst k1; first | exact hsy _ _ (by omega) (by omega) | rfl) | (subst k2; first | exact hsy _ _ (by omega) (by omega) | rfl) | (subst m1; exact hsy _ _ (by omega) (by omega)) | (subst m2; exact hsy _ _ (by omega) (by omega)) | exact hsy _ _ (by omega) (by omega)
  · intro k m hk hm
    show bt (upd (upd (w_a t 3) i va) j vb k) m = false
    have hk' : (k : Int) < (w_i t 5).toInt := hk
    have hm' : (w_i t 5).toInt ≤ (m : Int) := hm
    simp only [g_u]
    by_cases k1 : k = j
    · rw [if_pos k1, hb, if_neg (by omega)]; exact hhi j m hj hm'
    · rw [if_neg k1]
      by_cases k2 : k = i
      · rw [if_pos k2, ha, if_neg (by omega)]; exact hhi i m hi hm'
      · rw [if_neg k2]; exact hhi k m hk' hm'
/-- the two ways a quarrel is told -/
def m_qv (is : Bool) (q x : Int32) : Int32 := if is = true then q ||| ((1 : Int32) <<< (x &&& 31)) else q &&& (((1 : Int32) <<< (x &&& 31)) ^^^ (-1 : Int32))
theorem bt_qv (is : Bool) (q x : Int32) (n : Nat) (hn : n < 32) (hx : x.toInt = (n : Int)) (i : Nat) : bt (m_qv is q x) i = if i = n then is else bt q i := by
  unfold m_qv
  cases is with
  | true => rw [if_pos rfl]; exact bt_set q x n hn hx i
  | false => rw [if_neg (by decide)]; exact bt_clr q x n hn hx i
theorem q_makeFoes {a b c : Int32} {f : wSt} {post : wSt → Prop} {i j : Nat} {is : Bool} (hc : c = if is = true then 1 else 0) (h6 : (w_i f 4).toInt ≤ 6) (hi : a.toInt = (i : Int)) (hj : b.toInt = (j : Int)) (hci : (i : Int) < (w_i f 4).toInt) (hcj : (j : Int) < (w_i f 4).toInt) (hij : i ≠ j) (h : post (w_sa f 3 (upd (upd (w_a f 3) i (m_qv is (w_a f 3 i) b)) j (m_qv is (w_a f 3 j) a)))) : wpX0_makeFoes a b c f post := by
  have ha : vp_in a 6 := t_in (by omega)
  have hb : vp_in b 6 := t_in (by omega)
  have key : ∀ va, va = m_qv is (w_a f 3 i) b → wpX0_makeFoes_51 post a b c va a f := by
    intro va e
    unfold wpX0_makeFoes_51 wpX0_makeFoes_86
    refine ⟨ha, ?_⟩
    rintro z1 rfl
    rw [t_cl hi, t_cl hj]
    have e3 : w_a (w_sa f 3 (upd (w_a f 3) i va)) 3 j = w_a f 3 j := by
      show upd (w_a f 3) i va j = _
      rw [g_u, if_neg (Ne.symm hij)]
    have ee : ∀ vb, vb = m_qv is (w_a f 3 j) a → post (w_sa (w_sa f 3 (upd (w_a f 3) i va)) 3 (upd (w_a (w_sa f 3 (upd (w_a f 3) i va)) 3) j vb)) := by
      intro vb e'
      subst e'; subst e
      have e9 : w_sa (w_sa f 3 (upd (w_a f 3) i (m_qv is (w_a f 3 i) b))) 3 (upd (w_a (w_sa f 3 (upd (w_a f 3) i (m_qv is (w_a f 3 i) b))) 3) j (m_qv is (w_a f 3 j) a)) = w_sa f 3 (upd (upd (w_a f 3) i (m_qv is (w_a f 3 i) b)) j (m_qv is (w_a f 3 j) a)) := by
        unfold w_sa w_a vf_upd
        refine Prod.ext rfl (Prod.ext ?_ rfl)
        funext k
        by_cases hk : k = 3
        · simp [hk]
        · simp [hk]
      rw [e9]; exact h
    rw [e3]
    cases is with
    | true =>
      rw [hc]
      refine ⟨fun q => absurd q (by decide), fun _ => ⟨hb, hb, ?_⟩⟩
      rintro z2 rfl
      exact ee _ rfl
    | false =>
      rw [hc]
      refine ⟨fun _ => ⟨hb, hb, ?_⟩, fun q => absurd rfl q⟩
      rintro z2 rfl
      exact ee _ rfl
  unfold wpX0_makeFoes
  refine q_has (fun _ _ => c1 (q_has (fun _ _ => d1 ?_) (fun hn => absurd ⟨by omega, by omega⟩ hn))) (fun hn => absurd ⟨by omega, by omega⟩ hn)
  rw [t_cl hi]
  cases is with
  | true =>
    rw [hc]
    rw [hc] at key
    exact ⟨fun q => absurd q (by decide), fun _ => ⟨ha, key _ rfl⟩⟩
  | false =>
    rw [hc]
    rw [hc] at key
    exact ⟨fun _ => ⟨ha, key _ rfl⟩, fun q => absurd rfl q⟩
theorem r_setQuarrel {a b c : Int32} {f : wSt} {post : wSt → Prop} {i j : Nat} {is : Bool} (hc : c = if is = true then 1 else 0) (hi : a.toInt = (i : Int)) (hj : b.toInt = (j : Int)) (hci : i < 6) (hcj : j < 6) (hij : i ≠ j) (h : post (w_sa f 3 (upd (upd (w_a f 3) i (m_qv is (w_a f 3 i) b)) j (m_qv is (w_a f 3 j) a)))) : wpX6_setQuarrel a b c f post := by
  have ha : vp_in a 6 := t_in (by omega)
  have hb : vp_in b 6 := t_in (by omega)
  have key : ∀ va, va = m_qv is (w_a f 3 i) b → wpX6_setQuarrel_34 post a b c va a f := by
    intro va e
    unfold wpX6_setQuarrel_34 wpX6_setQuarrel_69
    refine ⟨ha, ?_⟩
    rintro z1 rfl
    rw [t_cl hi, t_cl hj]
    have e3 : w_a (w_sa f 3 (upd (w_a f 3) i va)) 3 j = w_a f 3 j := by
      show upd (w_a f 3) i va j = _
      rw [g_u, if_neg (Ne.symm hij)]
    have ee : ∀ vb, vb = m_qv is (w_a f 3 j) a → post (w_sa (w_sa f 3 (upd (w_a f 3) i va)) 3 (upd (w_a (w_sa f 3 (upd (w_a f 3) i va)) 3) j vb)) := by
      intro vb e'
      subst e'; subst e
      have e9 : w_sa (w_sa f 3 (upd (w_a f 3) i (m_qv is (w_a f 3 i) b))) 3 (upd (w_a (w_sa f 3 (upd (w_a f 3) i (m_qv is (w_a f 3 i) b))) 3) j (m_qv is (w_a f 3 j) a)) = w_sa f 3 (upd (upd (w_a f 3) i (m_qv is (w_a f 3 i) b)) j (m_qv is (w_a f 3 j) a)) := by
        unfold w_sa w_a vf_upd
        refine Prod.ext rfl (Prod.ext ?_ rfl)
        funext k
        by_cases hk : k = 3
        · simp [hk]
        · simp [hk]
      rw [e9]; exact h
    rw [e3]
    cases is with
    | true =>
      rw [hc]
      refine ⟨fun q => absurd q (by decide), fun _ => ⟨hb, hb, ?_⟩⟩
      rintro z2 rfl
      exact ee _ rfl
    | false =>
      rw [hc]
      refine ⟨fun _ => ⟨hb, hb, ?_⟩, fun q => absurd rfl q⟩
      rintro z2 rfl
      exact ee _ rfl
  unfold wpX6_setQuarrel
  rw [t_cl hi]
  cases is with
  | true =>
    rw [hc]
    rw [hc] at key
    exact ⟨fun q => absurd q (by decide), fun _ => ⟨ha, key _ rfl⟩⟩
  | false =>
    rw [hc]
    rw [hc] at key
    exact ⟨fun _ => ⟨ha, key _ rfl⟩, fun q => absurd rfl q⟩
theorem op_quarrel {a b c : Int32} {is : Bool} (hc : c = if is = true then 1 else 0) {x : wXS} {t : wSt} (h : REL x t) {post : Int32 → wXS → Prop} (hp : ∀ r x', (∀ {p2 : Int32 → wSt → Prop}, (∀ t', REL x' t' → p2 r t') → wpX6_quarrel a b c t p2) → post r x') : wpX5_quarrel a b c x post := by
  have hm := h.m6
  have e4 := h.cnt
  have hFK := h.fk
  obtain ⟨-, -, heq, hsy, hhi⟩ := h.1.1
  have mq : ∀ {p2 : Int32 → wSt → Prop}, (¬ ((0 ≤ a.toInt ∧ a.toInt < (w_i t 5).toInt) ∧ (0 ≤ b.toInt ∧ b.toInt < (w_i t 5).toInt) ∧ a.toInt ≠ b.toInt) → p2 (-1) t) → ((0 ≤ a.toInt ∧ a.toInt < (w_i t 5).toInt) → (0 ≤ b.toInt ∧ b.toInt < (w_i t 5).toInt) → a.toInt ≠ b.toInt → wpX6_setQuarrel a b c t (fun u => ∀ z1, z1 = u → p2 ((w_a t 3 a.toNatClampNeg >>> (b &&& 31)) &&& 1) z1)) → wpX6_quarrel a b c t p2 := by
    intro p2 g0 g1
    unfold wpX6_quarrel
    refine r_isOne (by omega) (fun x1 x2 => c1 (r_isOne (by omega) (fun x3 x4 => c1 ?_) (fun hn => c0 (g0 (fun q => hn q.2.1))))) (fun hn => c0 (g0 (fun q => hn q.1)))
    rw [t_eq]
    exact ⟨fun q => ⟨t_in (by omega), g1 ⟨x1, x2⟩ ⟨x3, x4⟩ q⟩, fun q => g0 (fun z => z.2.2 q)⟩
  have bad : ¬ ((0 ≤ a.toInt ∧ a.toInt < (w_i t 5).toInt) ∧ (0 ≤ b.toInt ∧ b.toInt < (w_i t 5).toInt) ∧ a.toInt ≠ b.toInt) → post (-1) x := fun hn => hp _ _ (fun {p2} p2v => mq (fun _ => p2v t h) (fun y1 y2 y3 => absurd ⟨y1, y2, y3⟩ hn))
  unfold wpX5_quarrel
  refine q_has (fun x1 x2 => c1 (q_has (fun x3 x4 => c1 ?_) (fun hn => c0 (bad (fun q => hn (by rw [e4]; exact q.2.1)))))) (fun hn => c0 (bad (fun q => hn (by rw [e4]; exact q.1))))
  rw [t_eq]
  refine ⟨fun hne => ?_, fun q => bad (fun z => z.2.2 q)⟩
  rw [e4] at x2 x4
  obtain ⟨i, hi⟩ := nat_of x1
  obtain ⟨j, hj⟩ := nat_of x3
  have hij : i ≠ j := by omega
  have hci : (i : Int) < (w_i t 5).toInt := by omega
  have hcj : (j : Int) < (w_i t 5).toInt := by omega
  have key : ∀ r : Int32, r = (if bt (w_a t 3 i) j = true then 1 else 0) → wpX5_quarrel_55 post a b c r x := by
    intro r hr
    unfold wpX5_quarrel_55
    refine q_makeFoes hc hFK.1.2 hi hj (by rw [e4]; exact hci) (by rw [e4]; exact hcj) hij ?_
    rintro z1 rfl
    refine hp _ _ (fun {p2} p2v => mq (fun hn => absurd ⟨⟨x1, x2⟩, ⟨x3, x4⟩, hne⟩ hn) (fun _ _ _ => r_setQuarrel hc hi hj (by omega) (by omega) hij ?_))
    rintro z1 rfl
    rw [t_cl hi, bt_val _ b j (by omega) hj, ← hr]
    refine p2v _ ?_
    rw [(heq i hci).2.2.2, (heq j hcj).2.2.2]
    exact h.w (h.1.foes (is := is) hci hcj hij (fun k => bt_qv is _ b j (by omega) hj k) (fun k => bt_qv is _ a i (by omega) hi k)) rfl rfl rfl rfl rfl rfl rfl
  refine q_areFoes hFK (fun i' j' hi' hj' _ _ hm' => c1 (key _ ?_)) (fun hm' => c0 (key _ ?_))
  · have ei : i' = i := by omega
    have ej : j' = j := by omega
    subst ei; subst ej
    unfold m_foe at hm'
    rw [(heq i' hci).2.2.2] at hm'
    rw [if_pos hm']
  · have := hm' i j hi hj (by rw [e4]; exact hci) (by rw [e4]; exact hcj)
    unfold m_foe at this
    rw [(heq i hci).2.2.2] at this
    rw [if_neg this]
