theorem bt_l32 {y : Int64} {i : Nat} (hi : i < 32) : bt y.toInt32 i = y.toBitVec.getLsbD i := by
  unfold bt
  rw [Int64.toBitVec_toInt32, BitVec.getLsbD_signExtend, decide_eq_true hi, if_pos (by omega)]
  rfl
theorem bt_neg {x : Int32} (h : bt x 31 = false) : 0 ≤ x.toInt := by
  have : x.toBitVec.msb = false := by rw [BitVec.msb_eq_getLsbD_last]; exact h
  exact BitVec.toInt_nonneg_of_msb_false this
theorem lot_rng (y : Int64) : 0 ≤ ((y &&& 2147483647).toInt32).toInt := by
  refine bt_neg ?_
  rw [bt_l32 (by omega), Int64.toBitVec_and, BitVec.getLsbD_and]
  have : (2147483647 : Int64).toBitVec.getLsbD 31 = false := by decide
  rw [this, Bool.and_false]
/-- who the lot falls to -/
def m_lot (v n : Int32) : Int32 := v / 65536 - v / 65536 / (n + 1) * (n + 1)
theorem m_lot_rng {v n : Int32} {m : Nat} (hv : 0 ≤ v.toInt) (hn : n.toInt = (m : Int)) (hm : m ≤ 6) : ∃ k : Nat, (m_lot v n).toInt = (k : Int) ∧ k ≤ m := by
  have n1 := tn1
  have hr := t_rng v
  have e5 : (65536 : Int32).toInt = 65536 := by decide
  have e1 : (n + 1).toInt = (m : Int) + 1 := by rw [t_add (by omega), hn, tn1]
  have eq : (v / 65536).toInt = v.toInt / 65536 := by rw [t_div hv (by rw [e5]; omega), e5]
  have hq : 0 ≤ (v / 65536).toInt ∧ (v / 65536).toInt < 32768 := by rw [eq]; omega
  have e2 : (v / 65536 / (n + 1)).toInt = (v / 65536).toInt / ((m : Int) + 1) := by rw [t_div hq.1 (by omega), e1]
  have hd : 0 ≤ (v / 65536).toInt / ((m : Int) + 1) ∧ (v / 65536).toInt / ((m : Int) + 1) * ((m : Int) + 1) ≤ (v / 65536).toInt := ⟨Int.ediv_nonneg hq.1 (by omega), Int.ediv_mul_le _ (by omega)⟩
  have hd2 : 0 ≤ (v / 65536).toInt / ((m : Int) + 1) * ((m : Int) + 1) := Int.mul_nonneg hd.1 (by omega)
  have hd3 : (v / 65536).toInt < ((v / 65536).toInt / ((m : Int) + 1) + 1) * ((m : Int) + 1) := Int.lt_mul_of_ediv_lt (by omega) (by omega)
  rw [Int.add_mul] at hd3
  have e3 : (v / 65536 / (n + 1) * (n + 1)).toInt = (v / 65536).toInt / ((m : Int) + 1) * ((m : Int) + 1) := by rw [t_mul (by rw [e2, e1]; omega), e2, e1]
  have e4 : (m_lot v n).toInt = (v / 65536).toInt - (v / 65536).toInt / ((m : Int) + 1) * ((m : Int) + 1) := by
    unfold m_lot
    rw [t_sub (by rw [e3]; omega), e3]
  exact ⟨(m_lot v n).toInt.toNat, by omega, by omega⟩
def m_seed (v : Int32) : Int32 := ((v.toInt64 * 1103515245 + 12345) &&& 2147483647).toInt32
theorem WR.lots {w : wP2} {t : wSt} {v : Int32} (h : WR w t) (hv : 0 ≤ v.toInt) : WR (w_so w (w_si (w_o w) 11 v)) (w_si t 15 v) := by
  obtain ⟨hF, hA, ⟨o4, o5, o6, o7, o8, o9, o10, o3, o11⟩, ⟨q1, q2, q3, q4, q5, q6, q7⟩, hP⟩ := h
  exact ⟨hF, hA, ⟨o4, o5, o6, o7, o8, o9, o10, o3, rfl⟩, ⟨q1, q2, q3, q4, q5, q6, hv⟩, hP⟩
theorem q_lot {w : wP2} {post : Int32 → wP2 → Prop} (hf : FK (w_f w)) (h : ∀ r, (m_ok w r) → (∀ k : Nat, (m_lot (m_seed (w_i (w_o w) 11)) (w_i (w_f w) 4)).toInt = (k : Int) → ((k : Int) < (w_i (w_f w) 4).toInt ∧ (w_a (w_o w) 1 k).toInt = 0 ∧ r = m_lot (m_seed (w_i (w_o w) 11)) (w_i (w_f w) 4)) ∨ (((w_i (w_f w) 4).toInt ≤ (k : Int) ∨ (w_a (w_o w) 1 k).toInt ≠ 0) ∧ r = 9)) → post r (w_so w (w_si (w_o w) 11 (m_seed (w_i (w_o w) 11))))) : wpX4_lot w post := by
  have n1 := tn1
  have h6 := hf.1
  unfold wpX4_lot
  rintro z1 rfl
  refine ⟨by decide, fun q => ?_, ?_⟩
  · have e : (w_i (w_f w) 4 + 1).toInt = 0 := by
      have q' : w_i (w_f w) 4 + 1 = 0 := q
      rw [q', tn0]
    rw [t_add (by omega)] at e
    omega
  · refine q_mayDraw (w := w_so w (w_si (w_o w) 11 (m_seed (w_i (w_o w) 11)))) hf (fun i hi hc hz => ⟨fun q => absurd q (by decide), fun _ => h _ (Or.inr ⟨i, hi, hc, hz⟩) (fun k hk => Or.inl ?_)⟩) (fun hno => ⟨fun _ => h 9 (Or.inl tn9) (fun k hk => Or.inr ⟨?_, rfl⟩), fun q => absurd rfl q⟩)
    · have e : i = k := by
        have hi' : (m_lot (m_seed (w_i (w_o w) 11)) (w_i (w_f w) 4)).toInt = (i : Int) := hi
        omega
      subst e
      exact ⟨hc, hz, rfl⟩
    · by_cases c : (k : Int) < (w_i (w_f w) 4).toInt
      · exact Or.inr (hno k hk c)
      · exact Or.inl (by omega)
-- drawn
theorem op_drawnL {n : Nat} (hn : n ≤ 60) {a : Int32} (ha : a.toInt = (n : Int)) : ∀ (k i : Nat) (s : Int32) (x : wXS) (t0 : wSt) (post : Int32 → wXS → Prop), i + k = n → REL x t0 → (w_i t0 11).toInt + k ≤ 9999 → (∀ r x', (∀ t, REL x t → ∀ {p2 : Int32 → wSt → Prop}, (∀ t', REL x' t' → p2 r t') → wpX6_drawn_L33 p2 (k + 1) a s (nI i) t) → post r x') → wpX5_drawn_L30 post (k + 1) a s (nI i) x := by
  have n1 := tn1
  intro k
  induction k with
  | zero =>
    intro i s x t0 post hi h hh hp
    have ei : (nI i).toInt = (i : Int) := nI_toInt (by omega)
    show wpX5_drawn_30 _ post _ _ _ _
    unfold wpX5_drawn_30
    rw [t_le, ha, ei]
    refine ⟨fun _ => hp _ x (fun t ht {p2} hp2 => ?_), fun q => by exfalso; omega⟩
    show wpX6_drawn_33 _ p2 _ _ _ _
    unfold wpX6_drawn_33
    rw [t_le, ha, ei]
    exact ⟨fun _ => hp2 t ht, fun q => by exfalso; omega⟩
  | succ k ih =>
    intro i s x t0 post hi h hh hp
    have ei : (nI i).toInt = (i : Int) := nI_toInt (by omega)
    obtain ⟨V, eV⟩ : ∃ V, V = m_seed (w_i (w_o (x_w x)) 11) := ⟨_, rfl⟩
    have hV : 0 ≤ V.toInt := by rw [eV]; exact lot_rng _
    have h6 := h.fk.1
    obtain ⟨m, hm⟩ := nat_of h6.1
    obtain ⟨q, hq, hqm⟩ := m_lot_rng (v := V) hV hm (by omega)
    show wpX5_drawn_30 _ post _ _ _ _
    unfold wpX5_drawn_30
    rw [t_le, ha, ei]
    refine ⟨fun q => by exfalso; omega, fun _ => q_lot h.fk (fun r hok hr => ?_)⟩
    rw [← eV] at hr ⊢
    have hr := hr q hq
    have h1 := h.1.lots (v := V) hV
    obtain ⟨W, eW⟩ : ∃ W, W = w_so (x_w x) (w_si (w_o (x_w x)) 11 V) := ⟨_, rfl⟩
    rw [← eW] at h1 ⊢
    have hokW : m_ok W r := by rw [eW]; exact hok
    intro z1 e
    subst e
    refine both_hour (w := W) h1 (by show (w_i t0 11).toInt ≤ 9998; omega) hokW (fun r2 w' hr2 hex hM => ?_)
    obtain ⟨t1, hW1, e1, hF1⟩ := hex
    intro z2 e
    subst e
    rw [nI_1]
    have hx1 : REL (x_sw x W) (w_si t0 15 V) := h.w h1 rfl rfl rfl rfl rfl rfl rfl
    have e1' : (w_i t1 11).toInt = (w_i t0 11).toInt + 1 := e1
    refine ih (i + 1) (s + r2) (x_sw (x_sw x W) w') t1 post (by omega) (hx1.gf hW1 hF1) (by omega) (fun r3 x3 hx3 => hp r3 x3 (fun t ht {p2} hp2 => ?_))
    have o11 : w_i (w_o (x_w x)) 11 = w_i t 15 := ht.1.2.2.1.2.2.2.2.2.2.2.2
    have ht1 : WR W (w_si t 15 V) := by rw [eW]; exact ht.1.lots hV
    have hxt : REL (x_sw x W) (w_si t 15 V) := ht.w ht1 rfl rfl rfl rfl rfl rfl rfl
    have ecnt : w_i (w_f (x_w x)) 4 = w_i t 5 := ht.cnt
    have go : wpX6_drawn_108 (wpX6_drawn_L33 p2 (k + 1)) p2 a (nI i) r s (w_si t 15 V) := by
      unfold wpX6_drawn_108
      refine hM (w_si t 15 V) ht1 (fun t' hW hF e' => ?_)
      intro z3 e
      subst e
      rw [nI_1]
      exact hx3 _ (hxt.gf hW hF) hp2
    have go9 : r = 9 → wpX6_drawn_106 (wpX6_drawn_L33 p2 (k + 1)) p2 a (nI i) s (w_si t 15 V) := by
      intro e9
      unfold wpX6_drawn_106
      rw [← e9]; exact go
    show wpX6_drawn_33 _ p2 _ _ _ _
    unfold wpX6_drawn_33
    rw [t_le, ha, ei]
    refine ⟨fun q => by exfalso; omega, fun _ => ?_⟩
    intro z4 e
    have ez : z4 = w_si t 15 V := by rw [e, eV, o11]; rfl
    clear e
    subst ez
    have e5 : w_i (w_si t 15 V) 5 = w_i (w_f (x_w x)) 4 := by rw [ecnt]; rfl
    have e15 : w_i (w_si t 15 V) 15 = V := rfl
    have e11 : w_i (w_si t 15 V) 11 = w_i t 11 := rfl
    have e4 : w_a (w_si t 15 V) 4 = w_a t 4 := rfl
    rw [e5, e15, e11, e4]
    have em : V / 65536 - V / 65536 / (w_i (w_f (x_w x)) 4 + 1) * (w_i (w_f (x_w x)) 4 + 1) = m_lot V (w_i (w_f (x_w x)) 4) := rfl
    rw [em, t_le, t_cl hq, hq, t_lt]
    have hw := ht.1.2.1.1 q
    refine ⟨by decide, fun c => ?_, fun c => ?_, fun c => ⟨t_in (by omega), fun d => ?_, fun d => ?_⟩⟩
    · have e : (w_i (w_f (x_w x)) 4 + 1).toInt = 0 := by rw [c, tn0]
      rw [t_add (by omega)] at e
      omega
    · rcases hr with ⟨g1, -⟩ | ⟨-, g⟩
      · exfalso; omega
      · exact go9 g
    · have hw' := hw (by omega)
      rw [if_pos (by rw [← ecnt]; omega)] at hw'
      rcases hr with ⟨g1, g2, -⟩ | ⟨-, g⟩
      · exfalso; omega
      · exact go9 g
    · have hw' := hw (by omega)
      rw [if_pos (by rw [← ecnt]; omega)] at hw'
      rcases hr with ⟨g1, g2, g3⟩ | ⟨g, -⟩
      · rw [← g3]; exact go
      · exfalso; omega
theorem op_drawn {a : Int32} {x : wXS} {t : wSt} (h : REL x t) {post : Int32 → wXS → Prop} (hp : ∀ r x', (∀ {p2 : Int32 → wSt → Prop}, (∀ t', REL x' t' → p2 r t') → wpX6_drawn a t p2) → post r x') : wpX5_drawn a x post := by
  have n1 := tn1
  obtain ⟨eh, hh⟩ := h.hr
  unfold wpX5_drawn
  refine q_within (fun h1 h2 => d1 ?_) (fun hn => d0 (hp (-1) x (fun {p2} hp2 => ?_)))
  · rw [tn1] at h1
    rw [tn60] at h2
    obtain ⟨n, hn⟩ := nat_of (x := a) (by omega)
    refine q_hasHours (by rw [eh]; exact hh) (by omega) (fun c => d1 ⟨n + 1, ?_⟩) (fun c => d0 (hp (-3) x (fun {p2} hp2 => ?_)))
    · rw [eh] at c
      refine op_drawnL (by omega) hn n 0 0 x t post (by omega) h (by omega) (fun r x' hx => hp r x' (fun {p2} hp2 => ?_))
      unfold wpX6_drawn
      refine r_in (fun _ _ => d1 ?_) (fun q => ?_)
      · rw [t_le, tn9999, t_add (by omega)]
        exact ⟨fun _ => ⟨n + 1, hx t h hp2⟩, fun q => by exfalso; omega⟩
      · rw [t_l, ln1, ln60] at q; exfalso; omega
    · rw [eh] at c
      unfold wpX6_drawn
      refine r_in (fun _ _ => d1 ?_) (fun q => ?_)
      · rw [t_le, tn9999, t_add (by omega)]
        exact ⟨fun q => absurd q c, fun _ => hp2 t h⟩
      · rw [t_l, ln1, ln60] at q; exfalso; omega
  · rw [tn1, tn60] at hn
    unfold wpX6_drawn
    refine r_in (fun q1 q2 => ?_) (fun q => d0 (hp2 t h))
    rw [t_l, ln1] at q1
    rw [t_l, ln60] at q2
    exact absurd ⟨q1, q2⟩ hn
