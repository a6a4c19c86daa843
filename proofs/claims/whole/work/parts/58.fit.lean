theorem lg_lt {u v : Int64} : lg_cmp u v < 0 ↔ u.toInt < v.toInt := by
  have := lg_cmp_ge u v
  rw [t_lle, t_le, tn0] at this
  rw [t_lt, tn0]
  omega
theorem lg_ge {u v : Int64} : 0 ≤ lg_cmp u v ↔ v.toInt ≤ u.toInt := by
  have := lg_cmp_ge u v
  rw [t_lle] at this
  exact this
theorem lg_eq {u v : Int64} : lg_cmp u v = 0 ↔ u.toInt = v.toInt := by
  have e1 := lg_lt (u := u) (v := v)
  have e2 : 0 < lg_cmp u v ↔ v.toInt < u.toInt := by
    unfold lg_cmp
    simp only [gt_iff_lt, t_llt, t_leq, t_lt, tn0]
    split <;> (try split) <;> simp only [tn1, tn0, tnm1] <;> omega
  rw [t_lt, tn0] at e1 e2
  rw [t_eq, tn0]
  omega
theorem t_l32 {y : Int64} (h : 0 ≤ y.toInt ∧ y.toInt < 1000) : y.toInt32.toInt = y.toInt := by
  rw [Int64.toInt_toInt32]
  exact t_bm (by omega)
theorem i_or0 (a : Int32) : a ||| 0 = a := by
  refine b_ext (fun i hi => ?_)
  rw [b_or, b_0, Bool.or_false]
def m_md (k f : Nat → Int) (m : Int) : Nat → Int
  | 0 => m
  | i + 1 => m_wane (m_clamp (m_md k f m i + m_felt (k i) (f i)))
theorem m_md_rng {k f : Nat → Int} {m : Int} (h : -9 ≤ m ∧ m ≤ 9) : ∀ i, -9 ≤ m_md k f m i ∧ m_md k f m i ≤ 9
  | 0 => h
  | _ + 1 => m_wane_rng (m_clamp_rng _)
def m_fit (k f p : Nat → Int) (m : Int) (n : Nat) : Prop := ∀ i, i < n → m_pails (k i) (m_md k f m i) = p i
/-- what the n drawings are: in the reference's row of items from B on -/
def DG (t : wSt) (B : Nat) (i : Nat) : Prop := (0 ≤ (w_l t 34 (B + 2 * i)).toInt ∧ (w_l t 34 (B + 2 * i)).toInt < (w_i t 5).toInt) ∧ 0 ≤ (w_l t 34 (B + 2 * i + 1)).toInt ∧ (w_l t 34 (B + 2 * i + 1)).toInt ≤ 9
def d_k (t : wSt) (B i : Nat) : Int := (w_a t 0 (w_l t 34 (B + 2 * i)).toInt.toNat).toInt
def d_f (t : wSt) (B i : Nat) : Int := (w_a t 1 (w_l t 34 (B + 2 * i)).toInt.toNat).toInt
def d_p (t : wSt) (B i : Nat) : Int := (w_l t 34 (B + 2 * i + 1)).toInt
theorem n2i {x : Int32} {a i : Nat} {y : Int32} (hx : x.toInt = (a : Int)) (hy : y.toInt = (i : Int)) (ha : a < 1000) (hi : i < 100) : (x + (2 : Int32) * y).toInt = ((a + 2 * i : Nat) : Int) ∧ (x + (2 : Int32) * y + 1).toInt = ((a + 2 * i + 1 : Nat) : Int) := by
  have n2 := tn2
  have n1 := tn1
  have e : ((2 : Int32) * y).toInt = 2 * (i : Int) := by rw [t_mul (by rw [n2, hy]; omega), n2, hy]
  have e2 : (x + (2 : Int32) * y).toInt = ((a + 2 * i : Nat) : Int) := by rw [t_add (by omega), e, hx]; omega
  exact ⟨e2, by rw [t_add (by omega), e2, n1]; omega⟩
theorem q_areDrL {x : wXS} {t : wSt} {n j c : Nat} {b d : Int32} (h : REL x t) (n4 : n < 4) (h1 : w_i (x_h x n) 1 = 1) (hb : b.toInt = (j : Int)) (hd : d.toInt = (c : Int)) (hjc : j + 2 * c ≤ 24) {post : Int32 → Prop} : ∀ (k i : Nat), i + k = c → (∀ q, q < i → DG t (24 * n + j) q) → ((∀ q, q < c → DG t (24 * n + j) q) → post 1) → (¬ (∀ q, q < c → DG t (24 * n + j) q) → post 0) → wpX5_areDrawings_L3 n x post (k + 1) b d (nI i) := by
  have ps := h.ps n4 h1
  have e4 := h.cnt
  intro k
  induction k with
  | zero =>
    intro i hi hg g1 g0
    show wpX5_areDrawings_3 _ _ _ post _ _ _
    unfold wpX5_areDrawings_3
    rw [t_le, hd, nI_toInt (by omega)]
    exact ⟨fun _ => g1 (fun q hq => hg q (by omega)), fun q => by exfalso; omega⟩
  | succ k ih =>
    intro i hi hg g1 g0
    have ei : (nI i).toInt = (i : Int) := nI_toInt (by omega)
    obtain ⟨s1, s2⟩ := n2i hb ei (by omega) (by omega)
    have L1 : w_l (x_h x n) 0 (j + 2 * i) = w_l t 34 (24 * n + j + 2 * i) := by rw [ps.2.2.2.2.2 _ (by omega)]; congr 1; omega
    have L2 : w_l (x_h x n) 0 (j + 2 * i + 1) = w_l t 34 (24 * n + j + 2 * i + 1) := by rw [ps.2.2.2.2.2 _ (by omega)]; congr 1; omega
    have no : ¬ DG t (24 * n + j) i → ¬ (∀ q, q < c → DG t (24 * n + j) q) := fun q w => q (w i (by omega))
    unfold DG at no
    show wpX5_areDrawings_3 _ _ _ post _ _ _
    unfold wpX5_areDrawings_3
    rw [t_le, hd, ei, t_cl s1, t_cl s2, L1, L2, lg_lt, lg_ge, t_l, ln0, e4]
    refine ⟨fun q => by exfalso; omega, fun _ => ⟨t_in (by omega), fun q => g0 (no (by omega)), fun q => ⟨fun r => g0 (no (by omega)), fun r => ⟨t_in (by omega), q_isPails (fun u v => d1 ?_) (fun u => d0 (g0 (no (by omega))))⟩⟩⟩⟩
    rw [nI_1]
    refine ih (i + 1) (by omega) (fun q hq => ?_) g1 g0
    by_cases e : q = i
    · rw [e]; exact ⟨⟨by omega, by omega⟩, u, v⟩
    · exact hg q (by omega)
theorem r_areDrL {x : wXS} {t : wSt} {B c : Nat} {d b : Int32} (h : REL x t) (hb : b.toInt = (B : Int)) (hd : d.toInt = (c : Int)) (hB : B + 2 * c ≤ 96) (hc : c ≤ 8) {post : Int32 → Prop} : ∀ (k i : Nat), i + k = c → (∀ q, q < i → DG t B q) → ((∀ q, q < c → DG t B q) → ∃ f, wpX6_fit_L128 t post f d b 0 (-9)) → (¬ (∀ q, q < c → DG t B q) → post (-2)) → wpX6_fit_L55 t post (k + 1) d b (nI i) := by
  have n1 := tn1
  have hm := h.m6
  intro k
  induction k with
  | zero =>
    intro i hi hg g1 g0
    show wpX6_fit_55 _ _ post _ _ _
    unfold wpX6_fit_55
    rw [t_le, hd, nI_toInt (by omega)]
    exact ⟨fun _ => g1 (fun q hq => hg q (by omega)), fun q => by exfalso; omega⟩
  | succ k ih =>
    intro i hi hg g1 g0
    have ei : (nI i).toInt = (i : Int) := nI_toInt (by omega)
    obtain ⟨s1, s2⟩ := n2i hb ei (by omega) (by omega)
    have no : ¬ DG t B i → ¬ (∀ q, q < c → DG t B q) := fun q w => q (w i (by omega))
    unfold DG at no
    have es : (w_i t 5 - 1).toInt = (w_i t 5).toInt - 1 := by rw [t_sub (by omega), n1]
    show wpX6_fit_55 _ _ post _ _ _
    unfold wpX6_fit_55
    rw [t_le, hd, ei, t_cl s1, t_cl s2]
    refine ⟨fun q => by exfalso; omega, fun _ => ⟨t_in (by omega), r_in ?_ ?_⟩⟩ <;> rw [t_l, ln0, es]
    · refine fun q1 q2 => c1 ⟨t_in (by omega), r_in ?_ ?_⟩ <;> rw [ln0, ln9]
      · intro u v
        refine d1 ?_
        rw [nI_1]
        refine ih (i + 1) (by omega) (fun q hq => ?_) g1 g0
        by_cases e : q = i
        · rw [e]; exact ⟨⟨by omega, by omega⟩, u, v⟩
        · exact hg q (by omega)
      · exact fun u => d0 (g0 (no (by omega)))
    · exact fun u => c0 (g0 (no (by omega)))
theorem q_fitsL {x : wXS} {t : wSt} {n j c : Nat} {b d : Int32} {m : Int} (h : REL x t) (n4 : n < 4) (h1 : w_i (x_h x n) 1 = 1) (hb : b.toInt = (j : Int)) (hd : d.toInt = (c : Int)) (hjc : j + 2 * c ≤ 24) (hD : ∀ q, q < c → DG t (24 * n + j) q) (hm : -9 ≤ m ∧ m ≤ 9) {post : Int32 → Prop} : ∀ (k i : Nat) (y : Int32), i + k = c → y.toInt = m_md (d_k t (24 * n + j)) (d_f t (24 * n + j)) m i → (∀ q, q < i → m_pails (d_k t (24 * n + j) q) (m_md (d_k t (24 * n + j)) (d_f t (24 * n + j)) m q) = d_p t (24 * n + j) q) → (m_fit (d_k t (24 * n + j)) (d_f t (24 * n + j)) (d_p t (24 * n + j)) m c → post 1) → (¬ m_fit (d_k t (24 * n + j)) (d_f t (24 * n + j)) (d_p t (24 * n + j)) m c → post 0) → wpX5_fitsFrom_L6 n x post (k + 1) b d y (nI i) := by
  have ps := h.ps n4 h1
  have e4 := h.cnt
  intro k
  induction k with
  | zero =>
    intro i y hi hy hg g1 g0
    show wpX5_fitsFrom_6 _ _ _ post _ _ _ _
    unfold wpX5_fitsFrom_6
    rw [t_le, hd, nI_toInt (by omega)]
    exact ⟨fun _ => g1 (fun q hq => hg q (by omega)), fun q => by exfalso; omega⟩
  | succ k ih =>
    intro i y hi hy hg g1 g0
    have ei : (nI i).toInt = (i : Int) := nI_toInt (by omega)
    obtain ⟨s1, s2⟩ := n2i hb ei (by omega) (by omega)
    have L1 : w_l (x_h x n) 0 (j + 2 * i) = w_l t 34 (24 * n + j + 2 * i) := by rw [ps.2.2.2.2.2 _ (by omega)]; congr 1; omega
    have L2 : w_l (x_h x n) 0 (j + 2 * i + 1) = w_l t 34 (24 * n + j + 2 * i + 1) := by rw [ps.2.2.2.2.2 _ (by omega)]; congr 1; omega
    obtain ⟨⟨D1, D2⟩, D3⟩ := hD i (by omega)
    have hm6 := h.m6
    have hyr := m_md_rng (k := d_k t (24 * n + j)) (f := d_f t (24 * n + j)) hm i
    obtain ⟨p, hpp⟩ : ∃ p : Nat, (w_l t 34 (24 * n + j + 2 * i)).toInt = (p : Int) := ⟨(w_l t 34 (24 * n + j + 2 * i)).toInt.toNat, by omega⟩
    have e32 : (w_l t 34 (24 * n + j + 2 * i)).toInt32.toInt = (p : Int) := by rw [t_l32 (by omega)]; exact hpp
    have hc : (p : Int) < (w_i (w_f (x_w x)) 4).toInt := by rw [e4]; omega
    obtain ⟨q0, q1, -⟩ := h.1.1.2.2.1 p (by omega)
    have ek : d_k t (24 * n + j) i = (w_a (w_f (x_w x)) 0 p).toInt := by unfold d_k; rw [hpp, q0]; rfl
    have ef : d_f t (24 * n + j) i = (w_a (w_f (x_w x)) 1 p).toInt := by unfold d_f; rw [hpp, q1]; rfl
    show wpX5_fitsFrom_6 _ _ _ post _ _ _ _
    unfold wpX5_fitsFrom_6
    rw [t_le, hd, ei, t_cl s1, t_cl s2, L1, L2]
    refine ⟨fun q => by exfalso; omega, fun _ => ⟨t_in (by omega), q_pailsAt h.fk e32 hc (by omega) (fun r hr => ⟨t_in (by omega), ?_⟩)⟩⟩
    rw [lg_eq, t_l, hr, hy, ← ek]
    refine ⟨fun eq => q_moodBehind h.fk e32 hc (by omega) (fun r2 hr2 => ?_), fun ne => g0 (fun w => ne (w i (by omega)))⟩
    have hcr := m_clamp_rng (y.toInt + m_felt (w_a (w_f (x_w x)) 0 p).toInt (w_a (w_f (x_w x)) 1 p).toInt)
    refine q_waned (by omega) (fun r3 hr3 => ?_)
    rw [nI_1]
    refine ih (i + 1) r3 (by omega) ?_ (fun q hq => ?_) g1 g0
    · rw [hr3, hr2, hy]
      show _ = m_wane (m_clamp (m_md (d_k t (24 * n + j)) (d_f t (24 * n + j)) m i + m_felt (d_k t (24 * n + j) i) (d_f t (24 * n + j) i)))
      rw [ek, ef]
    · by_cases e : q = i
      · rw [e]; exact eq
      · exact hg q (by omega)
theorem r_fits0 {t : wSt} {d b y : Int32} {post : Int32 → Prop} (h0 : post 0) (k : Nat) (z : Int32) : wpX6_fits_L9 t post (k + 1) b d y 0 z := by
  show wpX6_fits_9 _ _ post _ _ _ _ _
  unfold wpX6_fits_9
  exact ⟨fun _ => ⟨nz0, h0⟩, fun _ => ⟨fun _ => ⟨nz0, h0⟩, fun q => absurd rfl q⟩⟩
theorem r_fitsL {x : wXS} {t : wSt} {B c : Nat} {d b : Int32} {m : Int} (h : REL x t) (hb : b.toInt = (B : Int)) (hd : d.toInt = (c : Int)) (hB : B + 2 * c ≤ 96) (hc : c ≤ 8) (hD : ∀ q, q < c → DG t B q) (hm : -9 ≤ m ∧ m ≤ 9) {post : Int32 → Prop} : ∀ (k i : Nat) (y : Int32), i + k = c → y.toInt = m_md (d_k t B) (d_f t B) m i → (∀ q, q < i → m_pails (d_k t B q) (m_md (d_k t B) (d_f t B) m q) = d_p t B q) → (m_fit (d_k t B) (d_f t B) (d_p t B) m c → post 1) → (¬ m_fit (d_k t B) (d_f t B) (d_p t B) m c → post 0) → wpX6_fits_L9 t post (k + 1) b d y 1 (nI i) := by
  intro k
  induction k with
  | zero =>
    intro i y hi hy hg g1 g0
    show wpX6_fits_9 _ _ post _ _ _ _ _
    unfold wpX6_fits_9
    rw [t_le, hd, nI_toInt (by omega)]
    exact ⟨fun _ => ⟨nz1, g1 (fun q hq => hg q (by omega))⟩, fun q => by exfalso; omega⟩
  | succ k ih =>
    intro i y hi hy hg g1 g0
    have ei : (nI i).toInt = (i : Int) := nI_toInt (by omega)
    obtain ⟨s1, s2⟩ := n2i hb ei (by omega) (by omega)
    obtain ⟨⟨D1, D2⟩, D3⟩ := hD i (by omega)
    have hm6 := h.m6
    have hyr := m_md_rng (k := d_k t B) (f := d_f t B) hm i
    obtain ⟨p, hpp⟩ : ∃ p : Nat, (w_l t 34 (B + 2 * i)).toInt = (p : Int) := ⟨(w_l t 34 (B + 2 * i)).toInt.toNat, by omega⟩
    have e32 : (w_l t 34 (B + 2 * i)).toInt32.toInt = (p : Int) := by rw [t_l32 (by omega)]; exact hpp
    have ek : d_k t B i = (w_a t 0 p).toInt := by unfold d_k; rw [hpp]; rfl
    have ef : d_f t B i = (w_a t 1 p).toInt := by unfold d_f; rw [hpp]; rfl
    obtain ⟨q0, q1, -⟩ := h.1.1.2.2.1 p (by omega)
    have hfk := h.fk.2 p (by rw [h.cnt]; omega)
    rw [q1] at hfk
    show wpX6_fits_9 _ _ post _ _ _ _ _
    unfold wpX6_fits_9
    rw [t_le, hd, ei, t_cl s1, t_cl s2, t_cl e32]
    refine ⟨fun q => by exfalso; omega, fun _ => ⟨fun q => absurd q (by decide), fun _ => ⟨t_in (by omega), t_in (by omega), r_pailsOf (by omega) (fun r hr => ⟨t_in (by omega), ?_⟩)⟩⟩⟩
    rw [lg_eq, t_l, hr, hy, ← ek]
    have go : ∀ (v : Int32), (∀ r3 : Int32, r3.toInt = m_md (d_k t B) (d_f t B) m (i + 1) → wpX6_fits_L9 t post (k + 1) b d r3 v (nI (i + 1))) → wpX6_fits_69 (wpX6_fits_L9 t post (k + 1)) t post b d y (nI i) (w_l t 34 (B + 2 * i)).toInt32 v := by
      intro v hv
      unfold wpX6_fits_69
      refine r_feltBy e32 (by omega) hfk.2.1 (fun r1 hr1 => r_most9 (fun r2 hr2 => ?_))
      have hfe : -3 ≤ m_felt (w_a t 0 p).toInt (w_a t 1 p).toInt ∧ m_felt (w_a t 0 p).toInt (w_a t 1 p).toInt ≤ 3 := by unfold m_felt; split <;> omega
      rw [t_add (by omega), hr1] at hr2
      have hcr := m_clamp_rng (y.toInt + m_felt (w_a t 0 p).toInt (w_a t 1 p).toInt)
      refine r_wane (by omega) (fun r3 hr3 => ?_)
      rw [nI_1]
      refine hv r3 ?_
      rw [hr3, hr2, hy]
      show _ = m_wane (m_clamp (m_md (d_k t B) (d_f t B) m i + m_felt (d_k t B i) (d_f t B i)))
      rw [ek, ef]
    refine ⟨fun ne => go 0 (fun r3 _ => r_fits0 (g0 (fun w => ne (w i (by omega)))) k _), fun eq => go 1 (fun r3 hr3 => ih (i + 1) r3 (by omega) hr3 (fun q hq => ?_) g1 g0)⟩
    by_cases e : q = i
    · rw [e]; exact eq
    · exact hg q (by omega)
-- fit
theorem op_fitL {x : wXS} {t : wSt} {n j c : Nat} {a b d : Int32} (h : REL x t) (ha : a.toInt = (n : Int)) (n4 : n < 4) (h1 : w_i (x_h x n) 1 = 1) (hb : b.toInt = (j : Int)) (hd : d.toInt = (c : Int)) (hjc : j + 2 * c ≤ 24) (hc : c ≤ 8) (hD : ∀ q, q < c → DG t (24 * n + j) q) : ∀ (k i : Nat) (y s : Int32) (post : Int32 → Prop), i + k = 19 → y.toInt = (i : Int) - 9 → (∀ r, (∀ {p2 : Int32 → Prop}, p2 r → wpX6_fit_L128 t p2 (k + 1) d (24 * a + b) s y) → post r) → wpX5_fit_L60 x post (k + 1) a b d s y := by
  have n9 := tn9
  have n1 := tn1
  have eB : (24 * a + b).toInt = ((24 * n + j : Nat) : Int) := by
    have n24 := tn24
    have e : ((24 : Int32) * a).toInt = 24 * (n : Int) := by rw [t_mul (by rw [n24, ha]; omega), n24, ha]
    rw [t_add (by omega), e]; omega
  intro k
  induction k with
  | zero =>
    intro i y s post hi hy hp
    show wpX5_fit_60 _ _ post _ _ _ _ _
    unfold wpX5_fit_60
    rw [t_lt, n9]
    refine ⟨fun _ => hp s (fun {p2} p2v => ?_), fun q => by exfalso; omega⟩
    show wpX6_fit_128 _ _ p2 _ _ _ _
    unfold wpX6_fit_128
    rw [t_lt, n9]
    exact ⟨fun _ => p2v, fun q => by exfalso; omega⟩
  | succ k ih =>
    intro i y s post hi hy hp
    have hy1 : (y + 1).toInt = ((i + 1 : Nat) : Int) - 9 := by rw [t_add (by omega)]; omega
    show wpX5_fit_60 _ _ post _ _ _ _ _
    unfold wpX5_fit_60
    rw [t_lt, n9, t_cl ha]
    refine ⟨fun q => by exfalso; omega, fun _ => ⟨t_in (by omega), ?_⟩⟩
    unfold wpX5_fitsFrom
    refine ⟨c + 1, q_fitsL h n4 h1 hb hd hjc hD (m := y.toInt) (by omega) c 0 y (by omega) rfl (fun q hq => by omega) (fun w => c1 ?_) (fun w => c0 ?_)⟩
    · unfold wpX5_fit_97
      refine ih (i + 1) (y + 1) _ post (by omega) hy1 (fun r hr => hp r (fun {p2} p2v => ?_))
      show wpX6_fit_128 _ _ p2 _ _ _ _
      unfold wpX6_fit_128
      rw [t_lt, n9]
      refine ⟨fun q => by exfalso; omega, fun _ => ?_⟩
      unfold wpX6_fits
      refine ⟨c + 1, r_fitsL h eB hd (by omega) hc hD (m := y.toInt) (by omega) c 0 y (by omega) rfl (fun q hq => by omega) (fun _ => c1 ?_) (fun w' => absurd w w')⟩
      unfold wpX6_fit_161
      exact hr p2v
    · unfold wpX5_fit_97
      refine ih (i + 1) (y + 1) _ post (by omega) hy1 (fun r hr => hp r (fun {p2} p2v => ?_))
      show wpX6_fit_128 _ _ p2 _ _ _ _
      unfold wpX6_fit_128
      rw [t_lt, n9]
      refine ⟨fun q => by exfalso; omega, fun _ => ?_⟩
      unfold wpX6_fits
      refine ⟨c + 1, r_fitsL h eB hd (by omega) hc hD (m := y.toInt) (by omega) c 0 y (by omega) rfl (fun q hq => by omega) (fun w' => absurd w' w) (fun _ => c0 ?_)⟩
      unfold wpX6_fit_161
      rw [i_or0]
      exact hr p2v
theorem op_fit {a b c d : Int32} {x : wXS} {t : wSt} (h : REL x t) {post : Int32 → Prop} (hp : ∀ r, (∀ {p2 : Int32 → Prop}, p2 r → wpX6_fit a b c d t p2) → post r) : wpX5_fit a b c d x post := by
  have n2 := tn2
  have bad : ¬ (((0 ≤ a.toInt ∧ a.toInt ≤ 3) ∧ 0 ≤ b.toInt ∧ b.toInt ≤ 2) ∧ 1 ≤ d.toInt ∧ d.toInt ≤ 8) → post (-1) := fun hb => hp (-1) (fun {p2} p2v => by
    unfold wpX6_fit
    refine r_isSheet (fun q1 q2 => c1 (r_in ?_ ?_)) (fun _ => c0 p2v) <;> rw [t_l, ln1, ln8]
    · exact fun q3 q4 => absurd ⟨⟨q1, q2⟩, q3, q4⟩ hb
    · exact fun _ => d0 p2v)
  unfold wpX5_fit
  refine q_within ?_ ?_ <;> rw [tn1, tn8]
  · intro k1 k2
    refine d1 ?_
    obtain ⟨e, he⟩ := nat_of (x := d) (by omega)
    have e2 : ((2 : Int32) * d).toInt = 2 * (e : Int) := by rw [t_mul (by rw [n2, he]; omega), n2, he]
    have kM : (0 ≤ a.toInt ∧ a.toInt ≤ 3) → (0 ≤ b.toInt ∧ b.toInt ≤ 2) → ∀ {p2 : Int32 → Prop}, (wpX6_lacksRow a b c ((2 : Int32) * d) t (fun r3 => ((0 ≤ r3 → (∃ n, wpX6_fit_L55  t p2 n d (((24 : Int32) * a) + c) (0 : Int32))) ∧ (¬ 0 ≤ r3 → (p2 r3))))) → wpX6_fit a b c d t p2 := by
      intro u v p2 hh
      unfold wpX6_fit
      refine r_isSheet (fun q1 q2 => c1 (r_in ?_ ?_)) (fun q => absurd ⟨u, v⟩ q) <;> rw [t_l, ln1, ln8]
      · exact fun _ _ => d1 hh
      · exact fun q => absurd ⟨k1, k2⟩ q
    refine q_refusal h (by omega) (fun hb => ?_) (fun n hn n4 hl e => ?_) (fun n hn n4 hl g e => ?_) (fun n hn n4 hl g e i => ?_) (fun n hn n4 hl g eb i => ?_)
    · exact ⟨fun q => absurd q (by decide), fun _ => bad (fun q => hb q.1)⟩
    · refine ⟨fun q => absurd q (by decide), fun _ => hp (-11) (fun {p2} p2v => kM (by omega) hl ?_)⟩
      refine r_lacksRow hn n4 (by omega) (by omega) (fun q => by rw [q] at e; exfalso; omega) (fun _ _ => ?_) (fun q _ => by exfalso; omega) (fun q _ => by rw [q] at e; exfalso; omega) (fun q _ => by rw [q] at e; exfalso; omega)
      exact ⟨fun q => absurd q (by decide), fun _ => p2v⟩
    · refine ⟨fun q => absurd q (by decide), fun _ => hp (-12) (fun {p2} p2v => kM (by omega) hl ?_)⟩
      have g4 := g.2.2.2.1
      refine r_lacksRow hn n4 (by omega) (by omega) (fun q => absurd q e) (fun _ q => by exfalso; omega) (fun _ _ => ?_) (fun q _ => absurd q e) (fun q _ => absurd q e)
      exact ⟨fun q => absurd q (by decide), fun _ => p2v⟩
    · refine ⟨fun q => absurd q (by decide), fun _ => hp (-13) (fun {p2} p2v => kM (by omega) hl ?_)⟩
      have g4 := g.2.2.2.1
      refine r_lacksRow hn n4 (by omega) (by omega) (fun _ => g.2.2.2.2.1) (fun q _ => absurd e q) (fun _ q => absurd e q) (fun _ _ => ?_) (fun _ q => absurd q i)
      exact ⟨fun q => absurd q (by decide), fun _ => p2v⟩
    · have g5 := g.2.2.2.2.1
      have g4 := g.2.2.2.1
      obtain ⟨j, hj⟩ := nat_of i.1
      have eB : (24 * a + c).toInt = ((24 * n + j : Nat) : Int) := by
        have n24 := tn24
        have e : ((24 : Int32) * a).toInt = 24 * (n : Int) := by rw [t_mul (by rw [n24, hn]; omega), n24, hn]
        rw [t_add (by omega), e]; omega
      have kM2 : ∀ {p2 : Int32 → Prop}, (∃ n, wpX6_fit_L55  t p2 n d (((24 : Int32) * a) + c) (0 : Int32)) → wpX6_fit a b c d t p2 := by
        intro p2 hh
        refine kM (by omega) hl ?_
        exact r_lacksRow hn n4 (by omega) (by omega) (fun _ => g.2.2.2.2.1) (fun q _ => absurd eb q) (fun _ q => absurd eb q) (fun _ q => absurd i q) (fun _ _ => ⟨fun _ => hh, fun q => absurd (by decide) q⟩)
      rw [t_cl hn]
      refine ⟨fun _ => ⟨t_in (by omega), ?_⟩, fun q => absurd rfl q⟩
      unfold wpX5_areDrawings
      refine ⟨e + 1, q_areDrL h n4 g.1 hj he (by omega) e 0 (by omega) (fun q hq => by omega) (fun hD => d1 ⟨20, ?_⟩) (fun hD => d0 (hp (-2) (fun {p2} p2v => kM2 ⟨e + 1, ?_⟩)))⟩
      · refine op_fitL h hn n4 g.1 hj he (by omega) (by omega) hD 19 0 (-9) 0 post (by omega) tnm9 (fun r hr => hp r (fun {p2} p2v => kM2 ⟨e + 1, ?_⟩))
        exact r_areDrL h eB he (by omega) (by omega) e 0 (by omega) (fun q hq => by omega) (fun _ => ⟨20, hr p2v⟩) (fun q => absurd hD q)
      · exact r_areDrL h eB he (by omega) (by omega) e 0 (by omega) (fun q hq => by omega) (fun q => absurd q hD) (fun _ => p2v)
  · exact fun q => d0 (bad (fun w => q w.2))
