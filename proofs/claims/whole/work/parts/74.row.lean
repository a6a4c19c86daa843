-- one row of the reference's search
def BR (P : PP) (N : Nat) (t : wSt) (best : Int32) (b : BB) : Prop := best.toInt = b.1 ∧ (-1 ≤ b.1 ∧ b.1 ≤ 45) ∧ (0 ≤ b.1 → ∀ j : Nat, j < N → w_a t 29 j = enc P (b.2 j))
def b_up (b : BB) (v : Option Int) (row : Nat → Nat) : BB := match v with
  | none => b
  | some v => if b.1 < v then (v, row) else b
theorem ev_rng {P : PP} (hw : 0 ≤ p_w P) {row : Nat → Nat} : ∀ (k h : Nat) (s : SS) (v : Int), 0 ≤ y_l s → ev P row k h s = some v → 0 ≤ v ∧ v ≤ 9 * (k : Int) := by
  intro k
  induction k with
  | zero =>
    intro h s v _ e
    have e' : some (0 : Int) = some v := e
    injection e' with e'
    omega
  | succ k ih =>
    intro h s v hl e
    have e' : (if p_n P ≤ row h ∨ y_f s (row h) ≤ (h : Int) then (ev P row k (h + 1) (g_st P h s (row h))).map (fun v => g_s P s (row h) + v) else none) = some v := e
    by_cases q : p_n P ≤ row h ∨ y_f s (row h) ≤ (h : Int)
    · rw [if_pos q] at e'
      cases hv : ev P row k (h + 1) (g_st P h s (row h)) with
      | none => rw [hv] at e'; exact absurd e' (by simp)
      | some u =>
        rw [hv] at e'
        have e2 : some (g_s P s (row h) + u) = some v := e'
        injection e2 with e2
        have := ih (h + 1) _ u (g_st_l hl hw) hv
        have := g_s_rng (P := P) (s := s) (c := row h) hl
        omega
    · rw [if_neg q] at e'
      exact absurd e' (by simp)
theorem r_row {f : Nat} {post : Int32 → wSt → Prop} {x1 x2 best : Int32} {N : Nat} (hx1 : x1.toInt = (N : Int)) (hN : N ≤ 5) {t0 t : wSt} (hW : MW t0) (hm : -9 ≤ x2.toInt ∧ x2.toInt ≤ 9) (hlv : 0 ≤ (w_i t0 7).toInt ∧ (w_i t0 7).toInt ≤ 999) (hah : (w_i t0 12).toInt = 9 ∨ (0 ≤ (w_i t0 12).toInt ∧ (w_i t0 12).toInt < (w_i t0 5).toInt)) {row : Nat → Nat} (hF : FS t0 t) (hrow : ∀ j : Nat, j < N → w_a t 28 j = nI (row j) ∧ (row j : Int) ≤ (w_i t0 5).toInt) {b : BB} (hb : BR (mP t0) N t best b) (K : ∀ t' best', FS t0 t' → w_a t' 28 = w_a t 28 → BR (mP t0) N t' best' (b_up b (ev (mP t0) row N 0 (mS t0 x2.toInt)) row) → wpX6_findMost_184 (wpX6_findMost_L25 post f) post x1 x2 best' t') : wpX6_findMost_L25 post (f + 1) x1 x2 best 1 t := by
  have h6 := hW.1
  have hP5 : (w_i t0 5).toInt = (p_n (mP t0) : Int) := by show _ = (((w_i t0 5).toInt.toNat : Nat) : Int); omega
  show wpX6_findMost_25 _ post _ _ _ _ _
  unfold wpX6_findMost_25
  refine ⟨fun q => absurd q (by decide), fun _ => r_begin (fun t1 hB => ?_)⟩
  obtain ⟨bF, b21, b22, b23, b24, b27⟩ := hB
  intro z1 e
  subst z1
  rintro z2 rfl
  have I : ∀ k, k ∉ [21, 22, 23, 24, 25, 26] → w_i t k = w_i t0 k := hF.1
  have A : ∀ k, k ∉ [27, 28, 29] → w_a t k = w_a t0 k := hF.2.1
  have FU : FS t0 (w_si t1 21 x2) := ((hF.tr bF).tr MF.si).up (by decide) (by decide)
  have e28 : w_a (w_si t1 21 x2) 28 = w_a t 28 := bF.2.1 28 (by decide)
  have e29 : w_a (w_si t1 21 x2) 29 = w_a t 29 := bF.2.1 29 (by decide)
  refine ⟨N + 2, r_L48 hx1 hN hW (row := row) (R28 := w_a t 28) (R29 := w_a t 29) hrow N 0 (w_si t1 21 x2) (mS t0 x2.toInt) 0 0 (by omega) FU e28 e29 ?_ ⟨tn0, by omega, by omega⟩ (fun t' v acc' f1 f2 f3 f4 f5 => ?_) (fun t' acc' f1 f2 f3 f4 => ?_)⟩
  · refine ⟨⟨rfl, hm⟩, ⟨?_, hlv⟩, ⟨?_, hah⟩, ?_, fun j hj => ?_⟩
    · show (w_i t1 22).toInt = _
      rw [b22, I 7 (by decide)]; rfl
    · show (w_i t1 24).toInt = _
      rw [b24, I 12 (by decide)]; rfl
    · show (w_i t1 23).toInt = _
      rw [b23, I 11 (by decide)]; omega
    · show max 0 ((w_a t1 27 j).toInt - (w_i t0 11).toInt) = max 0 ((w_a t0 4 j).toInt - (w_i t0 11).toInt)
      rw [b27 j (by omega), A 4 (by decide)]
  · rw [f4] at K
    have hv := ev_rng (P := mP t0) (by show 0 ≤ (w_i t0 8).toInt; exact hW.2.1.1) N 0 _ v (by show 0 ≤ (w_i t0 7).toInt; exact hlv.1) f4
    unfold wpX6_findMost_122
    refine ⟨fun q => absurd q (by decide), fun _ => ?_⟩
    rw [t_le, hb.1]
    refine ⟨fun c => K t' best f1 f2 ?_, fun c => ⟨N + 1, r_L139 hx1 hN hP5 (by omega) (row := row) (R28 := w_a t 28) (fun j hj => ⟨(hrow j hj).1, by have := (hrow j hj).2; omega⟩) N 0 t' (by omega) f1 f2 (fun j hj => by omega) (fun t2 g1 g2 g3 => K t2 acc' g1 g2 ?_)⟩⟩
    · show BR (mP t0) N t' best (if b.1 < v then (v, row) else b)
      rw [if_neg (by omega)]
      refine ⟨hb.1, hb.2.1, fun q j hj => ?_⟩
      rw [f3]; exact hb.2.2 q j hj
    · show BR (mP t0) N t2 acc' (if b.1 < v then (v, row) else b)
      rw [if_pos (by omega)]
      exact ⟨by show acc'.toInt = v; omega, ⟨by show -1 ≤ v; omega, by show v ≤ 45; omega⟩, fun _ j hj => g3 j hj⟩
  · rw [f4] at K
    unfold wpX6_findMost_122
    refine ⟨fun _ => K t' best f1 f2 ⟨hb.1, hb.2.1, fun q j hj => ?_⟩, fun q => absurd rfl q⟩
    rw [f3]; exact hb.2.2 q j hj
