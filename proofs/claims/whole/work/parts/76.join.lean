-- the class' search beside the reference's
theorem g_fold_ge {f : Nat → BB → BB} (hf : ∀ c b, b.1 ≤ (f c b).1) : ∀ (k i : Nat) (b : BB), b.1 ≤ (g_fold f k i b).1 := by
  intro k
  induction k with
  | zero => intro i b; exact Int.le_refl _
  | succ k ih => intro i b; exact Int.le_trans (hf i b) (ih (i + 1) (f i b))
theorem g_fold_last {f : Nat → BB → BB} : ∀ (k i : Nat) (b : BB), g_fold f (k + 1) i b = f (i + k) (g_fold f k i b) := by
  intro k
  induction k with
  | zero => intro i b; rfl
  | succ k ih =>
    intro i b
    show g_fold f (k + 1) (i + 1) (f i b) = _
    rw [ih (i + 1) (f i b)]
    have e : i + 1 + k = i + (k + 1) := by omega
    rw [e]
    rfl
theorem dfs_ge {P : PP} : ∀ (k h : Nat) (s : SS) (acc : Int) (p : Nat → Nat) (b : BB), b.1 ≤ (dfs P k h s acc p b).1 ∧ acc ≤ (dfs P k h s acc p b).1 := by
  intro k
  induction k with
  | zero =>
    intro h s acc p b
    show b.1 ≤ (if b.1 < acc then ((acc, p) : BB) else b).1 ∧ acc ≤ (if b.1 < acc then ((acc, p) : BB) else b).1
    by_cases q : b.1 < acc
    · rw [if_pos q]; show b.1 ≤ acc ∧ acc ≤ acc; omega
    · rw [if_neg q]; omega
  | succ k ih =>
    intro h s acc p b
    obtain ⟨f, ef⟩ : ∃ f : Nat → BB → BB, f = (fun c b => if p_n P ≤ c ∨ y_f s c ≤ (h : Int) then dfs P k (h + 1) (g_st P h s c) (acc + g_s P s c) (fun j => if j = h then c else p j) b else b) := ⟨_, rfl⟩
    have hf : ∀ c b, b.1 ≤ (f c b).1 := by
      intro c b
      rw [ef]
      show b.1 ≤ (if p_n P ≤ c ∨ y_f s c ≤ (h : Int) then dfs P k (h + 1) (g_st P h s c) (acc + g_s P s c) (fun j => if j = h then c else p j) b else b).1
      by_cases q : p_n P ≤ c ∨ y_f s c ≤ (h : Int)
      · rw [if_pos q]; exact (ih _ _ _ _ b).1
      · rw [if_neg q]; exact Int.le_refl _
    have ed : dfs P (k + 1) h s acc p b = g_fold f (p_n P + 1) 0 b := by rw [ef]; rfl
    rw [ed]
    refine ⟨g_fold_ge hf _ _ _, ?_⟩
    rw [g_fold_last, Nat.zero_add]
    have e0 : g_s P s (p_n P) = 0 := by unfold g_s; rw [if_neg (by omega)]
    have e1 : ∀ b', f (p_n P) b' = dfs P k (h + 1) (g_st P h s (p_n P)) (acc + g_s P s (p_n P)) (fun j => if j = h then p_n P else p j) b' := by
      intro b'
      rw [ef]
      show (if p_n P ≤ p_n P ∨ y_f s (p_n P) ≤ (h : Int) then _ else b') = _
      rw [if_pos (Or.inl (Nat.le_refl _))]
    rw [e1, e0, Int.add_zero]
    exact (ih _ _ _ _ _).2
/-- the best that can be, from now on -/
def m_best (t : wSt) (N : Nat) (m : Int) : BB := dfs (mP t) N 0 (mS t m) 0 (fun _ => 0) (-1, fun _ => 0)
theorem m_best_ge {t : wSt} {N : Nat} {m : Int} : 0 ≤ (m_best t N m).1 := (dfs_ge N 0 _ 0 _ _).2
def ZR (z : wP2) (t : wSt) : Prop := RF (w_f z) t ∧ (∀ j : Nat, (j : Int) < (w_i t 5).toInt → (w_a (w_o z) 1 j).toInt = max 0 ((w_a t 4 j).toInt - (w_i t 11).toInt) ∧ (w_a t 4 j).toInt ≤ (w_i t 11).toInt + 9) ∧ (w_i (w_o z) 4 = w_i t 7 ∧ w_i (w_o z) 5 = w_i t 8 ∧ w_i (w_o z) 6 = w_i t 12) ∧ RG t
theorem ZR.ob {z w : wP2} {t : wSt} (hO : OB z w) (h : WR w t) : ZR z t := by
  obtain ⟨⟨⟨f1, f2⟩, e4, heq, hsy, hhi⟩, ⟨w1, w2⟩, ⟨o4, o5, o6, o7, o8, o9, o10, -, -⟩, hRG, -⟩ := h
  obtain ⟨⟨c4, ca⟩, cf, l4, l5, l6⟩ := hO
  have h6 : (w_i t 5).toInt ≤ 6 := by rw [← e4]; exact f1.2
  refine ⟨⟨⟨by rw [c4]; exact f1, fun i hi => ?_⟩, c4.trans e4, fun i hi => ?_, hsy, hhi⟩, fun j hj => ⟨?_, (w2 j hj).2⟩, ⟨l4.trans o5, l5.trans o6, l6.trans o10⟩, hRG⟩
  · rw [c4] at hi
    rw [ca 0 i (by omega) (by omega), ca 1 i (by omega) (by omega), ca 2 i (by omega) (by omega)]
    exact f2 i hi
  · rw [ca 0 i (by omega) (by omega), ca 1 i (by omega) (by omega), ca 2 i (by omega) (by omega), ca 3 i (by omega) (by omega)]
    exact heq i hi
  · rw [cf j (by omega), w1 j (by omega), if_pos hj]
theorem ZR.fs {z : wP2} {t t' : wSt} (h : ZR z t) (hF : FS t t') : ZR z t' := by
  unfold ZR RF RG at *
  rw [hF.1 5 (by decide), hF.1 6 (by decide), hF.1 7 (by decide), hF.1 8 (by decide), hF.1 11 (by decide), hF.1 12 (by decide), hF.1 14 (by decide), hF.1 15 (by decide), hF.2.1 0 (by decide), hF.2.1 1 (by decide), hF.2.1 2 (by decide), hF.2.1 3 (by decide), hF.2.1 4 (by decide)]
  exact h
theorem mP_fs {t t' : wSt} (hF : FS t t') : mP t' = mP t := by
  unfold mP
  rw [hF.1 5 (by decide), hF.1 8 (by decide), hF.2.1 0 (by decide), hF.2.1 1 (by decide), hF.2.1 2 (by decide), hF.2.1 3 (by decide)]
theorem mS_fs {t t' : wSt} {m : Int} (hF : FS t t') : mS t' m = mS t m := by
  unfold mS
  rw [hF.1 7 (by decide), hF.1 11 (by decide), hF.1 12 (by decide), hF.2.1 4 (by decide)]
theorem m_best_fs {t t' : wSt} {N : Nat} {m : Int} (hF : FS t t') : m_best t' N m = m_best t N m := by
  unfold m_best
  rw [mP_fs hF, mS_fs hF]
theorem FS.tr {t t' t'' : wSt} (h : FS t t') (h' : FS t' t'') : FS t t'' := (MF.tr h h').up (by decide) (by decide)
theorem FS.rf {t : wSt} : FS t t := MF.rf.up (by decide) (by decide)
theorem ZR.n6 {z : wP2} {t : wSt} (h : ZR z t) : 0 ≤ (w_i t 5).toInt ∧ (w_i t 5).toInt ≤ 6 := by
  rw [← h.1.2.1]; exact h.1.1.1
theorem ZR.mw {z : wP2} {t : wSt} (h : ZR z t) : MW t := by
  obtain ⟨⟨⟨f1, f2⟩, e4, heq, hsy, hhi⟩, hw, -, g1, g2, g3, g4, -⟩ := id h
  refine ⟨h.n6, g3, g4, fun i hi => ?_⟩
  obtain ⟨k0, k1, k2⟩ := f2 i (by rw [e4]; exact hi)
  obtain ⟨q0, q1, q2, q3⟩ := heq i hi
  rw [← q1, ← q2]
  exact ⟨k1, k2⟩
theorem z_most {z : wP2} {t : wSt} {n m : Int32} {N : Nat} {post : Int32 → wP2 → Prop} (h : ZR z t) (hn : n.toInt = (N : Int)) (hN : N ≤ 5) (hm : -9 ≤ m.toInt ∧ m.toInt ≤ 9) (hp : ∀ r z', ZR z' t → r.toInt = (m_best t N m.toInt).1 → (∀ j, j < N → w_a (w_o z') 3 j = enc (mP t) ((m_best t N m.toInt).2 j)) → post r z') : wpX1_mostIn n m z post := by
  have h6 := h.n6
  obtain ⟨⟨⟨f1, f2⟩, e4, heq, hsy, hhi⟩, hw, ⟨l4, l5, l6⟩, g1, g2, g3, g4, g5, -⟩ := id h
  have epn : p_n (mP t) = (w_i t 5).toInt.toNat := rfl
  refine q_mostIn (P := mP t) (N := N) (s := mS t m.toInt) hn hN ⟨⟨f1, f2⟩, ?_, fun i hi => ?_, fun i j hi hj => ?_, ⟨?_, g3⟩, hn, hN⟩ (fun j hj => ?_) ⟨⟨rfl, hm⟩, ⟨?_, g2⟩, ?_, ?_⟩ (fun r z' gK gF gB hr => hp r z' ?_ hr (gB.2.2 m_best_ge))
  · show (w_i (w_f z) 4).toInt = (((w_i t 5).toInt.toNat : Nat) : Int)
    rw [e4]; omega
  · obtain ⟨q0, q1, q2, q3⟩ := heq i (by omega)
    refine ⟨?_, ?_, ?_⟩
    · show (w_a (w_f z) 0 i).toInt = (w_a t 0 i).toInt; rw [q0]
    · show (w_a (w_f z) 1 i).toInt = (w_a t 1 i).toInt; rw [q1]
    · show (w_a (w_f z) 2 i).toInt = (w_a t 2 i).toInt; rw [q2]
  · show bt (w_a (w_f z) 3 j) i = true ↔ bt (w_a t 3 i) j = true
    rw [(heq j (by omega)).2.2.2, hsy j i (by omega) (by omega)]
  · show (w_i (w_o z) 5).toInt = (w_i t 8).toInt
    rw [l5]
  · show (w_a (w_o z) 1 j).toInt = max 0 ((w_a t 4 j).toInt - (w_i t 11).toInt) ∧ 0 ≤ max 0 ((w_a t 4 j).toInt - (w_i t 11).toInt) ∧ max 0 ((w_a t 4 j).toInt - (w_i t 11).toInt) ≤ 20
    have := hw j (by omega)
    omega
  · show (w_i (w_o z) 4).toInt = (w_i t 7).toInt
    rw [l4]
  · show (w_i (w_o z) 6).toInt = (w_i t 12).toInt
    rw [l6]
  · show (w_i t 12).toInt = 9 ∨ (0 ≤ (w_i t 12).toInt ∧ (w_i t 12).toInt < (((w_i t 5).toInt.toNat : Nat) : Int))
    omega
  · obtain ⟨k1, k2⟩ := gK
    have k1' : w_f z' = w_f z := k1
    refine ⟨by rw [k1']; exact h.1, fun j hj => ⟨(gF j (by omega)).1, (hw j hj).2⟩, ⟨(k2 4 (by decide)).trans l4, (k2 5 (by decide)).trans l5, (k2 6 (by decide)).trans l6⟩, h.2.2.2⟩
theorem r_best {post : Int32 → wSt → Prop} {x1 x2 : Int32} {N : Nat} {z : wP2} {t : wSt} (h : ZR z t) (hx1 : x1.toInt = (N : Int)) (hN : N ≤ 5) (hm : -9 ≤ x2.toInt ∧ x2.toInt ≤ 9) (hp : ∀ r t', FS t t' → r.toInt = (m_best t N x2.toInt).1 → (∀ j, j < N → w_a t' 29 j = enc (mP t) ((m_best t N x2.toInt).2 j)) → post r t') : wpX6_findMost x1 x2 t post :=
  r_findMost hx1 hN h.mw hm h.2.2.2.2.1 h.2.2.2.2.2.2.2.1 (fun r t' f1 f2 => hp r t' f1 f2.1 (f2.2.2 m_best_ge))
