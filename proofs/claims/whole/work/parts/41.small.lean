/-! ===== the class' small methods ===== -/
theorem q_pailsAt {x y : Int32} {f : wSt} {post : Int32 → Prop} (hf : FK f) {i : Nat} (hi : x.toInt = (i : Int)) (hc : (i : Int) < (w_i f 4).toInt) (hy : -1000 ≤ y.toInt ∧ y.toInt ≤ 1000) (h : ∀ r : Int32, r.toInt = m_pails (w_a f 0 i).toInt y.toInt → post r) : wpX0_pailsAt x y f post := by
  have e := t_cl hi
  have hin : vp_in x 6 := t_in (by have := hf.1; omega)
  have n2 := tn2
  have n4 := tn4
  have n5 := tn5
  unfold wpX0_pailsAt wpX0_pailsAt_29
  simp only [e, t_eq, tn1, tn3]
  refine ⟨hin, fun a => ⟨hin, fun b => h _ ?_, fun b => h _ ?_⟩, fun a => h _ ?_⟩ <;> simp (disch := omega) only [t_ite, t_lt, t_add, tn0, tn9] <;> unfold m_pails <;> omega
theorem q_isSweet {x y : Int32} {f : wSt} {post : Int32 → Prop} (hf : FK f) {i : Nat} (hi : x.toInt = (i : Int)) (hc : (i : Int) < (w_i f 4).toInt) (h1 : m_swt (w_a f 0 i).toInt y.toInt → post 1) (h0 : ¬ m_swt (w_a f 0 i).toInt y.toInt → post 0) : wpX0_isSweet x y f post := by
  have e := t_cl hi
  have hin : vp_in x 6 := t_in (by have := hf.1; omega)
  unfold wpX0_isSweet wpX0_isSweet_23
  simp only [e, t_eq, t_lt, tn1, tn0]
  unfold m_swt at h1 h0
  exact ⟨hin, fun a => h1 (by omega), fun a => ⟨hin, fun b => h0 (by omega), fun b => ⟨fun c => h0 (by omega), fun c => h1 (by omega)⟩⟩⟩
theorem q_moodBehind {x y : Int32} {f : wSt} {post : Int32 → Prop} (hf : FK f) {i : Nat} (hi : x.toInt = (i : Int)) (hc : (i : Int) < (w_i f 4).toInt) (hy : -1000 ≤ y.toInt ∧ y.toInt ≤ 1000) (h : ∀ r : Int32, r.toInt = m_clamp (y.toInt + m_felt (w_a f 0 i).toInt (w_a f 1 i).toInt) → post r) : wpX0_moodBehind x y f post := by
  have e := t_cl hi
  have hin : vp_in x 6 := t_in (by have := hf.1; omega)
  have h2 := (hf.2 i hc).2.1
  unfold wpX0_moodBehind wpX0_moodBehind_29
  simp only [e, t_eq, tn3]
  refine ⟨hin, fun a => ⟨hin, q_asMood (fun r hr => h r ?_)⟩, fun a => ⟨hin, q_asMood (fun r hr => h r ?_)⟩⟩ <;> rw [hr]
  · rw [t_add (by omega)]; unfold m_felt; rw [if_neg a]
  · rw [t_sub (by omega)]; unfold m_felt; rw [if_pos a]; congr 1
/-- two quarrel, by the row of sets -/
def m_foe (f : wSt) (i j : Nat) : Prop := bt (w_a f 3 i) j = true
theorem q_areFoes {x y : Int32} {f : wSt} {post : Int32 → Prop} (hf : FK f) (h1 : ∀ i j : Nat, x.toInt = (i : Int) → y.toInt = (j : Int) → (i : Int) < (w_i f 4).toInt → (j : Int) < (w_i f 4).toInt → m_foe f i j → post 1) (h0 : (∀ i j : Nat, x.toInt = (i : Int) → y.toInt = (j : Int) → (i : Int) < (w_i f 4).toInt → (j : Int) < (w_i f 4).toInt → ¬ m_foe f i j) → post 0) : wpX0_areFoes x y f post := by
  have n01 := tn1
  unfold wpX0_areFoes
  refine q_has (fun a b => ⟨fun c => absurd (t_eq.mp c) (by rw [tn1, tn0]; omega), fun _ => ?_⟩) (fun a => ⟨fun _ => h0 (fun i j hi hj hc hd => absurd ⟨by omega, by omega⟩ a), fun c => absurd rfl c⟩)
  refine q_has (fun a2 b2 => ⟨fun c => absurd (t_eq.mp c) (by rw [tn1, tn0]; omega), fun _ => ?_⟩) (fun a2 => ⟨fun _ => h0 (fun i j hi hj hc hd => absurd ⟨by omega, by omega⟩ a2), fun c => absurd rfl c⟩)
  have hb := hf.1
  refine ⟨t_in (by omega), ?_⟩
  obtain ⟨i, hi⟩ : ∃ i : Nat, x.toInt = (i : Int) := ⟨x.toInt.toNat, by omega⟩
  obtain ⟨j, hj⟩ : ∃ j : Nat, y.toInt = (j : Int) := ⟨y.toInt.toNat, by omega⟩
  rw [t_cl hi, bt_test _ y j (by omega) hj]
  refine ⟨fun c => h0 (fun i' j' hi' hj' _ _ hm => c ?_), fun c => h1 i j hi hj (by omega) (by omega) c⟩
  have ei : i' = i := by omega
  have ej : j' = j := by omega
  subst ei; subst ej
  exact hm
theorem q_pailsBehind {x y z v : Int32} {f : wSt} {post : Int32 → Prop} (hf : FK f) {i : Nat} (hi : y.toInt = (i : Int)) (hc : (i : Int) < (w_i f 4).toInt) (hz : -1000 ≤ z.toInt ∧ z.toInt ≤ 1000)
    (h1 : ∀ (j : Nat) (r : Int32), x.toInt = (j : Int) → (j : Int) < (w_i f 4).toInt → m_foe f j i → r.toInt = 0 → post r)
    (h0 : ∀ r : Int32, (∀ j : Nat, x.toInt = (j : Int) → (j : Int) < (w_i f 4).toInt → ¬ m_foe f j i) → r.toInt = min v.toInt (m_pails (w_a f 0 i).toInt z.toInt) → post r) : wpX0_pailsBehind x y z v f post := by
  unfold wpX0_pailsBehind
  refine q_areFoes hf (fun a b ha hb hca hcb hm => ⟨fun c => absurd (t_eq.mp c) (by rw [tn1, tn0]; omega), fun _ => h1 a 0 ha hca ?_ tn0⟩) (fun hm => ⟨fun _ => q_pailsAt hf hi hc hz (fun r hr => h0 _ (fun j hj hcj => hm j i hj hi hcj hc) ?_), fun c => absurd rfl c⟩)
  · have eb : b = i := by omega
    subst eb; exact hm
  · simp only [t_ite, t_lt]
    rw [hr]
    omega
theorem q_mayDraw {x : Int32} {w : wP2} {post : Int32 → Prop} (hf : FK (w_f w)) (h1 : ∀ i : Nat, x.toInt = (i : Int) → (i : Int) < (w_i (w_f w) 4).toInt → (w_a (w_o w) 1 i).toInt = 0 → post 1) (h0 : (∀ i : Nat, x.toInt = (i : Int) → (i : Int) < (w_i (w_f w) 4).toInt → (w_a (w_o w) 1 i).toInt ≠ 0) → post 0) : wpX4_mayDraw x w post := by
  unfold wpX4_mayDraw
  refine q_has (fun a b => ⟨fun c => absurd (t_eq.mp c) (by rw [tn1, tn0]; omega), fun _ => ?_⟩) (fun a => ⟨fun _ => h0 (fun i hi hc => absurd ⟨by omega, by omega⟩ a), fun c => absurd rfl c⟩)
  have hb := hf.1
  obtain ⟨i, hi⟩ : ∃ i : Nat, x.toInt = (i : Int) := ⟨x.toInt.toNat, by omega⟩
  refine ⟨t_in (by omega), ?_⟩
  simp only [t_cl hi, t_eq, tn0]
  refine ⟨fun c => h0 (fun i' hi' hc' => ?_), fun c => h1 i hi (by omega) c⟩
  have ei : i' = i := by omega
  subst ei; exact c
/-! ===== the reference's small methods ===== -/
theorem r_in {v a b : Int64} {post : Int32 → Prop} (h1 : a.toInt ≤ v.toInt → v.toInt ≤ b.toInt → post 1) (h0 : ¬ (a.toInt ≤ v.toInt ∧ v.toInt ≤ b.toInt) → post 0) : wpX6_in v a b post := by
  unfold wpX6_in
  have e1 : lg_cmp v a < 0 ↔ v.toInt < a.toInt := by
    have := lg_cmp_ge v a
    rw [t_lle, t_le, tn0] at this
    rw [t_lt, tn0]
    omega
  have e2 : 0 < lg_cmp v b ↔ b.toInt < v.toInt := by
    unfold lg_cmp
    simp only [gt_iff_lt, t_llt, t_leq, t_lt, tn0]
    split <;> (try split) <;> simp only [tn1, tn0, tnm1] <;> omega
  refine ⟨fun a => h0 ?_, fun a => ⟨fun b => h0 ?_, fun b => h1 ?_ ?_⟩⟩ <;> simp only [e1, e2] at * <;> omega
theorem ln0 : (0 : Int64).toInt = 0 := by decide
theorem ln1 : (1 : Int64).toInt = 1 := by decide
theorem nz0 : narrow .boolean (.int 0) = .int 0 := rfl
theorem nz1 : narrow .boolean (.int 1) = .int 1 := rfl
theorem zb0 : w_zb 0 := ⟨rfl, rfl⟩
theorem zb1 : w_zb 1 := ⟨rfl, rfl⟩
theorem r_isOne {x : Int32} {f : wSt} {post : Int32 → Prop} (hm : -1000 ≤ (w_i f 5).toInt ∧ (w_i f 5).toInt ≤ 1000) (h1 : 0 ≤ x.toInt → x.toInt < (w_i f 5).toInt → post 1) (h0 : ¬ (0 ≤ x.toInt ∧ x.toInt < (w_i f 5).toInt) → post 0) : wpX6_isOne x f post := by
  unfold wpX6_isOne
  have n1 := tn1
  refine r_in (fun a b => ⟨nz1, h1 ?_ ?_⟩) (fun a => ⟨nz0, h0 ?_⟩) <;> simp only [t_l, ln0] at * <;> rw [t_sub (by omega)] at * <;> omega
theorem r_pailsOf {k m : Int32} {post : Int32 → Prop} (hm : -1000 ≤ m.toInt ∧ m.toInt ≤ 1000) (h : ∀ r : Int32, r.toInt = m_pails k.toInt m.toInt → post r) : wpX6_pailsOf k m post := by
  have n2 := tn2
  have n4 := tn4
  have n5 := tn5
  unfold wpX6_pailsOf wpX6_pailsOf_25
  simp (disch := omega) only [t_eq, t_le, tn1, tn3, tn0, tn9, t_add]
  refine ⟨fun a => ⟨fun b => ⟨fun c => ⟨fun d => h _ ?_, fun d => h _ ?_⟩, fun c => h _ ?_⟩, fun b => ⟨fun c => ⟨fun d => h _ ?_, fun d => h _ ?_⟩, fun c => h _ ?_⟩⟩, fun a => ⟨fun c => ⟨fun d => h _ ?_, fun d => h _ ?_⟩, fun c => h _ ?_⟩⟩ <;> simp (disch := omega) only [t_add, tn0, tn9] <;> unfold m_pails <;> omega
theorem r_isSweet {k m : Int32} {post : Int32 → Prop} (h1 : m_swt k.toInt m.toInt → post 1) (h0 : ¬ m_swt k.toInt m.toInt → post 0) : wpX6_isSweet k m post := by
  unfold wpX6_isSweet wpX6_isSweet_13
  unfold m_swt at h1 h0
  simp only [t_eq, t_lt, tn1, tn0]
  exact ⟨fun a => h1 (by omega), fun a => ⟨fun b => h0 (by omega), fun b => ⟨fun c => h0 (by omega), fun c => h1 (by omega)⟩⟩⟩
theorem r_most9 {x : Int32} {post : Int32 → Prop} (h : ∀ r : Int32, r.toInt = m_clamp x.toInt → post r) : wpX6_most9 x post := by
  unfold wpX6_most9
  simp only [t_le, tn9, tnm9]
  refine ⟨fun a => ⟨fun b => h _ ?_, fun b => h _ ?_⟩, fun a => h _ ?_⟩ <;> (try simp only [tn9, tnm9]) <;> unfold m_clamp <;> omega
theorem r_wane {x : Int32} {post : Int32 → Prop} (hx : -1000 ≤ x.toInt ∧ x.toInt ≤ 1000) (h : ∀ r : Int32, r.toInt = m_wane x.toInt → post r) : wpX6_wane x post := by
  have n1 := tn1
  unfold wpX6_wane
  simp only [t_le, tn0]
  refine ⟨fun a => ⟨fun b => h _ ?_, fun b => h _ ?_⟩, fun a => h _ ?_⟩ <;> simp (disch := omega) only [t_add, t_sub, tn0] <;> unfold m_wane <;> split <;> (try split) <;> omega
theorem r_feltBy {x : Int32} {f : wSt} {post : Int32 → Prop} {i : Nat} (hi : x.toInt = (i : Int)) (hc : i < 6) (hy : -3 ≤ (w_a f 1 i).toInt ∧ (w_a f 1 i).toInt ≤ 3) (h : ∀ r : Int32, r.toInt = m_felt (w_a f 0 i).toInt (w_a f 1 i).toInt → post r) : wpX6_feltBy x f post := by
  have hin : vp_in x 6 := t_in (by omega)
  unfold wpX6_feltBy
  simp only [t_cl hi, t_eq, tn3]
  refine ⟨hin, fun a => ⟨hin, h _ ?_⟩, fun a => ⟨hin, h _ ?_⟩⟩
  · unfold m_felt; rw [if_neg a]
  · rw [t_neg (by omega)]; unfold m_felt; rw [if_pos a]
theorem r_has {q x : Int32} {post : Int32 → Prop} {j : Nat} (hj : x.toInt = (j : Int)) (hc : j < 32) (h1 : bt q j = true → post 1) (h0 : ¬ bt q j = true → post 0) : wpX6_has q x post := by
  unfold wpX6_has
  rw [bt_test q x j hc hj]
  exact ⟨h0, h1⟩
