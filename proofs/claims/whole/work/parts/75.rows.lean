-- all rows, one after the other
def o_st (P : PP) (h : Nat) (o : Option (SS × Int)) (c : Nat) : Option (SS × Int) := match o with
  | none => none
  | some (s, A) => if p_n P ≤ c ∨ y_f s c ≤ (h : Int) then some (g_st P h s c, A + g_s P s c) else none
def o_dfs (P : PP) (k h : Nat) (o : Option (SS × Int)) (p : Nat → Nat) (b : BB) : BB := match o with
  | none => b
  | some (s, A) => dfs P k h s A p b
def o_ev (P : PP) (row : Nat → Nat) (k h : Nat) (o : Option (SS × Int)) : Option Int := match o with
  | none => none
  | some (s, A) => (ev P row k h s).map (fun v => A + v)
theorem o_dfs_succ {P : PP} {k h : Nat} {o : Option (SS × Int)} {p : Nat → Nat} {b : BB} : o_dfs P (k + 1) h o p b = g_fold (fun c b => o_dfs P k (h + 1) (o_st P h o c) (fun j => if j = h then c else p j) b) (p_n P + 1) 0 b := by
  cases o with
  | none => exact (g_fold_id _ _ (fun c _ _ => rfl)).symm
  | some sA =>
    obtain ⟨s, A⟩ := sA
    show g_fold _ _ _ _ = g_fold _ _ _ _
    congr 1
    funext c b'
    by_cases q : p_n P ≤ c ∨ y_f s c ≤ (h : Int)
    · have e : o_st P h (some (s, A)) c = some (g_st P h s c, A + g_s P s c) := if_pos q
      rw [e, if_pos q]
      rfl
    · have e : o_st P h (some (s, A)) c = none := if_neg q
      rw [e, if_neg q]
      rfl
theorem o_ev_succ {P : PP} {row : Nat → Nat} {k h c : Nat} {o : Option (SS × Int)} (hc : row h = c) : o_ev P row (k + 1) h o = o_ev P row k (h + 1) (o_st P h o c) := by
  subst hc
  cases o with
  | none => rfl
  | some sA =>
    obtain ⟨s, A⟩ := sA
    show (if p_n P ≤ row h ∨ y_f s (row h) ≤ (h : Int) then (ev P row k (h + 1) (g_st P h s (row h))).map (fun v => g_s P s (row h) + v) else none).map (fun v => A + v) = _
    by_cases q : p_n P ≤ row h ∨ y_f s (row h) ≤ (h : Int)
    · have e : o_st P h (some (s, A)) (row h) = some (g_st P h s (row h), A + g_s P s (row h)) := if_pos q
      rw [e, if_pos q]
      show _ = (ev P row k (h + 1) (g_st P h s (row h))).map (fun v => A + g_s P s (row h) + v)
      cases ev P row k (h + 1) (g_st P h s (row h)) with
      | none => rfl
      | some v =>
        show some (A + (g_s P s (row h) + v)) = some (A + g_s P s (row h) + v)
        rw [Int.add_assoc]
    · have e : o_st P h (some (s, A)) (row h) = none := if_neg q
      rw [e, if_neg q]
      rfl
theorem b_up_0 {P : PP} {p : Nat → Nat} {h : Nat} {o : Option (SS × Int)} {b : BB} : b_up b (o_ev P p 0 h o) p = o_dfs P 0 h o p b := by
  cases o with
  | none => rfl
  | some sA =>
    obtain ⟨s, A⟩ := sA
    show (if b.1 < A + 0 then (A + 0, p) else b) = (if b.1 < A then (A, p) else b)
    rw [Int.add_zero]
theorem BR.w {P : PP} {N : Nat} {t t' : wSt} {best : Int32} {b : BB} (h : BR P N t best b) (e : w_a t' 29 = w_a t 29) : BR P N t' best b := ⟨h.1, h.2.1, fun q j hj => by rw [e]; exact h.2.2 q j hj⟩
theorem nr_L {post : Int32 → wSt → Prop} {n : Nat} {x : Int32} {z : wSt} : wpX6_nextRow_L4 post (n + 1) x z = wpX6_nextRow_4 (wpX6_nextRow_L4 post n) post x z := rfl
theorem r_rows {post : Int32 → wSt → Prop} {x1 x2 : Int32} {N : Nat} (hx1 : x1.toInt = (N : Int)) (hN : N ≤ 5) {t0 : wSt} (hW : MW t0) (hm : -9 ≤ x2.toInt ∧ x2.toInt ≤ 9) (hlv : 0 ≤ (w_i t0 7).toInt ∧ (w_i t0 7).toInt ≤ 999) (hah : (w_i t0 12).toInt = 9 ∨ (0 ≤ (w_i t0 12).toInt ∧ (w_i t0 12).toInt < (w_i t0 5).toInt)) {n : Nat} (h5 : (w_i t0 5).toInt = (n : Int)) : ∀ (k h : Nat), h + k = N → ∀ (f : Nat) (p : Nat → Nat) (o : Option (SS × Int)) (t : wSt) (best : Int32) (b : BB), (∀ row : Nat → Nat, (∀ j, j < h → row j = p j) → ev (mP t0) row N 0 (mS t0 x2.toInt) = o_ev (mP t0) row k h o) → FS t0 t → (∀ j, j < h → w_a t 28 j = nI (p j) ∧ p j ≤ n) → (∀ j, h ≤ j → j < N → w_a t 28 j = 0) → BR (mP t0) N t best b → (∀ t' best', FS t0 t' → (∀ j, j < h → w_a t' 28 j = nI (p j)) → (∀ j, h ≤ j → j < N → w_a t' 28 j = nI n) → BR (mP t0) N t' best' (o_dfs (mP t0) k h o p b) → wpX6_findMost_184 (wpX6_findMost_L25 post f) post x1 x2 best' t') → wpX6_findMost_L25 post (f + (n + 1) ^ k) x1 x2 best 1 t := by
  have h6 := hW.1
  have n1 := tn1
  have epn : p_n (mP t0) = n := by show (w_i t0 5).toInt.toNat = n; omega
  intro k
  induction k with
  | zero =>
    intro h hh f p o t best b hev hF hp hz hb G
    show wpX6_findMost_L25 post (f + 1) x1 x2 best 1 t
    refine r_row hx1 hN hW hm hlv hah (row := p) hF (fun j hj => ⟨(hp j (by omega)).1, by have := (hp j (by omega)).2; omega⟩) hb (fun t' best' f1 f2 f3 => G t' best' f1 (fun j hj => by rw [f2]; exact (hp j hj).1) (fun j h1 h2 => by exfalso; omega) ?_)
    rw [hev p (fun _ _ => rfl), b_up_0] at f3
    exact f3
  | succ k ih =>
    intro h hh f p o t best b hev hF hp hz hb G
    rw [o_dfs_succ, epn] at G
    have inner : ∀ (m c : Nat), c + m = n → ∀ (t : wSt) (best : Int32) (b : BB), FS t0 t → (∀ j, j < h → w_a t 28 j = nI (p j)) → w_a t 28 h = nI c → (∀ j, h + 1 ≤ j → j < N → w_a t 28 j = 0) → BR (mP t0) N t best b → (∀ t' best', FS t0 t' → (∀ j, j < h → w_a t' 28 j = nI (p j)) → (∀ j, h ≤ j → j < N → w_a t' 28 j = nI n) → BR (mP t0) N t' best' (g_fold (fun c b => o_dfs (mP t0) k (h + 1) (o_st (mP t0) h o c) (fun j => if j = h then c else p j) b) (m + 1) c b) → wpX6_findMost_184 (wpX6_findMost_L25 post f) post x1 x2 best' t') → wpX6_findMost_L25 post (f + (m + 1) * (n + 1) ^ k) x1 x2 best 1 t := by
      intro m
      induction m with
      | zero =>
        intro c hc t best b hF hp1 hp2 hz hb G
        have ec : c = n := by omega
        subst ec
        rw [Nat.zero_add, Nat.one_mul]
        refine ih (h + 1) (by omega) f (fun j => if j = h then c else p j) (o_st (mP t0) h o c) t best b (fun row hr => ?_) hF (fun j hj => ?_) hz hb (fun t' best' f1 f2 f3 f4 => G t' best' f1 (fun j hj => ?_) (fun j g1 g2 => ?_) f4)
        · rw [hev row (fun j hj => by rw [hr j (by omega), if_neg (by omega)])]
          exact o_ev_succ (by rw [hr h (by omega), if_pos rfl])
        · show w_a t 28 j = nI (if j = h then c else p j) ∧ (if j = h then c else p j) ≤ c
          by_cases e : j = h
          · rw [if_pos e, e]; exact ⟨hp2, Nat.le_refl _⟩
          · rw [if_neg e]; exact ⟨hp1 j (by omega), (hp j (by omega)).2⟩
        · rw [f2 j (by omega)]; show nI (if j = h then c else p j) = _; rw [if_neg (by omega)]
        · by_cases e : j = h
          · rw [f2 j (by omega)]; show nI (if j = h then c else p j) = _; rw [if_pos e]
          · exact f3 j (by omega) g2
      | succ m ihm =>
        intro c hc t best b hF hp1 hp2 hz hb G
        have efu : f + (m + 1 + 1) * (n + 1) ^ k = (f + (m + 1) * (n + 1) ^ k) + (n + 1) ^ k := by rw [Nat.succ_mul (m + 1), Nat.add_assoc]
        rw [efu]
        refine ih (h + 1) (by omega) (f + (m + 1) * (n + 1) ^ k) (fun j => if j = h then c else p j) (o_st (mP t0) h o c) t best b (fun row hr => ?_) hF (fun j hj => ?_) hz hb (fun t' best' f1 f2 f3 f4 => ?_)
        · rw [hev row (fun j hj => by rw [hr j (by omega), if_neg (by omega)])]
          exact o_ev_succ (by rw [hr h (by omega), if_pos rfl])
        · show w_a t 28 j = nI (if j = h then c else p j) ∧ (if j = h then c else p j) ≤ n
          by_cases e : j = h
          · rw [if_pos e, e]; exact ⟨hp2, by omega⟩
          · rw [if_neg e]; exact ⟨hp1 j (by omega), (hp j (by omega)).2⟩
        · have en := nIe (i := n) (by omega)
          have ec := nIe (i := c) (by omega)
          have eh := nIe (i := h) (by omega)
          have f2' : ∀ j, j < h → w_a t' 28 j = nI (p j) := fun j hj => by rw [f2 j (by omega)]; show nI (if j = h then c else p j) = _; rw [if_neg (by omega)]
          have f2h : w_a t' 28 h = nI c := by rw [f2 h (by omega)]; show nI (if h = h then c else p h) = _; rw [if_pos rfl]
          unfold wpX6_findMost_184 wpX6_nextRow
          have ex1 : x1 = nI (h + 1 + k) := by rw [t_eq, hx1, nIe (by omega)]; omega
          refine ⟨0 + 1 + k, ?_⟩
          rw [ex1]
          refine r_carryL (t0 := t0) (R29 := w_a t' 29) (p := fun j => if j = h then c else p j) h5 (by omega) hN (fun t2 g1 g2 g3 g4 => ?_) k t' (by omega) f1 rfl f2 (fun j a1 a2 => f3 j a1 (by omega)) (fun j a1 a2 => by exfalso; omega)
          have ey : (nI (h + 1) - 1).toInt = (h : Int) := by rw [t_sub (by rw [nIe (by omega)]; omega), nIe (by omega)]; omega
          have hin : vp_in (nI (h + 1) - 1) 5 := t_in (by omega)
          have e5 : w_i t2 5 = w_i t0 5 := g1.1 5 (by decide)
          have g3h : w_a t2 28 h = nI c := by rw [g3 h (by omega)]; show nI (if h = h then c else p h) = _; rw [if_pos rfl]
          have ec1 : nI c + 1 = nI (c + 1) := nI_1 c
          rw [nr_L]
          unfold wpX6_nextRow_4
          rw [t_lt, tn0, ey, t_cl ey, g3h, ec1]
          refine ⟨fun q => by exfalso; omega, fun _ => ⟨hin, hin, ?_⟩⟩
          rintro z1 rfl
          rw [w_ai, g_u, if_pos rfl]
          have e5' : w_i (w_sa t2 28 (upd (w_a t2 28) h (nI (c + 1)))) 5 = w_i t0 5 := e5
          rw [e5', t_lt, h5, nIe (i := c + 1) (by omega)]
          refine ⟨hin, fun q => by exfalso; omega, fun _ => ?_⟩
          rintro z2 rfl
          rw [← ex1]
          refine ihm (c + 1) (by omega) _ best' _ ((g1.tr MF.sa).up (by decide) (by decide)) (fun j hj => ?_) ?_ (fun j a1 a2 => ?_) (f4.w ?_) G
          · rw [w_ai, g_u, if_neg (by omega), g3 j (by omega)]; show nI (if j = h then c else p j) = _; rw [if_neg (by omega)]
          · rw [w_ai, g_u, if_pos rfl]
          · rw [w_ai, g_u, if_neg (by omega)]; exact g4 j a1 a2
          · exact g2
    have efu : f + (n + 1) ^ (k + 1) = f + (n + 1) * (n + 1) ^ k := by rw [Nat.pow_succ, Nat.mul_comm]
    rw [efu]
    exact inner n 0 (by omega) t best b hF (fun j hj => (hp j hj).1) (hz h (by omega) (by omega)) (fun j a1 a2 => hz j (by omega) a2) hb G
theorem r_findMost {post : Int32 → wSt → Prop} {x1 x2 : Int32} {N : Nat} (hx1 : x1.toInt = (N : Int)) (hN : N ≤ 5) {t0 : wSt} (hW : MW t0) (hm : -9 ≤ x2.toInt ∧ x2.toInt ≤ 9) (hlv : 0 ≤ (w_i t0 7).toInt ∧ (w_i t0 7).toInt ≤ 999) (hah : (w_i t0 12).toInt = 9 ∨ (0 ≤ (w_i t0 12).toInt ∧ (w_i t0 12).toInt < (w_i t0 5).toInt)) (hp : ∀ r t', FS t0 t' → BR (mP t0) N t' r (dfs (mP t0) N 0 (mS t0 x2.toInt) 0 (fun _ => 0) (-1, fun _ => 0)) → post r t') : wpX6_findMost x1 x2 t0 post := by
  have h6 := hW.1
  obtain ⟨n, h5⟩ : ∃ n : Nat, (w_i t0 5).toInt = (n : Int) := ⟨(w_i t0 5).toInt.toNat, by omega⟩
  have loop : ∀ (k h : Nat) (t : wSt), h + k = N → FS t0 t → (∀ j, j < h → w_a t 28 j = 0) → wpX6_findMost_L2 post (k + 1) x1 x2 (nI h) t := by
    intro k
    induction k with
    | zero =>
      intro h t hh hF hz
      show wpX6_findMost_2 _ _ _ _ _ _
      unfold wpX6_findMost_2
      rw [t_le, hx1, nIe (by omega)]
      refine ⟨fun _ => ⟨1 + (n + 1) ^ N, ?_⟩, fun q => by exfalso; omega⟩
      refine r_rows hx1 hN hW hm hlv hah h5 N 0 (by omega) 1 (fun _ => 0) (some (mS t0 x2.toInt, 0)) t (-1) (-1, fun _ => 0) (fun row _ => ?_) hF (fun j hj => by exfalso; omega) (fun j _ hj => hz j (by omega)) ⟨tnm1, ⟨by show (-1 : Int) ≤ -1; omega, by show (-1 : Int) ≤ 45; omega⟩, fun q => by exfalso; have q' : (0 : Int) ≤ -1 := q; omega⟩ (fun t' best' f1 f2 f3 f4 => ?_)
      · show _ = (ev (mP t0) row N 0 (mS t0 x2.toInt)).map (fun v => 0 + v)
        cases ev (mP t0) row N 0 (mS t0 x2.toInt) with
        | none => rfl
        | some v => show some v = some (0 + v); rw [Int.zero_add]
      · unfold wpX6_findMost_184 wpX6_nextRow
        have ex1 : x1 = nI (0 + N) := by rw [t_eq, hx1, nIe (by omega)]; omega
        refine ⟨0 + 1 + N, ?_⟩
        rw [ex1]
        refine r_carryL (t0 := t0) (R29 := w_a t' 29) (p := fun _ => 0) h5 (by omega) hN (fun t2 g1 g2 g3 g4 => ?_) N t' (by omega) f1 rfl (fun j hj => by exfalso; omega) (fun j a1 a2 => f3 j a1 (by omega)) (fun j a1 a2 => by exfalso; omega)
        rw [nr_L]
        unfold wpX6_nextRow_4
        refine ⟨fun _ => ?_, fun q => absurd (by decide) q⟩
        rintro z2 rfl
        show wpX6_findMost_25 _ post _ _ _ _ _
        unfold wpX6_findMost_25
        exact ⟨fun _ => hp _ _ g1 (f4.w g2), fun q => absurd rfl q⟩
    | succ k ih =>
      intro h t hh hF hz
      have hin : vp_in (nI h) 5 := t_in (by rw [nIe (by omega)]; omega)
      show wpX6_findMost_2 _ _ _ _ _ _
      unfold wpX6_findMost_2
      rw [t_le, hx1, nIe (by omega), t_cl (nIe (by omega))]
      refine ⟨fun q => by exfalso; omega, fun _ => ⟨hin, ?_⟩⟩
      rintro z1 rfl
      rw [nI_1]
      refine ih (h + 1) _ (by omega) ((hF.tr MF.sa).up (by decide) (by decide)) (fun j hj => ?_)
      rw [w_ai, g_u]
      by_cases e : j = h
      · rw [if_pos e]
      · rw [if_neg e]; exact hz j (by omega)
  unfold wpX6_findMost
  exact ⟨N + 1, loop N 0 t0 (by omega) (MF.rf.up (by decide) (by decide)) (fun j hj => by exfalso; omega)⟩
