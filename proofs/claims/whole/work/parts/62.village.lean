theorem n44 : (44 : Int32).toInt = 44 := by decide
theorem nIe {i : Nat} (h : i < 1000) : (nI i).toInt = (i : Int) := nI_toInt (by omega)
theorem b_folkL : ∀ (k i : Nat) (s f t : wSt) (post : Int32 → wSt × wSt → Prop), i + k = 5 → TX s t → FI f t i →
    (∀ s' t' f', TX s' t' → NB t' → MF [18, 19] [20] t t' → (∀ {p2 : Int32 → wSt → Prop}, p2 0 t' → wpX6_readVillage_L7 p2 (k + 1) (nI i) t) → post (-20 - w_i s' 2) (s', f')) →
    (∀ n s' t' f', 1 ≤ n → n ≤ 6 → TX s' t' → FI f' t' n → w_i t' 19 = nI n → MF [18, 19] [20] t t' → (∀ {p2 : Int32 → wSt → Prop}, p2 1 t' → wpX6_readVillage_L7 p2 (k + 1) (nI i) t) → post (nI n) (s', f')) → wpX3_readFolk_L12 post (k + 1) (nI (i + 1)) (s, f) := by
  have n1 := tn1
  intro k
  induction k with
  | zero =>
    intro i s f t post hi h hF hp0 hp1
    have ei := nIe (i := i) (by omega)
    have ei1 := nIe (i := i + 1) (by omega)
    have e3 : ((3 : Int32) * nI i).toInt = ((3 * i : Nat) : Int) := by rw [t_mul (by rw [tn3, ei]; omega), tn3, ei]; omega
    show wpX3_readFolk_12 _ post _ _
    unfold wpX3_readFolk_12 wpX3_readFolk_54 wpX3_fault
    rw [t_lt, tn6, ei1]
    refine ⟨fun q => by exfalso; omega, fun _ => b_one h (by omega) e3 hF (fun s' t' a1 a2 a3 a4 => ?_) (fun s' t' f' a1 a2 a3 a4 => ?_)⟩
    · rintro z1 rfl
      refine d0 (hp0 s' t' f a1 a2 (a3.up (by decide) (by decide)) (fun {p2} hp2 => ?_))
      show wpX6_readVillage_7 _ p2 _ _
      unfold wpX6_readVillage_7
      rw [t_le, tn6, ei]
      refine ⟨fun q => by exfalso; omega, fun _ => a4 ?_⟩
      rintro z1 rfl
      exact d0 hp2
    · rintro z1 rfl
      refine d1 ?_
      have hT : TX s' (w_si t' 19 (nI i + 1)) := a1
      refine b_next hT (fun q v v' q1 q2 hv hM => ?_)
      have c44 := hv.eqc 44 (by rw [n44]; omega)
      have hU : TX (w_si s' 2 q) (w_si (w_si t' 19 (nI i + 1)) 18 q) := hT.pl (by have := hT.2.2.2.1; omega) q2
      have FU : MF [18, 19] [20] t (w_si (w_si t' 19 (nI i + 1)) 18 q) := ((a2.tr MF.si).tr MF.si).up (by decide) (by decide)
      have kM : ∀ {p2 : Int32 → wSt → Prop}, (0 ≤ v'.toInt → p2 0 (w_si (w_si t' 19 (nI i + 1)) 18 q)) → (v'.toInt < 0 → p2 1 (w_si (w_si t' 19 (nI i + 1)) 18 q)) → wpX6_readVillage_L7 p2 (0 + 1) (nI i) t := by
        intro p2 g1 g2
        show wpX6_readVillage_7 _ p2 _ _
        unfold wpX6_readVillage_7
        rw [t_le, tn6, ei]
        refine ⟨fun q => by exfalso; omega, fun _ => a4 ?_⟩
        rintro z1 rfl
        refine d1 ?_
        rintro z2 rfl
        refine hM ?_
        rintro z3 rfl
        rw [t_le, tn0]
        refine ⟨fun c => ⟨fun _ => g1 c, fun d => ⟨fun q => absurd (t_eq.mpr (by rw [ei, tn5]; omega)) q, fun _ => g1 c⟩⟩, fun c => g2 (by omega)⟩
      have fail : v ≠ 0 → post (-20 - w_i (w_si s' 2 q) 2) (w_si s' 2 q, f') := fun hne => hp0 _ _ f' hU ⟨v, v', hv.at⟩ FU (fun {p2} hp2 => kM (fun _ => hp2) (fun c => by
        exfalso
        rcases hv with ⟨-, e, -⟩ | ⟨-, e, -, e3, -⟩
        · exact hne e
        · rw [e] at e3; omega))
      rintro z2 rfl
      refine ⟨fun c => ⟨fun _ => fail c, fun d => ⟨fun q => absurd (t_eq.mpr (by rw [ei1, tn6]; omega)) q, fun _ => fail c⟩⟩, fun c => ?_⟩
      refine hp1 (i + 1) _ _ f' (by omega) (by omega) hU (a3.eq (fun j _ => rfl)) (nI_1 i) FU (fun {p2} hp2 => kM (fun e => ?_) (fun _ => hp2))
      exfalso
      rcases hv with ⟨-, -, e'⟩ | ⟨-, -, -, e3, -⟩
      · rw [e', tnm1] at e; omega
      · rw [c, tn0] at e3; omega
  | succ k ih =>
    intro i s f t post hi h hF hp0 hp1
    have ei := nIe (i := i) (by omega)
    have ei1 := nIe (i := i + 1) (by omega)
    have e3 : ((3 : Int32) * nI i).toInt = ((3 * i : Nat) : Int) := by rw [t_mul (by rw [tn3, ei]; omega), tn3, ei]; omega
    show wpX3_readFolk_12 _ post _ _
    unfold wpX3_readFolk_12 wpX3_readFolk_54 wpX3_fault
    rw [t_lt, tn6, ei1]
    refine ⟨fun q => by exfalso; omega, fun _ => b_one h (by omega) e3 hF (fun s' t' a1 a2 a3 a4 => ?_) (fun s' t' f' a1 a2 a3 a4 => ?_)⟩
    · rintro z1 rfl
      refine d0 (hp0 s' t' f a1 a2 (a3.up (by decide) (by decide)) (fun {p2} hp2 => ?_))
      show wpX6_readVillage_7 _ p2 _ _
      unfold wpX6_readVillage_7
      rw [t_le, tn6, ei]
      refine ⟨fun q => by exfalso; omega, fun _ => a4 ?_⟩
      rintro z1 rfl
      exact d0 hp2
    · rintro z1 rfl
      refine d1 ?_
      have hT : TX s' (w_si t' 19 (nI i + 1)) := a1
      refine b_next hT (fun q v v' q1 q2 hv hM => ?_)
      have c44 := hv.eqc 44 (by rw [n44]; omega)
      have hq0 : 0 ≤ q.toInt := by have := hT.2.2.2.1; omega
      have hU : TX (w_si s' 2 q) (w_si (w_si t' 19 (nI i + 1)) 18 q) := hT.pl hq0 q2
      have FU : MF [18, 19] [20] t (w_si (w_si t' 19 (nI i + 1)) 18 q) := ((a2.tr MF.si).tr MF.si).up (by decide) (by decide)
      have kM : ∀ {p2 : Int32 → wSt → Prop}, (0 ≤ v'.toInt → v' ≠ 44 → p2 0 (w_si (w_si t' 19 (nI i + 1)) 18 q)) → (v' = 44 → wpX6_readVillage_L7 p2 (k + 1) (nI (i + 1)) (w_si (w_si (w_si t' 19 (nI i + 1)) 18 q) 18 (q + 1))) → (v'.toInt < 0 → p2 1 (w_si (w_si t' 19 (nI i + 1)) 18 q)) → wpX6_readVillage_L7 p2 (k + 1 + 1) (nI i) t := by
        intro p2 g1 g3 g2
        show wpX6_readVillage_7 _ p2 _ _
        unfold wpX6_readVillage_7
        rw [t_le, tn6, ei]
        refine ⟨fun q => by exfalso; omega, fun _ => a4 ?_⟩
        rintro z1 rfl
        refine d1 ?_
        rintro z2 rfl
        refine hM ?_
        rintro z3 rfl
        rw [t_le, tn0]
        refine ⟨fun c => ⟨fun d => g1 c d, fun d => ⟨fun _ => ?_, fun q => ?_⟩⟩, fun c => g2 (by omega)⟩
        · rintro z4 rfl
          have g := g3 d
          rw [nI_1] at g ⊢
          rw [w_ii]
          exact g
        · exfalso
          rw [t_eq, ei] at q
          have : (5 : Int32).toInt = 5 := by decide
          omega
      have fail : v ≠ 0 → v ≠ 44 → post (-20 - w_i (w_si s' 2 q) 2) (w_si s' 2 q, f') := fun hne h44 => hp0 _ _ f' hU ⟨v, v', hv.at⟩ FU (fun {p2} hp2 => kM (fun _ _ => hp2) (fun c => absurd (c44.mpr c) h44) (fun c => by
        exfalso
        rcases hv with ⟨-, e, -⟩ | ⟨-, e, -, e3, -⟩
        · exact hne e
        · rw [e] at e3; omega))
      rintro z2 rfl
      refine ⟨fun c => ⟨fun d => fail c d, fun d => ⟨fun _ => ?_, fun q => ?_⟩⟩, fun c => ?_⟩
      · have hlt := hv.lt d (by rw [n44]; omega)
        have h60 := hT.2.2.1
        have eq1 : (q + 1).toInt = q.toInt + 1 := by rw [t_add (by omega), n1]
        rintro z3 rfl
        rw [nI_1, w_ii]
        refine ih (i + 1) _ f' (w_si (w_si (w_si t' 19 (nI i + 1)) 18 q) 18 (q + 1)) post (by omega) (hU.pl (by omega) (by show (q + 1).toInt ≤ (w_i (w_si t' 19 (nI i + 1)) 17).toInt; omega)) (a3.eq (fun j _ => rfl)) (fun s2 t2 f2 b1 b2 b3 b4 => hp0 s2 t2 f2 b1 b2 (((FU.tr MF.si).tr b3).up (by decide) (by decide)) (fun {p2} hp2 => kM (fun _ q => absurd (c44.mp d) q) (fun _ => b4 hp2) (fun q => ?_))) (fun n s2 t2 f2 b0 b1 b2 b3 b4 b5 b6 => hp1 n s2 t2 f2 b0 b1 b2 b3 b4 (((FU.tr MF.si).tr b5).up (by decide) (by decide)) (fun {p2} hp2 => kM (fun _ q => absurd (c44.mp d) q) (fun _ => b6 hp2) (fun q => ?_)))
        · exfalso; rw [c44.mp d, n44] at q; omega
        · exfalso; rw [c44.mp d, n44] at q; omega
      · exfalso
        rw [t_eq, ei1, tn6] at q
        omega
      · refine hp1 (i + 1) _ _ f' (by omega) (by omega) hU (a3.eq (fun j _ => rfl)) (nI_1 i) FU (fun {p2} hp2 => kM (fun e _ => ?_) (fun d => ?_) (fun _ => hp2))
        · exfalso
          rcases hv with ⟨-, -, e'⟩ | ⟨-, -, -, e3, -⟩
          · rw [e', tnm1] at e; omega
          · rw [c, tn0] at e3; omega
        · exfalso
          rw [c44.mpr d] at c
          exact absurd c (by decide)
-- settling
theorem q_settleL {n : wSt} {post : wP2 × wSt → Prop} : ∀ (k i : Nat) (w : wP2), i + k = 6 → (∀ j, j < i → w_a (w_o w) 1 j = 0) → (∀ w' : wP2, w_f w' = w_f w → (∀ q, q ≠ 10 → q ≠ 3 → w_i (w_o w') q = w_i (w_o w) q) → w_i (w_o w') 10 = 9 → w_i (w_o w') 3 = 0 → (∀ q, q ≠ 1 → w_a (w_o w') q = w_a (w_o w) q) → (∀ j, j < 6 → w_a (w_o w') 1 j = 0) → post (w', n)) → wpX4_settle_L10 post (k + 1) (nI i) (w, n) := by
  intro k
  induction k with
  | zero =>
    intro i w hi hw hp
    show wpX4_settle_10 _ post _ _
    unfold wpX4_settle_10
    rw [t_le, tn6, nIe (by omega)]
    refine ⟨fun _ => ?_, fun q => by exfalso; omega⟩
    rintro z1 rfl
    rintro z2 rfl
    refine hp _ rfl (fun q h1 h2 => ?_) rfl rfl (fun q _ => rfl) (fun j hj => hw j (by omega))
    show (if q = 3 then _ else if q = 10 then _ else _) = _
    rw [if_neg h2, if_neg h1] <;> rfl
  | succ k ih =>
    intro i w hi hw hp
    have ei := nIe (i := i) (by omega)
    show wpX4_settle_10 _ post _ _
    unfold wpX4_settle_10
    rw [t_le, tn6, ei, t_cl ei]
    refine ⟨fun q => by exfalso; omega, fun _ => ⟨t_in (by omega), ?_⟩⟩
    rintro z1 rfl
    rw [nI_1]
    refine ih (i + 1) _ (by omega) (fun j hj => ?_) (fun w' g1 g2 g3 g4 g5 g6 => hp w' g1 g2 g3 g4 (fun q hq => ?_) g6)
    · show upd (w_a (w_o w) 1) i 0 j = 0
      rw [g_u]
      by_cases e : j = i
      · rw [if_pos e]
      · rw [if_neg e]; exact hw j (by omega)
    · rw [g5 q hq]
      show (if q = 1 then _ else _) = _
      rw [if_neg hq] <;> rfl
theorem r_villageL {t0 : wSt} {n : Nat} (hn : n ≤ 6) (h19 : w_i t0 19 = nI n) {post : Int32 → wSt → Prop} (hp : ∀ t', w_i t' 5 = nI n → MF [5] [0, 1, 2, 3, 4] t0 t' → (∀ j, j < n → w_a t' 0 j = w_a t0 20 (3 * j) ∧ w_a t' 1 j = w_a t0 20 (3 * j + 1) ∧ w_a t' 2 j = w_a t0 20 (3 * j + 2) ∧ w_a t' 3 j = 0 ∧ w_a t' 4 j = 0) → post (nI n) t') : ∀ (k i : Nat) (t : wSt), i + k = n → w_i t 5 = nI i → MF [5] [0, 1, 2, 3, 4] t0 t → (∀ j, j < i → w_a t 0 j = w_a t0 20 (3 * j) ∧ w_a t 1 j = w_a t0 20 (3 * j + 1) ∧ w_a t 2 j = w_a t0 20 (3 * j + 2) ∧ w_a t 3 j = 0 ∧ w_a t 4 j = 0) → wpX6_village_L49 post (k + 1) (nI i) t := by
  have n1 := tn1
  have n2 := tn2
  intro k
  induction k with
  | zero =>
    intro i t hi h5 hF hj
    have e : i = n := by omega
    subst e
    show wpX6_village_49 _ post _ _
    unfold wpX6_village_49
    rw [hF.1 19 (by decide), h19, t_le, h5]
    exact ⟨fun _ => hp t h5 hF hj, fun q => by exfalso; omega⟩
  | succ k ih =>
    intro i t hi h5 hF hj
    have ei := nIe (i := i) (by omega)
    have en := nIe (i := n) (by omega)
    have e3 : ((3 : Int32) * nI i).toInt = ((3 * i : Nat) : Int) := by rw [t_mul (by rw [tn3, ei]; omega), tn3, ei]; omega
    have e31 : ((3 : Int32) * nI i + 1).toInt = ((3 * i + 1 : Nat) : Int) := by rw [t_add (by omega)]; omega
    have e32 : ((3 : Int32) * nI i + 2).toInt = ((3 * i + 2 : Nat) : Int) := by rw [t_add (by omega)]; omega
    have hin : vp_in (nI i) 6 := t_in (by omega)
    show wpX6_village_49 _ post _ _
    unfold wpX6_village_49
    rw [hF.1 19 (by decide), h19, t_le, ei, en, t_cl e3, t_cl e31, t_cl e32, hF.2.1 20 (by decide)]
    refine ⟨fun q => by exfalso; omega, fun _ => ⟨t_in (by omega), t_in (by omega), t_in (by omega), ?_⟩⟩
    unfold wpX6_add
    have g5 : ∀ (q : Nat) (u : Nat → Int32) (z : wSt), w_i (w_sa z q u) 5 = w_i z 5 := fun _ _ _ => rfl
    rw [h5, t_cl ei]
    refine ⟨hin, ?_⟩
    rintro z1 rfl
    rw [g5, h5, t_cl ei]
    refine ⟨hin, ?_⟩
    rintro z2 rfl
    rw [g5, g5, h5, t_cl ei]
    refine ⟨hin, ?_⟩
    rintro z3 rfl
    rw [g5, g5, g5, h5, t_cl ei]
    refine ⟨hin, ?_⟩
    rintro z4 rfl
    rw [g5, g5, g5, g5, h5, t_cl ei]
    refine ⟨hin, ?_⟩
    rintro z5 rfl
    rintro z6 rfl
    rintro z7 rfl
    rw [g5, g5, g5, g5, g5, h5, nI_1]
    refine ih (i + 1) _ (by omega) rfl ⟨fun q hq => ?_, fun q hq => ?_, fun q => hF.2.2 q⟩ (fun j hj' => ?_)
    · simp only [List.mem_cons, List.not_mem_nil, or_false] at hq
      show (if q = 5 then _ else _) = _
      rw [if_neg hq]
      exact hF.1 q (by simp [hq])
    · simp only [List.mem_cons, List.not_mem_nil, or_false, not_or] at hq
      obtain ⟨m0, m1, m2, m3, m4⟩ := hq
      show (if q = 4 then _ else if q = 3 then _ else if q = 2 then _ else if q = 1 then _ else if q = 0 then _ else _) = _
      rw [if_neg m4, if_neg m3, if_neg m2, if_neg m1, if_neg m0]
      exact hF.2.1 q (by simp [m0, m1, m2, m3, m4])
    · show upd (w_a t 0) i (w_a t0 20 (3 * i)) j = _ ∧ upd (w_a t 1) i (w_a t0 20 (3 * i + 1)) j = _ ∧ upd (w_a t 2) i (w_a t0 20 (3 * i + 2)) j = _ ∧ upd (w_a t 3) i 0 j = 0 ∧ upd (w_a t 4) i 0 j = 0
      simp only [g_u]
      by_cases c : j = i
      · subst c
        simp only [if_pos rfl]
        exact ⟨rfl, rfl, rfl, rfl, rfl⟩
      · simp only [if_neg c]
        exact hj j (by omega)
