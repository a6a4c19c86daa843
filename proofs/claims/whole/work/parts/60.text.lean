theorem w_si_si {x : wSt} {k : Nat} {a b : Int32} : w_si (w_si x k a) k b = w_si x k b := by
  unfold w_si vf_upd
  refine Prod.ext ?_ rfl
  funext j
  by_cases h : j = k
  · simp [h]
  · simp [h]
theorem w_si_self {x : wSt} {k : Nat} : w_si x k (w_i x k) = x := by
  unfold w_si w_i vf_upd
  refine Prod.ext ?_ rfl
  funext j
  by_cases h : j = k
  · simp [h]
  · simp [h]
theorem w_ii {x : wSt} {k : Nat} {v : Int32} : w_i (w_si x k v) k = v := by rw [g_ii, if_pos rfl]
/-- the class' tape beside the reference's, while they are read -/
def TX (s t : wSt) : Prop := w_i s 1 = w_i t 17 ∧ w_i s 2 = w_i t 18 ∧ (0 ≤ (w_i t 17).toInt ∧ (w_i t 17).toInt ≤ 60) ∧ (0 ≤ (w_i t 18).toInt ∧ (w_i t 18).toInt ≤ (w_i t 17).toInt) ∧ ∀ i : Nat, (i : Int) < (w_i t 17).toInt → w_a s 0 i = w_a t 16 i ∧ 32 ≤ (w_a t 16 i).toInt ∧ (w_a t 16 i).toInt ≤ 126
/-- what stands at a place -/
def NV (t : wSt) (q v v' : Int32) : Prop := (q = w_i t 17 ∧ v = 0 ∧ v' = -1) ∨ (q.toInt < (w_i t 17).toInt ∧ v = v' ∧ v = w_a t 16 q.toNatClampNeg ∧ 33 ≤ v.toInt ∧ v.toInt ≤ 126)
theorem TX.pl {s t : wSt} {q : Int32} (h : TX s t) (h1 : 0 ≤ q.toInt) (h2 : q.toInt ≤ (w_i t 17).toInt) : TX (w_si s 2 q) (w_si t 18 q) := ⟨h.1, rfl, h.2.2.1, ⟨h1, h2⟩, h.2.2.2.2⟩
theorem b_nextL : ∀ (k : Nat) (s t : wSt) (post : Int32 → wSt → Prop), TX s t → (w_i t 17).toInt - (w_i t 18).toInt = (k : Int) → (∀ q v v', (w_i t 18).toInt ≤ q.toInt → q.toInt ≤ (w_i t 17).toInt → NV t q v v' → (∀ {p2 : Int32 → wSt → Prop}, p2 v' (w_si t 18 q) → wpX6_nextByte_L0 p2 (k + 1) t) → post v (w_si s 2 q)) → wpX3_next_L0 post (k + 1) s := by
  have n1 := tn1
  have n32 : (32 : Int32).toInt = 32 := by decide
  intro k
  induction k with
  | zero =>
    intro s t post h hk hp
    obtain ⟨h1, h2, h3, h4, h5⟩ := id h
    show wpX3_next_0 _ post _
    unfold wpX3_next_0 wpX3_next_38
    rw [h1, h2, t_le]
    refine ⟨fun _ => ⟨fun _ => ?_, fun q => by exfalso; omega⟩, fun q => by exfalso; omega⟩
    have key := hp (w_i t 18) 0 (-1) (by omega) (by omega) (Or.inl ⟨by rw [t_eq]; omega, rfl, rfl⟩) (fun {p2} hp2 => by
      show wpX6_nextByte_0 _ p2 _
      unfold wpX6_nextByte_0 wpX6_nextByte_38
      rw [t_le]
      rw [w_si_self] at hp2
      exact ⟨fun _ => ⟨fun _ => hp2, fun q => by exfalso; omega⟩, fun q => by exfalso; omega⟩)
    rw [← h2, w_si_self] at key
    exact key
  | succ k ih =>
    intro s t post h hk hp
    obtain ⟨h1, h2, h3, h4, h5⟩ := id h
    obtain ⟨p, hpl⟩ := nat_of h4.1
    obtain ⟨c1', c2, c3⟩ := h5 p (by omega)
    have hin : vp_in (w_i t 18) 60 := t_in (by omega)
    have e1 : (w_i t 18 + 1).toInt = (w_i t 18).toInt + 1 := by rw [t_add (by omega), n1]
    show wpX3_next_0 _ post _
    unfold wpX3_next_0 wpX3_next_38
    rw [h1, h2, t_le, t_cl hpl, c1']
    refine ⟨fun q => by exfalso; omega, fun _ => ⟨hin, fun ne => ⟨fun q => by exfalso; omega, fun _ => ⟨hin, ?_⟩⟩, fun eq => ?_⟩⟩
    · have hv : 33 ≤ (w_a t 16 p).toInt := by
        rw [t_eq, n32] at ne; omega
      have key := hp (w_i t 18) (w_a t 16 p) (w_a t 16 p) (by omega) (by omega) (Or.inr ⟨by omega, rfl, by rw [t_cl hpl], hv, c3⟩) (fun {p2} hp2 => by
        show wpX6_nextByte_0 _ p2 _
        unfold wpX6_nextByte_0 wpX6_nextByte_38
        rw [t_le, t_cl hpl]
        rw [w_si_self] at hp2
        exact ⟨fun q => by exfalso; omega, fun _ => ⟨hin, fun _ => ⟨fun q => by exfalso; omega, fun _ => ⟨hin, hp2⟩⟩, fun q => absurd q ne⟩⟩)
      rw [← h2, w_si_self] at key
      exact key
    · rintro z1 rfl
      refine ih (w_si s 2 (w_i t 18 + 1)) (w_si t 18 (w_i t 18 + 1)) post (h.pl (by omega) (by omega)) (by show (w_i t 17).toInt - (w_i t 18 + 1).toInt = _; omega) (fun q v v' q1 q2 hv hM => ?_)
      rw [w_si_si]
      have q1' : (w_i t 18 + 1).toInt ≤ q.toInt := q1
      refine hp q v v' (by omega) q2 hv (fun {p2} hp2 => ?_)
      show wpX6_nextByte_0 _ p2 _
      unfold wpX6_nextByte_0
      rw [t_le, t_cl hpl]
      refine ⟨fun q => by exfalso; omega, fun _ => ⟨hin, fun ne => absurd eq ne, fun _ => ?_⟩⟩
      rintro z1 rfl
      refine hM ?_
      rw [w_si_si]
      exact hp2
theorem b_next {s t : wSt} {post : Int32 → wSt → Prop} (h : TX s t) (hp : ∀ q v v', (w_i t 18).toInt ≤ q.toInt → q.toInt ≤ (w_i t 17).toInt → NV t q v v' → (∀ {p2 : Int32 → wSt → Prop}, p2 v' (w_si t 18 q) → wpX6_nextByte t p2) → post v (w_si s 2 q)) : wpX3_next s post := by
  obtain ⟨k, hk⟩ : ∃ k : Nat, (w_i t 17).toInt - (w_i t 18).toInt = (k : Int) := ⟨((w_i t 17).toInt - (w_i t 18).toInt).toNat, by have := h.2.2.2.1; omega⟩
  unfold wpX3_next
  exact ⟨k + 1, b_nextL k s t post h hk (fun q v v' q1 q2 hv hM => hp q v v' q1 q2 hv (fun {p2} hp2 => ⟨k + 1, hM hp2⟩))⟩
/-- where no blank stands the place stays -/
def NB (t : wSt) : Prop := ∃ v v', NV t (w_i t 18) v v'
theorem r_again {t : wSt} {v v' : Int32} {p2 : Int32 → wSt → Prop} (h : NV t (w_i t 18) v v') (h0 : 0 ≤ (w_i t 18).toInt ∧ (w_i t 17).toInt ≤ 60) (hp2 : p2 v' t) : wpX6_nextByte t p2 := by
  have n32 : (32 : Int32).toInt = 32 := by decide
  unfold wpX6_nextByte
  refine ⟨1, ?_⟩
  show wpX6_nextByte_0 _ p2 _
  unfold wpX6_nextByte_0 wpX6_nextByte_38
  rw [t_le]
  rcases h with ⟨e, e1, e2⟩ | ⟨l, e1, e2, e3, e4⟩
  · rw [e2] at hp2
    rw [e]
    exact ⟨fun _ => ⟨fun _ => hp2, fun q => by exfalso; omega⟩, fun q => by exfalso; omega⟩
  · have hin : vp_in (w_i t 18) 60 := t_in (by omega)
    rw [← e2]
    rw [← e1] at hp2
    exact ⟨fun q => by exfalso; omega, fun _ => ⟨hin, fun _ => ⟨fun q => by exfalso; omega, fun _ => ⟨hin, hp2⟩⟩, fun q => by rw [t_eq, n32] at q; exfalso; omega⟩⟩
theorem NV.at {t : wSt} {q v v' : Int32} (h : NV t q v v') : NV (w_si t 18 q) (w_i (w_si t 18 q) 18) v v' := h
-- a digit
theorem b_digit {a b : Int32} {s t : wSt} {post : Int32 → wSt → Prop} (h : TX s t) (hab : 0 ≤ a.toInt ∧ b.toInt ≤ 9) (h0 : ∀ q, (w_i t 18).toInt ≤ q.toInt → q.toInt ≤ (w_i t 17).toInt → NB (w_si t 18 q) → (∀ {p2 : Int32 → wSt → Prop}, p2 (-1) (w_si t 18 q) → wpX6_readDigit a b t p2) → post (-1) (w_si s 2 q)) (h1 : ∀ q d, (w_i t 18).toInt ≤ q.toInt → q.toInt ≤ (w_i t 17).toInt → (a.toInt ≤ d.toInt ∧ d.toInt ≤ b.toInt) → (∀ {p2 : Int32 → wSt → Prop}, p2 d (w_si t 18 q) → wpX6_readDigit a b t p2) → post d (w_si s 2 q)) : wpX3_readDigit a b s post := by
  have n1 := tn1
  have n48 : (48 : Int32).toInt = 48 := by decide
  unfold wpX3_readDigit
  refine b_next h (fun q v v' q1 q2 hv hM => ?_)
  rintro z1 rfl
  have hvr : -1 ≤ v.toInt ∧ v.toInt ≤ 126 := by
    rcases hv with ⟨-, e, -⟩ | ⟨-, -, -, e3, e4⟩
    · rw [e, tn0]; omega
    · omega
  have hvr' : (v = v' ∧ q.toInt < (w_i t 17).toInt) ∨ (v.toInt = 0 ∧ v'.toInt = -1) := by
    rcases hv with ⟨-, e, e'⟩ | ⟨e0, e, -, e3, e4⟩
    · exact Or.inr ⟨by rw [e, tn0], by rw [e', tnm1]⟩
    · exact Or.inl ⟨e, e0⟩
  have es : (v - 48).toInt = v.toInt - 48 := by rw [t_sub (by omega), n48]
  have es' : (v' - 48).toInt = v'.toInt - 48 := by
    rcases hvr' with ⟨e, -⟩ | e
    · rw [← e]; exact es
    · rw [t_sub (by omega), n48]
  refine q_within (fun w1 w2 => d1 ?_) (fun w => d0 (h0 q q1 q2 ⟨v, v', hv.at⟩ (fun {p2} hp2 => ?_)))
  · rintro z2 rfl
    have hq : q.toInt < (w_i t 17).toInt ∧ v = v' := by
      rcases hvr' with ⟨e, e'⟩ | e
      · exact ⟨e', e⟩
      · exfalso; omega
    have hq60 := h.2.2.1
    have hq0 := h.2.2.2.1
    have eq : (q + 1).toInt = q.toInt + 1 := by rw [t_add (by omega), n1]
    rw [w_ii, w_si_si]
    refine h1 (q + 1) (v - 48) (by omega) (by omega) ⟨w1, w2⟩ (fun {p2} hp2 => ?_)
    unfold wpX6_readDigit
    refine hM ?_
    rintro z1 rfl
    refine r_in ?_ ?_ <;> rw [t_l, t_l, t_l, ← hq.2]
    · intro _ _
      refine d1 ?_
      rintro z2 rfl
      rw [w_ii, w_si_si]
      exact hp2
    · exact fun w => absurd ⟨w1, w2⟩ w
  · unfold wpX6_readDigit
    refine hM ?_
    rintro z1 rfl
    refine r_in ?_ ?_ <;> rw [t_l, t_l, t_l]
    · intro u1 u2
      exfalso
      rcases hvr' with ⟨e, -⟩ | e
      · rw [← e] at u1 u2; exact w ⟨u1, u2⟩
      · omega
    · exact fun _ => d0 hp2
/-- the newcomers beside what the reference has read -/
def FI (f t : wSt) (i : Nat) : Prop := w_i f 4 = nI i ∧ ∀ j : Nat, j < i → (w_a f 0 j = w_a t 20 (3 * j) ∧ w_a f 1 j = w_a t 20 (3 * j + 1) ∧ w_a f 2 j = w_a t 20 (3 * j + 2) ∧ w_a f 3 j = 0) ∧ (0 ≤ (w_a f 0 j).toInt ∧ (w_a f 0 j).toInt ≤ 3) ∧ (-3 ≤ (w_a f 1 j).toInt ∧ (w_a f 1 j).toInt ≤ 3) ∧ 1 ≤ (w_a f 2 j).toInt ∧ (w_a f 2 j).toInt ≤ 9
theorem FI.eq {f t t' : wSt} {i : Nat} (h : FI f t i) (e : ∀ j, j < 3 * i → w_a t' 20 j = w_a t 20 j) : FI f t' i := ⟨h.1, fun j hj => by
  obtain ⟨⟨q0, q1, q2, q3⟩, q4⟩ := h.2 j hj
  rw [e _ (by omega), e _ (by omega), e _ (by omega)]
  exact ⟨⟨q0, q1, q2, q3⟩, q4⟩⟩
theorem FI.add {f t : wSt} {i : Nat} {k fe r : Int32} {post : Int32 → wSt → Prop} (h : FI f t i) (hi : i < 6) (ek : w_a t 20 (3 * i) = k) (ef : w_a t 20 (3 * i + 1) = fe) (er : w_a t 20 (3 * i + 2) = r) (hk : 0 ≤ k.toInt ∧ k.toInt ≤ 3) (hfe : -3 ≤ fe.toInt ∧ fe.toInt ≤ 3) (hr : 1 ≤ r.toInt ∧ r.toInt ≤ 9) (hp : ∀ f', FI f' t (i + 1) → post (nI i) f') : wpX0_add k fe r f post := by
  have ei : (nI i).toInt = (i : Int) := nI_toInt (by omega)
  have hin : vp_in (nI i) 6 := t_in (by omega)
  unfold wpX0_add
  rw [h.1, t_lt, tn6, ei, t_cl ei]
  refine ⟨fun _ => ⟨hin, ?_⟩, fun q => by exfalso; omega⟩
  rintro z1 rfl
  refine ⟨hin, ?_⟩
  rintro z2 rfl
  refine ⟨hin, ?_⟩
  rintro z3 rfl
  refine ⟨hin, ?_⟩
  rintro z4 rfl
  rintro z5 rfl
  refine hp _ ⟨nI_1 i, fun j hj => ?_⟩
  show (upd (w_a f 0) i k j = _ ∧ upd (w_a f 1) i fe j = _ ∧ upd (w_a f 2) i r j = _ ∧ upd (w_a f 3) i 0 j = 0) ∧ (0 ≤ (upd (w_a f 0) i k j).toInt ∧ (upd (w_a f 0) i k j).toInt ≤ 3) ∧ (-3 ≤ (upd (w_a f 1) i fe j).toInt ∧ (upd (w_a f 1) i fe j).toInt ≤ 3) ∧ 1 ≤ (upd (w_a f 2) i r j).toInt ∧ (upd (w_a f 2) i r j).toInt ≤ 9
  simp only [g_u]
  by_cases c : j = i
  · subst c
    simp only [if_pos rfl]
    exact ⟨⟨ek.symm, ef.symm, er.symm, rfl⟩, hk, hfe, hr⟩
  · simp only [if_neg c]
    exact h.2 j (by omega)
