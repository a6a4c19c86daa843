theorem TX.sa {s t : wSt} {g : Nat → Int32} (h : TX s t) : TX s (w_sa t 20 g) := h
theorem NV.eqc {t : wSt} {q v v' : Int32} (h : NV t q v v') (c : Int32) (hc : 1 ≤ c.toInt) : v = c ↔ v' = c := by
  rcases h with ⟨-, e, e'⟩ | ⟨-, e, -⟩
  · rw [e, e', t_eq, t_eq, tn0, tnm1]; omega
  · rw [e]
theorem NV.lt {t : wSt} {q v v' : Int32} (h : NV t q v v') {c : Int32} (hv : v = c) (hc : 1 ≤ c.toInt) : q.toInt < (w_i t 17).toInt := by
  rcases h with ⟨-, e, -⟩ | ⟨l, -⟩
  · rw [← hv, e, tn0] at hc; omega
  · exact l
theorem n114 : (114 : Int32).toInt = 114 := by decide
theorem n43 : (43 : Int32).toInt = 43 := by decide
theorem n45 : (45 : Int32).toInt = 45 := by decide
theorem n109 : (109 : Int32).toInt = 109 := by decide
theorem n112 : (112 : Int32).toInt = 112 := by decide
theorem n115 : (115 : Int32).toInt = 115 := by decide
theorem n118 : (118 : Int32).toInt = 118 := by decide
theorem u_ne {f : Nat → Int32} {k j : Nat} {v : Int32} (h : j ≠ k) : upd f k v j = f j := by rw [g_u, if_neg h]
theorem u_eq {f : Nat → Int32} {k : Nat} {v : Int32} : upd f k v k = v := by rw [g_u, if_pos rfl]
/-- the rests, and who has been read -/
theorem b_rests {s t f : wSt} {i : Nat} {k fe b : Int32} {post : Int32 → wSt × wSt → Prop} (h : TX s t) (hi : i < 6) (hb : b.toInt = ((3 * i : Nat) : Int)) (hF : FI f t i) (ek : w_a t 20 (3 * i) = k) (ef : w_a t 20 (3 * i + 1) = fe) (hk : 0 ≤ k.toInt ∧ k.toInt ≤ 3) (hfe : -3 ≤ fe.toInt ∧ fe.toInt ≤ 3)
    (hp0 : ∀ s' t', TX s' t' → NB t' → MF [18] [20] t t' → (∀ {p2 : Int32 → wSt → Prop}, p2 0 t' → wpX6_readOne_146 p2 b t) → post 0 (s', f))
    (hp1 : ∀ s' t' f', TX s' t' → MF [18] [20] t t' → FI f' t' (i + 1) → (∀ {p2 : Int32 → wSt → Prop}, p2 1 t' → wpX6_readOne_146 p2 b t) → post 1 (s', f')) : wpX3_readOne_87 post k fe (s, f) := by
  have n1 := tn1
  have n2 := tn2
  have e2 : (b + 2).toInt = ((3 * i + 2 : Nat) : Int) := by rw [t_add (by omega)]; omega
  have hin : vp_in (b + 2) 24 := t_in (by omega)
  have h60 := h.2.2.1
  have hpl := h.2.2.2.1
  obtain ⟨T, eT⟩ : ∃ T, T = w_sa t 20 (upd (w_a t 20) (3 * i + 2) 1) := ⟨_, rfl⟩
  have hT : TX s T := by rw [eT]; exact h
  have FT : MF [18] [20] t T := by rw [eT]; exact MF.sa.up (by decide) (by decide)
  have aT : w_a T 20 = upd (w_a t 20) (3 * i + 2) 1 := by rw [eT, w_ai]
  have e17 : w_i T 17 = w_i t 17 := FT.1 17 (by decide)
  unfold wpX3_readOne_87
  refine b_next hT (fun q v v' q1 q2 hv hM => ?_)
  rw [e17] at q2
  have hc := hv.eqc 114 (by rw [n114]; omega)
  have q0 : 0 ≤ q.toInt := by have := hT.2.2.2.1; omega
  have add1 : ∀ (U : wSt) (r : Int32) (s1 : wSt), TX s1 U → MF [18] [20] t U → (∀ j, j < 3 * i + 2 → w_a U 20 j = w_a t 20 j) → w_a U 20 (3 * i + 2) = r → (1 ≤ r.toInt ∧ r.toInt ≤ 9) → (∀ {p2 : Int32 → wSt → Prop}, p2 1 U → wpX6_readOne_146 p2 b t) → wpX3_readOne_125 post k fe r (s1, f) := by
    intro U r s1 hU FU aU aU2 hr hMU
    unfold wpX3_readOne_125
    refine FI.add (t := U) (hF.eq (fun j hj => aU j (by omega))) hi (by rw [aU _ (by omega)]; exact ek) (by rw [aU _ (by omega)]; exact ef) aU2 hk hfe hr (fun f' hf' => ?_)
    rintro z1 rfl
    rw [t_lt, tn0, nI_toInt (by omega)]
    exact ⟨fun q => by exfalso; omega, fun _ => hp1 s1 U f' hU FU hf' hMU⟩
  have k189 : ∀ (U : wSt) (r : Int32) {p2 : Int32 → wSt → Prop}, w_a U 20 (3 * i + 2) = r → (r.toInt ≤ 0 → p2 0 U) → (1 ≤ r.toInt → p2 1 U) → wpX6_readOne_189 p2 b U := by
    intro U r p2 er g0 g1
    unfold wpX6_readOne_189
    rw [t_cl e2, er, t_le, tn0]
    exact ⟨hin, fun c => g0 c, fun c => g1 (by omega)⟩
  have kM : ∀ {p2 : Int32 → wSt → Prop}, (¬ v' = (114 : Int32) → (wpX6_readOne_189  p2 b (w_si T 18 q))) → (v' = (114 : Int32) → (wpX6_readDigit (1 : Int32) (9 : Int32) (w_si T 18 (q + 1)) (fun r2 u => ∀ z4 : wSt, z4 = u → (vp_in (b + (2 : Int32)) 24 ∧ ∀ z5 : wSt, z5 = (w_sa z4 20 (upd (w_a z4 20) (b + (2 : Int32)).toNatClampNeg r2)) → (wpX6_readOne_189  p2 b z5))))) → wpX6_readOne_146 p2 b t := by
    intro p2 g1 g2
    unfold wpX6_readOne_146
    rw [t_cl e2]
    refine ⟨hin, ?_⟩
    intro z1 e
    rw [← eT] at e
    subst e
    refine hM ?_
    rintro z2 rfl
    refine ⟨fun c => g1 c, fun c => ?_⟩
    rintro z3 rfl
    rw [w_ii, w_si_si]
    rw [← t_cl e2]
    exact g2 c
  rintro z1 rfl
  refine ⟨fun ne => ?_, fun eq => ?_⟩
  · refine add1 (w_si T 18 q) 1 _ (hT.pl q0 (by rw [e17]; omega)) ((FT.tr MF.si).up (by decide) (by decide)) (fun j hj => ?_) ?_ (by omega) (fun {p2} hp2 => kM (fun _ => k189 _ 1 ?_ (fun q => by exfalso; omega) (fun _ => hp2)) (fun q => absurd (hc.mpr q) ne))
    · rw [g_ai, aT, u_ne (by omega)]
    · rw [g_ai, aT, u_eq]
    · rw [g_ai, aT, u_eq]
  · have hlt := hv.lt eq (by rw [n114]; omega)
    have eq1 : (q + 1).toInt = q.toInt + 1 := by rw [t_add (by omega), n1]
    rw [e17] at hlt
    rintro z2 rfl
    rw [w_ii, w_si_si]
    refine b_digit (t := w_si T 18 (q + 1)) (hT.pl (by omega) (by rw [e17]; omega)) (by rw [n1, tn9]; omega) (fun q' p1 p2' hNB hM2 => ?_) (fun q' d p1 p2' hd hM2 => ?_)
    · rintro z3 rfl
      have p1' : (q + 1).toInt ≤ q'.toInt := p1
      have p2'' : q'.toInt ≤ (w_i T 17).toInt := p2'
      rw [t_le, tn0, tnm1]
      refine ⟨fun q => by exfalso; omega, fun _ => ?_⟩
      rw [w_si_si]
      refine hp0 _ (w_sa (w_si T 18 q') 20 (upd (w_a (w_si T 18 q') 20) (3 * i + 2) (-1))) (hT.pl (by omega) p2'') ?_ ((FT.tr (MF.si.tr MF.sa)).up (by decide) (by decide)) (fun {p2} hp2 => kM (fun ne => absurd (hc.mp eq) ne) (fun _ => hM2 ?_))
      · rw [w_si_si] at hNB
        exact hNB
      · rintro z4 rfl
        refine ⟨hin, ?_⟩
        rw [t_cl e2, w_si_si]
        rintro z5 rfl
        refine k189 _ (-1) ?_ (fun _ => hp2) (fun q => by rw [tnm1] at q; exfalso; omega)
        rw [w_ai, u_eq]
    · rintro z3 rfl
      have p1' : (q + 1).toInt ≤ q'.toInt := p1
      have p2'' : q'.toInt ≤ (w_i T 17).toInt := p2'
      rw [n1, tn9] at hd
      rw [t_le, tn0]
      refine ⟨fun _ => ?_, fun q => by exfalso; omega⟩
      rw [w_si_si]
      refine add1 (w_sa (w_si T 18 q') 20 (upd (w_a (w_si T 18 q') 20) (3 * i + 2) d)) d _ (hT.pl (by omega) p2'') ((FT.tr (MF.si.tr MF.sa)).up (by decide) (by decide)) (fun j hj => ?_) ?_ hd (fun {p2} hp2 => kM (fun ne => absurd (hc.mp eq) ne) (fun _ => hM2 ?_))
      · rw [w_ai, u_ne (by omega), g_ai, aT, u_ne (by omega)]
      · rw [w_ai, u_eq]
      · rintro z4 rfl
        refine ⟨hin, ?_⟩
        rw [t_cl e2, w_si_si]
        rintro z5 rfl
        refine k189 _ d ?_ (fun q => by exfalso; omega) (fun _ => hp2)
        rw [w_ai, u_eq]
/-- what is felt -/
theorem b_feels {s t f : wSt} {i : Nat} {k b v : Int32} {post : Int32 → wSt × wSt → Prop} (h : TX s t) (hlt : (w_i t 18).toInt < (w_i t 17).toInt) (hv : v = 43 ∨ v = 45) (hi : i < 6) (hb : b.toInt = ((3 * i : Nat) : Int)) (hF : FI f t i) (ek : w_a t 20 (3 * i) = k) (hk : 0 ≤ k.toInt ∧ k.toInt ≤ 3)
    (hp0 : ∀ s' t', TX s' t' → NB t' → MF [18] [20] t t' → (∀ {p2 : Int32 → wSt → Prop}, p2 0 t' → wpX6_readOne_99 p2 b v t) → post 0 (s', f))
    (hp1 : ∀ s' t' f', TX s' t' → MF [18] [20] t t' → FI f' t' (i + 1) → (∀ {p2 : Int32 → wSt → Prop}, p2 1 t' → wpX6_readOne_99 p2 b v t) → post 1 (s', f')) : wpX3_readOne_46 post k v (s, f) := by
  have n1 := tn1
  have e2 : (b + 1).toInt = ((3 * i + 1 : Nat) : Int) := by rw [t_add (by omega)]; omega
  have hin : vp_in (b + 1) 24 := t_in (by omega)
  obtain ⟨h1, h2, h60, hpl, -⟩ := id h
  have eq1 : (w_i t 18 + 1).toInt = (w_i t 18).toInt + 1 := by rw [t_add (by omega), n1]
  unfold wpX3_readOne_46
  rintro z1 rfl
  have hT : TX (w_si s 2 (w_i s 2 + 1)) (w_si t 18 (w_i t 18 + 1)) := by rw [h2]; exact h.pl (by omega) (by omega)
  refine b_digit (t := w_si t 18 (w_i t 18 + 1)) hT (by rw [tn0, tn3]; omega) (fun q' p1 p2' hNB hM2 => ?_) (fun q' d p1 p2' hd hM2 => ?_)
  · rintro z3 rfl
    have p1' : (w_i t 18 + 1).toInt ≤ q'.toInt := p1
    have p2'' : q'.toInt ≤ (w_i t 17).toInt := p2'
    rw [t_le, tn0, tnm1]
    refine ⟨fun q => by exfalso; omega, fun _ => ?_⟩
    rw [w_si_si]
    rw [w_si_si] at hNB
    refine hp0 _ (w_si t 18 q') (h.pl (by omega) p2'') hNB (MF.si.up (by decide) (by decide)) (fun {p2} hp2 => ?_)
    unfold wpX6_readOne_99
    rintro z1 rfl
    refine hM2 ?_
    rintro z2 rfl
    rw [w_si_si, t_le, tn0, tnm1]
    exact ⟨fun q => by exfalso; omega, fun _ => hp2⟩
  · rintro z3 rfl
    have p1' : (w_i t 18 + 1).toInt ≤ q'.toInt := p1
    have p2'' : q'.toInt ≤ (w_i t 17).toInt := p2'
    rw [tn0, tn3] at hd
    have en : (-d).toInt = -d.toInt := t_neg (by omega)
    rw [t_le, tn0, w_si_si]
    have go : ∀ (fe : Int32), (-3 ≤ fe.toInt ∧ fe.toInt ≤ 3) → (∀ {p2 : Int32 → wSt → Prop}, wpX6_readOne_145 p2 b fe (b + 1) (w_si t 18 q') → wpX6_readOne_99 p2 b v t) → wpX3_readOne_86 post k fe (w_si s 2 q', f) := by
      intro fe hfe hM3
      unfold wpX3_readOne_86
      have kM : ∀ {p2 : Int32 → wSt → Prop}, wpX6_readOne_146 p2 b (w_sa (w_si t 18 q') 20 (upd (w_a (w_si t 18 q') 20) (3 * i + 1) fe)) → wpX6_readOne_99 p2 b v t := by
        intro p2 hh
        refine hM3 ?_
        unfold wpX6_readOne_145
        rw [t_cl e2]
        refine ⟨hin, ?_⟩
        rintro z1 rfl
        exact hh
      have FU : MF [18] [20] t (w_sa (w_si t 18 q') 20 (upd (w_a (w_si t 18 q') 20) (3 * i + 1) fe)) := (MF.si.tr MF.sa).up (by decide) (by decide)
      refine b_rests (t := w_sa (w_si t 18 q') 20 (upd (w_a (w_si t 18 q') 20) (3 * i + 1) fe)) (h.pl (by omega) p2'') hi hb (hF.eq (fun j hj => ?_)) ?_ ?_ hk hfe (fun s' t' a1 a2 a3 a4 => hp0 s' t' a1 a2 ((FU.tr a3).up (by decide) (by decide)) (fun {p2} hp2 => kM (a4 hp2))) (fun s' t' f' a1 a2 a3 a4 => hp1 s' t' f' a1 ((FU.tr a2).up (by decide) (by decide)) a3 (fun {p2} hp2 => kM (a4 hp2)))
      · rw [w_ai, u_ne (by omega)]; rfl
      · rw [w_ai, u_ne (by omega)]; exact ek
      · rw [w_ai, u_eq]
    have kM99 : ∀ {p2 : Int32 → wSt → Prop}, (¬ v = 43 → wpX6_readOne_145 p2 b (-d) (b + 1) (w_si t 18 q')) → (v = 43 → wpX6_readOne_145 p2 b d (b + 1) (w_si t 18 q')) → wpX6_readOne_99 p2 b v t := by
      intro p2 g1 g2
      unfold wpX6_readOne_99
      rintro z1 rfl
      refine hM2 ?_
      rintro z2 rfl
      rw [w_si_si, t_le, tn0]
      exact ⟨fun _ => ⟨g1, g2⟩, fun q => by exfalso; omega⟩
    refine ⟨fun _ => ⟨fun ne => go d (by omega) (fun {p2} hh => kM99 (fun q => ?_) (fun _ => hh)), fun eq => go (-d) (by omega) (fun {p2} hh => kM99 (fun _ => hh) (fun q => ?_))⟩, fun q => by exfalso; omega⟩
    · rcases hv with e | e
      · exact absurd e q
      · exact absurd e ne
    · rw [q, t_eq, n43, n45] at eq; exfalso; omega
theorem q_kindBy {v : Int32} {post : Int32 → Prop} (h : ∀ r : Int32, ((v = 112 ∧ r = 0) ∨ (v = 115 ∧ r = 1) ∨ (v = 118 ∧ r = 2) ∨ (v = 109 ∧ r = 3) ∨ ((v ≠ 112 ∧ v ≠ 115 ∧ v ≠ 118 ∧ v ≠ 109) ∧ r = -1)) → post r) : wpX3_kindBy v post := by
  unfold wpX3_kindBy
  refine ⟨fun c => h _ (Or.inr (Or.inr (Or.inr (Or.inr ⟨?_, rfl⟩)))), fun c => h _ (Or.inr (Or.inr (Or.inr (Or.inl ⟨c, rfl⟩)))), fun c => h _ (Or.inr (Or.inr (Or.inr (Or.inr ⟨?_, rfl⟩)))), fun c => h _ (Or.inr (Or.inr (Or.inr (Or.inr ⟨?_, rfl⟩)))), fun c => h _ (Or.inl ⟨c, rfl⟩), fun c => h _ (Or.inr (Or.inr (Or.inr (Or.inr ⟨?_, rfl⟩)))), fun c => h _ (Or.inr (Or.inr (Or.inr (Or.inr ⟨?_, rfl⟩)))), fun c => h _ (Or.inr (Or.inl ⟨c, rfl⟩)), fun c => h _ (Or.inr (Or.inr (Or.inr (Or.inr ⟨?_, rfl⟩)))), fun c => h _ (Or.inr (Or.inr (Or.inr (Or.inr ⟨?_, rfl⟩)))), fun c => h _ (Or.inr (Or.inr (Or.inl ⟨c, rfl⟩)))⟩
  · refine ⟨fun e => ?_, fun e => ?_, fun e => ?_, fun e => ?_⟩ <;> (rw [e] at c; first | rw [n112] at c | rw [n115] at c | rw [n118] at c | rw [n109] at c) <;> omega
  all_goals (rw [c]; decide)
/-- one is read on both sides -/
theorem b_one {s t f : wSt} {i : Nat} {b : Int32} {post : Int32 → wSt × wSt → Prop} (h : TX s t) (hi : i < 6) (hb : b.toInt = ((3 * i : Nat) : Int)) (hF : FI f t i)
    (hp0 : ∀ s' t', TX s' t' → NB t' → MF [18] [20] t t' → (∀ {p2 : Int32 → wSt → Prop}, p2 0 t' → wpX6_readOne b t p2) → post 0 (s', f))
    (hp1 : ∀ s' t' f', TX s' t' → MF [18] [20] t t' → FI f' t' (i + 1) → (∀ {p2 : Int32 → wSt → Prop}, p2 1 t' → wpX6_readOne b t p2) → post 1 (s', f')) : wpX3_readOne (s, f) post := by
  have n1 := tn1
  have e1 : (b + 1).toInt = ((3 * i + 1 : Nat) : Int) := by rw [t_add (by omega)]; omega
  have hin1 : vp_in (b + 1) 24 := t_in (by omega)
  have hin : vp_in b 24 := t_in (by omega)
  have h60 := h.2.2.1
  have hpl := h.2.2.2.1
  unfold wpX3_readOne
  refine b_next h (fun q v v' q1 q2 hv hM => ?_)
  rintro z1 rfl
  refine q_kindBy (fun k hk => ?_)
  have kM : ∀ {p2 : Int32 → wSt → Prop}, wpX6_readOne_51 p2 b k b (w_si t 18 q) → wpX6_readOne b t p2 := by
    intro p2 hh
    unfold wpX6_readOne
    refine hM ?_
    rintro z1 rfl
    have c112 := hv.eqc 112 (by rw [n112]; omega)
    have c115 := hv.eqc 115 (by rw [n115]; omega)
    have c118 := hv.eqc 118 (by rw [n118]; omega)
    have c109 := hv.eqc 109 (by rw [n109]; omega)
    rw [← c112, ← c115, ← c118, ← c109]
    rcases hk with ⟨e, ek⟩ | ⟨e, ek⟩ | ⟨e, ek⟩ | ⟨e, ek⟩ | ⟨⟨m1, m2, m3, m4⟩, ek⟩ <;> rw [ek] at hh
    · exact ⟨fun q => absurd e q, fun _ => hh⟩
    · exact ⟨fun _ => ⟨fun q => absurd e q, fun _ => hh⟩, fun q => by rw [e] at q; exact absurd q (by decide)⟩
    · exact ⟨fun _ => ⟨fun _ => ⟨fun q => absurd e q, fun _ => hh⟩, fun q => by rw [e] at q; exact absurd q (by decide)⟩, fun q => by rw [e] at q; exact absurd q (by decide)⟩
    · exact ⟨fun _ => ⟨fun _ => ⟨fun _ => ⟨fun q => absurd e q, fun _ => hh⟩, fun q => by rw [e] at q; exact absurd q (by decide)⟩, fun q => by rw [e] at q; exact absurd q (by decide)⟩, fun q => by rw [e] at q; exact absurd q (by decide)⟩
    · exact ⟨fun _ => ⟨fun _ => ⟨fun _ => ⟨fun _ => hh, fun q => absurd q m4⟩, fun q => absurd q m3⟩, fun q => absurd q m2⟩, fun q => absurd q m1⟩
  have hkr : (k = -1) ∨ ((0 ≤ k.toInt ∧ k.toInt ≤ 3) ∧ q.toInt < (w_i t 17).toInt) := by
    rcases hk with ⟨e, ek⟩ | ⟨e, ek⟩ | ⟨e, ek⟩ | ⟨e, ek⟩ | ⟨-, ek⟩
    · exact Or.inr ⟨by rw [ek]; decide, hv.lt e (by decide)⟩
    · exact Or.inr ⟨by rw [ek]; decide, hv.lt e (by decide)⟩
    · exact Or.inr ⟨by rw [ek]; decide, hv.lt e (by decide)⟩
    · exact Or.inr ⟨by rw [ek]; decide, hv.lt e (by decide)⟩
    · exact Or.inl ek
  rw [t_le, tn0]
  rcases hkr with ek | ⟨hk3, hlt⟩
  · rw [ek] at kM ⊢
    rw [tnm1]
    refine ⟨fun q => by exfalso; omega, fun _ => ?_⟩
    refine hp0 _ (w_sa (w_si t 18 q) 20 (upd (w_a (w_si t 18 q) 20) (3 * i) (-1))) (h.pl (by omega) (by omega)) ⟨v, v', hv.at⟩ ((MF.si.tr MF.sa).up (by decide) (by decide)) (fun {p2} hp2 => kM ?_)
    unfold wpX6_readOne_51
    refine ⟨hin, ?_⟩
    rw [t_cl hb]
    rintro z1 rfl
    rw [w_ai, u_eq, t_le, tn0, tnm1]
    exact ⟨hin, fun q => by exfalso; omega, fun _ => hp2⟩
  · refine ⟨fun _ => ?_, fun q => by exfalso; omega⟩
    have eq1 : (q + 1).toInt = q.toInt + 1 := by rw [t_add (by omega), n1]
    rintro z2 rfl
    rw [w_ii, w_si_si]
    obtain ⟨T, eT⟩ : ∃ T, T = w_sa (w_si (w_sa (w_si t 18 q) 20 (upd (w_a (w_si t 18 q) 20) (3 * i) k)) 18 (q + 1)) 20 (upd (w_a (w_si (w_sa (w_si t 18 q) 20 (upd (w_a (w_si t 18 q) 20) (3 * i) k)) 18 (q + 1)) 20) (3 * i + 1) 0) := ⟨_, rfl⟩
    have hT : TX (w_si s 2 (q + 1)) T := by
      rw [eT]
      exact h.pl (q := q + 1) (by omega) (by omega)
    have FT : MF [18] [20] t T := by rw [eT]; exact (((MF.si.tr MF.sa).tr MF.si).tr MF.sa).up (by decide) (by decide)
    have e17 : w_i T 17 = w_i t 17 := FT.1 17 (by decide)
    have e18 : w_i T 18 = q + 1 := by rw [eT]; rfl
    have aT : ∀ j, w_a T 20 j = if j = 3 * i + 1 then 0 else if j = 3 * i then k else w_a t 20 j := by rw [eT]; intro j; rfl
    refine b_next hT (fun q' u u' p1 p2' hu hM2 => ?_)
    rw [e18] at p1
    rw [e17] at p2'
    rintro z3 rfl
    rw [w_si_si]
    have hU : TX (w_si s 2 q') (w_si T 18 q') := by
      have := hT.pl (q := q') (by omega) (by rw [e17]; omega)
      rw [w_si_si] at this
      exact this
    have FU : MF [18] [20] t (w_si T 18 q') := (FT.tr MF.si).up (by decide) (by decide)
    have hFU : FI f (w_si T 18 q') i := hF.eq (fun j hj => by rw [g_ai, aT, if_neg (by omega), if_neg (by omega)])
    have a0 : w_a (w_si T 18 q') 20 (3 * i) = k := by rw [g_ai, aT, if_neg (by omega), if_pos rfl]
    have a1 : w_a (w_si T 18 q') 20 (3 * i + 1) = 0 := by rw [g_ai, aT, if_pos rfl]
    have kM2 : ∀ {p2 : Int32 → wSt → Prop}, (u' = 43 → wpX6_readOne_99 p2 b u' (w_si T 18 q')) → (¬ u' = 43 → u' = 45 → wpX6_readOne_99 p2 b u' (w_si T 18 q')) → (¬ u' = 43 → ¬ u' = 45 → wpX6_readOne_146 p2 b (w_si T 18 q')) → wpX6_readOne b t p2 := by
      intro p2 g1 g2 g3
      refine kM ?_
      unfold wpX6_readOne_51
      refine ⟨hin, ?_⟩
      rw [t_cl hb]
      rintro z1 rfl
      rw [w_ai, u_eq, t_le, tn0]
      refine ⟨hin, fun _ => ?_, fun q => by exfalso; omega⟩
      rintro z2 rfl
      refine ⟨hin1, ?_⟩
      rw [t_cl e1]
      intro z3 e
      have e' : z3 = T := by rw [e, eT]; rfl
      clear e
      subst e'
      refine hM2 ?_
      rintro z4 rfl
      exact ⟨fun c => g1 c, fun c => ⟨fun d => g3 c d, fun d => g2 c d⟩⟩
    have c43 := hu.eqc 43 (by rw [n43]; omega)
    have c45 := hu.eqc 45 (by rw [n45]; omega)
    have feel : (u = 43 ∨ u = 45) → wpX3_readOne_46 post k u (w_si s 2 q', f) := by
      intro hc
      have hltu : q'.toInt < (w_i T 17).toInt := by
        rcases hc with c | c
        · exact hu.lt c (by rw [n43]; omega)
        · exact hu.lt c (by rw [n45]; omega)
      have euu : u' = u := by
        rcases hc with c | c
        · rw [c]; exact c43.mp c
        · rw [c]; exact c45.mp c
      have kM3 : ∀ {p2 : Int32 → wSt → Prop}, wpX6_readOne_99 p2 b u (w_si T 18 q') → wpX6_readOne b t p2 := by
        intro p2 hh
        rw [← euu] at hh
        refine kM2 (fun _ => hh) (fun _ _ => hh) (fun m1 m2 => ?_)
        rcases hc with c | c
        · exact absurd (c43.mp c) m1
        · exact absurd (c45.mp c) m2
      exact b_feels hU hltu hc hi hb hFU a0 hk3 (fun s' t' x1 x2 x3 x4 => hp0 s' t' x1 x2 ((FU.tr x3).up (by decide) (by decide)) (fun {p2} hp2 => kM3 (x4 hp2))) (fun s' t' f' x1 x2 x3 x4 => hp1 s' t' f' x1 ((FU.tr x2).up (by decide) (by decide)) x3 (fun {p2} hp2 => kM3 (x4 hp2)))
    refine ⟨fun c => feel (Or.inl c), fun c => ⟨fun d => ?_, fun d => feel (Or.inr d)⟩⟩
    have kM3 : ∀ {p2 : Int32 → wSt → Prop}, wpX6_readOne_146 p2 b (w_si T 18 q') → wpX6_readOne b t p2 := by
      intro p2 hh
      exact kM2 (fun q => absurd (c43.mpr q) c) (fun _ q => absurd (c45.mpr q) d) (fun _ _ => hh)
    exact b_rests hU hi hb hFU a0 a1 hk3 (by rw [tn0]; omega) (fun s' t' x1 x2 x3 x4 => hp0 s' t' x1 x2 ((FU.tr x3).up (by decide) (by decide)) (fun {p2} hp2 => kM3 (x4 hp2))) (fun s' t' f' x1 x2 x3 x4 => hp1 s' t' f' x1 ((FU.tr x2).up (by decide) (by decide)) x3 (fun {p2} hp2 => kM3 (x4 hp2)))
