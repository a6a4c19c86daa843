theorem q_isSheet {x : Int32} {post : Int32 → Prop} (h1 : 0 ≤ x.toInt → x.toInt ≤ 3 → post 1) (h0 : ¬ (0 ≤ x.toInt ∧ x.toInt ≤ 3) → post 0) : wpX5_isSheet x post := by
  unfold wpX5_isSheet
  refine q_within ?_ ?_ <;> rw [tn0, tn3]
  · exact fun a b => ⟨nz1, h1 a b⟩
  · exact fun a => ⟨nz0, h0 a⟩
theorem q_isLane {x : Int32} {post : Int32 → Prop} (h1 : 0 ≤ x.toInt → x.toInt ≤ 2 → post 1) (h0 : ¬ (0 ≤ x.toInt ∧ x.toInt ≤ 2) → post 0) : wpX5_isLane x post := by
  unfold wpX5_isLane
  refine q_within ?_ ?_ <;> rw [tn0, tn2]
  · exact fun a b => ⟨nz1, h1 a b⟩
  · exact fun a => ⟨nz0, h0 a⟩
theorem r_in3 {x : Int32} {post : Int32 → Prop} (h1 : 0 ≤ x.toInt → x.toInt ≤ 3 → post 1) (h0 : ¬ (0 ≤ x.toInt ∧ x.toInt ≤ 3) → post 0) : wpX6_in x.toInt64 0 3 post := by
  refine r_in ?_ ?_ <;> rw [t_l, ln0, ln3]
  · exact h1
  · exact h0
theorem r_isSheet {x y : Int32} {post : Int32 → Prop} (h1 : (0 ≤ x.toInt ∧ x.toInt ≤ 3) → (0 ≤ y.toInt ∧ y.toInt ≤ 2) → post 1) (h0 : ¬ ((0 ≤ x.toInt ∧ x.toInt ≤ 3) ∧ 0 ≤ y.toInt ∧ y.toInt ≤ 2) → post 0) : wpX6_isSheet x y post := by
  unfold wpX6_isSheet
  refine r_in3 (fun a b => c1 (r_in ?_ ?_)) (fun a => c0 (h0 (fun q => a q.1))) <;> rw [t_l, ln0, ln2]
  · exact fun c d => c1 (h1 ⟨a, b⟩ ⟨c, d⟩)
  · exact fun c => c0 (h0 (fun q => c q.2))
/-- a sheet is there -/
def PS (x t : wSt) (n : Nat) : Prop := w_i x 1 = 1 ∧ w_i x 2 = w_a t 32 n ∧ w_i x 3 = w_a t 33 n ∧ (0 ≤ (w_a t 32 n).toInt ∧ (w_a t 32 n).toInt ≤ 2) ∧ (0 ≤ (w_a t 33 n).toInt ∧ (w_a t 33 n).toInt ≤ 24) ∧ ∀ i : Nat, i < 24 → w_l x 0 i = w_l t 34 (24 * n + i)
theorem q_hasSpan {a b : Int32} {x : wSt} {post : Int32 → Prop} (hl : 0 ≤ (w_i x 3).toInt ∧ (w_i x 3).toInt ≤ 24) (h1 : 0 ≤ b.toInt → 0 ≤ a.toInt → a.toInt + b.toInt ≤ (w_i x 3).toInt → post 1) (h0 : ¬ (0 ≤ b.toInt ∧ 0 ≤ a.toInt ∧ a.toInt + b.toInt ≤ (w_i x 3).toInt) → post 0) : wpX2_hasSpan a b x post := by
  have hb := t_rng b
  unfold wpX2_hasSpan
  simp only [t_lt, tn0]
  refine ⟨fun c => h0 (by omega), fun c => ⟨fun d => h0 (by omega), fun d => ?_⟩⟩
  rw [t_sub (by omega)]
  exact ⟨fun e => h0 (by omega), fun e => h1 (by omega) (by omega) (by omega)⟩
theorem q_refusal {x1 x2 x3 x4 : Int32} {x : wXS} {t : wSt} {post : Int32 → Prop} (h : REL x t) (h4 : 0 ≤ x4.toInt ∧ x4.toInt ≤ 100) (bad : ¬ ((0 ≤ x1.toInt ∧ x1.toInt ≤ 3) ∧ 0 ≤ x2.toInt ∧ x2.toInt ≤ 2) → post (-1)) (null : ∀ n : Nat, x1.toInt = (n : Int) → n < 4 → (0 ≤ x2.toInt ∧ x2.toInt ≤ 2) → (w_a t 32 n).toInt = -1 → post (-11)) (cast : ∀ n : Nat, x1.toInt = (n : Int) → n < 4 → (0 ≤ x2.toInt ∧ x2.toInt ≤ 2) → PS (x_h x n) t n → w_a t 32 n ≠ x2 → post (-12)) (index : ∀ n : Nat, x1.toInt = (n : Int) → n < 4 → (0 ≤ x2.toInt ∧ x2.toInt ≤ 2) → PS (x_h x n) t n → w_a t 32 n = x2 → ¬ (0 ≤ x3.toInt ∧ x3.toInt + x4.toInt ≤ (w_a t 33 n).toInt) → post (-13)) (ok : ∀ n : Nat, x1.toInt = (n : Int) → n < 4 → (0 ≤ x2.toInt ∧ x2.toInt ≤ 2) → PS (x_h x n) t n → w_a t 32 n = x2 → (0 ≤ x3.toInt ∧ x3.toInt + x4.toInt ≤ (w_a t 33 n).toInt) → post 0) : wpX5_refusal x1 x2 x3 x4 x post := by
  unfold wpX5_refusal
  refine q_isSheet (fun a b => c1 (q_isLane (fun c d => d1 ?_) (fun c => d0 (bad (fun q => c q.2))))) (fun a => c0 (bad (fun q => a q.1)))
  obtain ⟨n, hn⟩ := nat_of a
  have hin : vp_in x1 4 := t_in (by omega)
  rw [t_cl hn]
  refine ⟨hin, fun e => ⟨hin, fun f => ⟨hin, ?_⟩, fun f => ?_⟩, fun e => ?_⟩
  · rcases h.2.2.2 n (by omega) with ⟨g, -⟩ | g
    · exact absurd g e
    · refine q_hasSpan (by rw [g.2.2.1]; exact g.2.2.2.2.1) (fun p q r => c1 (ok n hn (by omega) ⟨c, d⟩ g (by rw [← g.2.1]; exact f) (by rw [← g.2.2.1]; omega))) (fun p => c0 (index n hn (by omega) ⟨c, d⟩ g (by rw [← g.2.1]; exact f) (by rw [← g.2.2.1]; omega)))
  · rcases h.2.2.2 n (by omega) with ⟨g, -⟩ | g
    · exact absurd g e
    · exact cast n hn (by omega) ⟨c, d⟩ g (by rw [← g.2.1]; exact f)
  · rcases h.2.2.2 n (by omega) with ⟨-, g⟩ | g
    · exact null n hn (by omega) ⟨c, d⟩ g
    · rw [g.1] at e; exact absurd e (by decide)
theorem r_lacksRow {x1 x2 x3 x4 : Int32} {t : wSt} {post : Int32 → Prop} {n : Nat} (hn : x1.toInt = (n : Int)) (n4 : n < 4) (h4 : 0 ≤ x4.toInt ∧ x4.toInt ≤ 100) (hr : -1 ≤ (w_a t 32 n).toInt) (hl : w_a t 32 n = x2 → 0 ≤ (w_a t 33 n).toInt ∧ (w_a t 33 n).toInt ≤ 24) (null : w_a t 32 n ≠ x2 → (w_a t 32 n).toInt = -1 → post (-11)) (cast : 0 ≤ (w_a t 32 n).toInt → w_a t 32 n ≠ x2 → post (-12)) (index : w_a t 32 n = x2 → ¬ (0 ≤ x3.toInt ∧ x3.toInt + x4.toInt ≤ (w_a t 33 n).toInt) → post (-13)) (ok : w_a t 32 n = x2 → (0 ≤ x3.toInt ∧ x3.toInt + x4.toInt ≤ (w_a t 33 n).toInt) → post 0) : wpX6_lacksRow x1 x2 x3 x4 t post := by
  have hin : vp_in x1 4 := t_in (by omega)
  unfold wpX6_lacksRow
  rw [t_cl hn, t_le, tn0]
  refine ⟨hin, fun c => ⟨hin, ?_⟩, fun c => ⟨hin, fun d => cast d c, fun d => null c (by omega)⟩⟩
  have hl' := hl c
  refine r_in ?_ ?_ <;> rw [t_l, t_l, ln0, t_sub (by omega)]
  · exact fun a b => c1 (ok c (by omega))
  · exact fun a => c0 (index c (by omega))
/-- a sheet changes on both sides -/
theorem REL.s {x : wXS} {t t' : wSt} {n : Nat} {v : wSt} (h : REL x t) (ei : ∀ k, w_i t' k = w_i t k) (ea : ∀ k, k ≠ 32 → k ≠ 33 → w_a t' k = w_a t k) (e34 : ∀ m : Nat, m < 4 → m ≠ n → (w_a t' 32 m = w_a t 32 m ∧ w_a t' 33 m = w_a t 33 m ∧ ∀ i, i < 24 → w_l t' 34 (24 * m + i) = w_l t 34 (24 * m + i))) (hn : (w_i v 1 = 0 ∧ (w_a t' 32 n).toInt = -1) ∨ PS v t' n) : REL (x_sh x n v) t' := by
  refine ⟨h.1.eq ⟨⟨ei _, ei _, ei _, ei _, ei _, ei _, ei _, ei _, ei _, ei _⟩, ea _ (by decide) (by decide), ea _ (by decide) (by decide), ea _ (by decide) (by decide), ea _ (by decide) (by decide), ea _ (by decide) (by decide), ea _ (by decide) (by decide)⟩, h.2.1.eq (ei _) (ea _ (by decide) (by decide)), h.2.2.1.eq (ei _) (ea _ (by decide) (by decide)), fun m hm => ?_⟩
  have ex : x_h (x_sh x n v) m = if m = n then v else x_h x m := rfl
  rw [ex]
  by_cases c : m = n
  · subst c
    rw [if_pos rfl]
    exact hn
  · rw [if_neg c]
    obtain ⟨q1, q2, q3⟩ := e34 m hm c
    rw [q1, q2]
    rcases h.2.2.2 m hm with g | ⟨g1, g2, g3, g4, g5, g6⟩
    · exact Or.inl g
    · exact Or.inr ⟨g1, g2, g3, g4, g5, fun i hi => (g6 i hi).trans (q3 i hi).symm⟩
theorem w_sl_sl {x : wSt} {k : Nat} {f g : Nat → Int64} : w_sl (w_sl x k f) k g = w_sl x k g := by
  unfold w_sl vf_upd
  refine Prod.ext rfl (Prod.ext rfl ?_)
  funext j
  by_cases h : j = k
  · simp [h]
  · simp [h]
theorem w_sl_self {x : wSt} {k : Nat} : w_sl x k (w_l x k) = x := by
  unfold w_sl w_l vf_upd
  refine Prod.ext rfl (Prod.ext rfl ?_)
  funext j
  by_cases h : j = k
  · simp [h]
  · simp [h]
theorem w_li {x : wSt} {k : Nat} {f : Nat → Int64} : w_l (w_sl x k f) k = f := by rw [g_ll, if_pos rfl]
theorem g_uL {f : Nat → Int64} {k j : Nat} {v : Int64} : vp_updL f k v j = if j = k then v else f j := rfl
theorem n24i {x1 x4 : Int32} {n i : Nat} (hn : x1.toInt = (n : Int)) (n4 : n < 4) (hi : x4.toInt = (i : Int)) (h : i < 24) : ((24 : Int32) * x1 + x4).toInt = ((24 * n + i : Nat) : Int) := by
  have n24 := tn24
  have e : ((24 : Int32) * x1).toInt = 24 * (n : Int) := by rw [t_mul (by rw [n24, hn]; omega), n24, hn]
  rw [t_add (by omega), e]
  omega
-- sheet
theorem q_beginL {x : wSt} {post : wSt → Prop} : ∀ (k i : Nat) (g : Nat → Int64), i + k = 24 → (∀ j, j < i → g j = 0) → (∀ g' : Nat → Int64, (∀ j, j < 24 → g' j = 0) → post (w_sl x 0 g')) → wpX2_begin_L17 post (k + 1) (nI i) (w_sl x 0 g) := by
  intro k
  induction k with
  | zero =>
    intro i g hi hg h
    show wpX2_begin_17 _ post _ _
    unfold wpX2_begin_17
    rw [t_le, tn24, nI_toInt (by omega)]
    exact ⟨fun _ => h g (fun j hj => hg j (by omega)), fun q => by exfalso; omega⟩
  | succ k ih =>
    intro i g hi hg h
    have ei : (nI i).toInt = (i : Int) := nI_toInt (by omega)
    show wpX2_begin_17 _ post _ _
    unfold wpX2_begin_17
    rw [t_le, tn24, ei, t_cl ei]
    refine ⟨fun q => by exfalso; omega, fun _ => ⟨t_in (by omega), ?_⟩⟩
    rintro z1 rfl
    rw [w_li, w_sl_sl, nI_1]
    refine ih (i + 1) _ (by omega) (fun j hj => ?_) h
    rw [g_uL]
    by_cases e : j = i
    · rw [if_pos e]
    · rw [if_neg e]; exact hg j (by omega)
theorem r_sheetL {t : wSt} {x1 x3 : Int32} {n : Nat} (hn : x1.toInt = (n : Int)) (n4 : n < 4) {post : Int32 → wSt → Prop} : ∀ (k i : Nat) (g : Nat → Int64), i + k = 24 → (∀ j, j < i → g (24 * n + j) = 0) → (∀ j, (j < 24 * n ∨ 24 * n + 24 ≤ j) → g j = w_l t 34 j) → (∀ g' : Nat → Int64, (∀ j, j < 24 → g' (24 * n + j) = 0) → (∀ j, (j < 24 * n ∨ 24 * n + 24 ≤ j) → g' j = w_l t 34 j) → post x3 (w_sl t 34 g')) → wpX6_sheet_L40 post (k + 1) x1 x3 (nI i) (w_sl t 34 g) := by
  intro k
  induction k with
  | zero =>
    intro i g hi hg hg2 h
    show wpX6_sheet_40 _ post _ _ _ _
    unfold wpX6_sheet_40
    rw [t_le, tn24, nI_toInt (by omega)]
    exact ⟨fun _ => h g (fun j hj => hg j (by omega)) hg2, fun q => by exfalso; omega⟩
  | succ k ih =>
    intro i g hi hg hg2 h
    have ei : (nI i).toInt = (i : Int) := nI_toInt (by omega)
    have en := n24i hn n4 ei (by omega)
    show wpX6_sheet_40 _ post _ _ _ _
    unfold wpX6_sheet_40
    rw [t_le, tn24, ei, t_cl en]
    refine ⟨fun q => by exfalso; omega, fun _ => ⟨t_in (by omega), ?_⟩⟩
    rintro z1 rfl
    rw [w_li, w_sl_sl, nI_1]
    refine ih (i + 1) _ (by omega) (fun j hj => ?_) (fun j hj => ?_) h
    · rw [g_uL]
      by_cases e : j = i
      · rw [if_pos (by omega)]
      · rw [if_neg (by omega)]; exact hg j (by omega)
    · rw [g_uL, if_neg (by omega)]; exact hg2 j hj
theorem op_sheet {a b c : Int32} {x : wXS} {t : wSt} (h : REL x t) {post : Int32 → wXS → Prop} (hp : ∀ r x', (∀ {p2 : Int32 → wSt → Prop}, (∀ t', REL x' t' → p2 r t') → wpX6_sheet a b c t p2) → post r x') : wpX5_sheet a b c x post := by
  have bad : ¬ ((0 ≤ a.toInt ∧ a.toInt ≤ 3) ∧ 0 ≤ b.toInt ∧ b.toInt ≤ 2) → post (-1) x := fun hb => hp (-1) x (fun {p2} hp2 => by
    unfold wpX6_sheet
    exact r_isSheet (fun q1 q2 => absurd ⟨q1, q2⟩ hb) (fun _ => c0 (hp2 t h)))
  unfold wpX5_sheet
  refine q_isSheet (fun a1 a2 => c1 (q_isLane (fun b1 b2 => c1 ?_) (fun q => c0 (bad (fun r => q r.2))))) (fun q => c0 (bad (fun r => q r.1)))
  obtain ⟨n, hn⟩ := nat_of a1
  have hin : vp_in a 4 := t_in (by omega)
  rw [t_le, tn24, t_le, tn0, t_cl hn]
  refine ⟨fun c1' => ⟨fun c2 => ⟨hin, ?_⟩, fun c2 => hp (-14) x (fun {p2} hp2 => ?_)⟩, fun c1' => hp (-1) x (fun {p2} hp2 => ?_)⟩
  · unfold wpX2_begin
    rintro z1 rfl
    rintro z2 rfl
    rintro z3 rfl
    refine ⟨25, ?_⟩
    obtain ⟨W, eW⟩ : ∃ W, W = w_si (w_si (w_si (x_h x n) 1 1) 2 b) 3 c := ⟨_, rfl⟩
    rw [← eW]
    have key := q_beginL (x := W) (post := fun u => ∀ z1, z1 = x_sh x n u → post c z1) 24 0 (w_l W 0) (by omega) (fun j hj => by omega) (fun g' hg => ?_)
    · rw [w_sl_self] at key
      exact key
    · rintro z4 rfl
      refine hp c _ (fun {p2} hp2 => ?_)
      unfold wpX6_sheet
      refine r_isSheet (fun _ _ => c1 ?_) (fun q => absurd ⟨⟨a1, a2⟩, b1, b2⟩ q)
      rw [t_le, tn24, t_le, tn0, t_cl hn]
      refine ⟨fun _ => ⟨fun _ => ⟨hin, ?_⟩, fun q => absurd c2 q⟩, fun q => absurd c1' q⟩
      rintro z5 rfl
      refine ⟨hin, ?_⟩
      rintro z6 rfl
      refine ⟨25, ?_⟩
      obtain ⟨T, eT⟩ : ∃ T, T = w_sa (w_sa t 32 (upd (w_a t 32) n b)) 33 (upd (w_a (w_sa t 32 (upd (w_a t 32) n b)) 33) n c) := ⟨_, rfl⟩
      rw [← eT]
      have key := r_sheetL (t := T) (x3 := c) hn (by omega) (post := p2) 24 0 (w_l T 34) (by omega) (fun j hj => by omega) (fun j _ => rfl) (fun g2 hg2 hg3 => ?_)
      · rw [w_sl_self] at key
        exact key
      · refine hp2 _ (h.s (fun k => by rw [eT]; rfl) (fun k k1 k2 => ?_) (fun m hm hmn => ⟨?_, ?_, fun i hi => ?_⟩) (Or.inr ⟨?_, ?_, ?_, ?_, ?_, fun i hi => ?_⟩))
        · rw [eT, g_al, g_aa, if_neg k2, g_aa, if_neg k1]
        · rw [eT]; show upd (w_a t 32) n b m = _; rw [g_u, if_neg hmn]
        · rw [eT]; show upd (w_a t 33) n c m = _; rw [g_u, if_neg hmn]
        · rw [w_li, hg3 _ (by omega), eT]; rfl
        · rw [eW]; rfl
        · rw [eW, eT]; show b = upd (w_a t 32) n b n; rw [g_u, if_pos rfl]
        · rw [eW, eT]; show c = upd (w_a t 33) n c n; rw [g_u, if_pos rfl]
        · have e : w_a (w_sl T 34 g2) 32 n = b := by rw [eT]; show upd (w_a t 32) n b n = _; rw [g_u, if_pos rfl]
          rw [e]; exact ⟨b1, b2⟩
        · have e : w_a (w_sl T 34 g2) 33 n = c := by rw [eT]; show upd (w_a t 33) n c n = _; rw [g_u, if_pos rfl]
          rw [e]; exact ⟨c2, c1'⟩
        · rw [w_li, w_li, hg i hi, hg2 i hi]
  · unfold wpX6_sheet
    refine r_isSheet (fun _ _ => c1 ?_) (fun q => absurd ⟨⟨a1, a2⟩, b1, b2⟩ q)
    rw [t_le, tn24, t_le, tn0]
    exact ⟨fun _ => ⟨fun q => absurd q c2, fun _ => hp2 t h⟩, fun q => absurd c1' q⟩
  · unfold wpX6_sheet
    refine r_isSheet (fun _ _ => c1 ?_) (fun q => absurd ⟨⟨a1, a2⟩, b1, b2⟩ q)
    rw [t_le, tn24]
    exact ⟨fun q => absurd q c1', fun _ => hp2 t h⟩
-- drop
theorem op_drop {a : Int32} {x : wXS} {t : wSt} (h : REL x t) {post : Int32 → wXS → Prop} (hp : ∀ r x', (∀ {p2 : Int32 → wSt → Prop}, (∀ t', REL x' t' → p2 r t') → wpX6_drop a t p2) → post r x') : wpX5_drop a x post := by
  unfold wpX5_drop
  refine q_isSheet (fun a1 a2 => d1 ?_) (fun q => d0 (hp (-1) x (fun {p2} hp2 => ?_)))
  · obtain ⟨n, hn⟩ := nat_of a1
    have hin : vp_in a 4 := t_in (by omega)
    rw [t_cl hn]
    rcases h.2.2.2 n (by omega) with ⟨g, g2⟩ | g
    · refine ⟨hin, fun c => absurd g c, fun _ => hp (-11) x (fun {p2} hp2 => ?_)⟩
      unfold wpX6_drop
      refine r_in3 (fun _ _ => d1 ⟨hin, ?_⟩) (fun q => absurd ⟨a1, a2⟩ q)
      rw [t_cl hn, t_le, tn0]
      exact ⟨fun q => by exfalso; omega, fun _ => hp2 t h⟩
    · refine ⟨hin, fun _ => ⟨hin, ?_⟩, fun c => by rw [g.1] at c; exact absurd c (by decide)⟩
      rintro z1 rfl
      refine ⟨hin, hp _ _ (fun {p2} hp2 => ?_)⟩
      unfold wpX6_drop
      refine r_in3 (fun _ _ => d1 ⟨hin, ?_⟩) (fun q => absurd ⟨a1, a2⟩ q)
      rw [t_cl hn, t_le, tn0]
      refine ⟨fun _ => ⟨hin, ?_⟩, fun q => absurd g.2.2.2.1.1 q⟩
      rintro z2 rfl
      refine ⟨hin, ?_⟩
      have e1 : w_a (w_sa t 32 (upd (w_a t 32) n (-1))) 33 n = w_a t 33 n := rfl
      have e2 : w_i (x_h (x_sh x n (w_si (x_h x n) 1 0)) n) 3 = w_a t 33 n := by
        rw [gx_h_sh, g_v, if_pos rfl]
        exact g.2.2.1
      rw [e2] at hp2
      rw [e1]
      refine hp2 _ (h.s (fun k => rfl) (fun k k1 k2 => ?_) (fun m hm hmn => ⟨?_, rfl, fun i hi => rfl⟩) (Or.inl ⟨rfl, ?_⟩))
      · rw [g_aa, if_neg k1]
      · show upd (w_a t 32) n (-1) m = _; rw [g_u, if_neg hmn]
      · show (upd (w_a t 32) n (-1) n).toInt = _; rw [g_u, if_pos rfl]; exact tnm1
  · unfold wpX6_drop
    exact r_in3 (fun q1 q2 => absurd ⟨q1, q2⟩ q) (fun _ => d0 (hp2 t h))
-- item
/-- a value as a lane keeps it -/
def m_lane (lane : Int32) (v : Int64) : Int64 := if lane = 0 then (v <<< ((56 : Int32).toInt64 &&& 63)) >>> ((56 : Int32).toInt64 &&& 63) else if lane = 1 then (v <<< ((48 : Int32).toInt64 &&& 63)) >>> ((48 : Int32).toInt64 &&& 63) else v
theorem r_asLane {a : Int32} {v : Int64} {post : Int64 → Prop} (h : post (m_lane a v)) : wpX6_asLane a v post := by
  unfold wpX6_asLane
  unfold m_lane at h
  refine ⟨fun c => ⟨fun d => ?_, fun d => ?_⟩, fun c => ?_⟩
  · rw [if_neg c, if_neg d] at h; exact h
  · rw [if_neg c, if_pos d] at h; exact h
  · rw [if_pos c] at h; exact h
theorem q_put {a : Int32} {v : Int64} {x : wSt} {post : wSt → Prop} {i : Nat} (hi : a.toInt = (i : Int)) (h24 : i < 24) (h : post (w_sl x 0 (vp_updL (w_l x 0) i (m_lane (w_i x 2) v)))) : wpX2_put a v x post := by
  have hin : vp_in a 24 := t_in (by omega)
  unfold wpX2_put
  unfold m_lane at h
  rw [t_cl hi]
  refine ⟨fun c => ⟨fun d => ⟨hin, ?_⟩, fun d => ⟨hin, ?_⟩⟩, fun c => ⟨hin, ?_⟩⟩
  · rw [if_neg c, if_neg d] at h
    rintro z1 rfl; exact h
  · rw [if_neg c, if_pos d] at h
    rintro z1 rfl
    rw [ln_short]; exact h
  · rw [if_pos c] at h
    rintro z1 rfl
    rw [ln_byte]; exact h
/-- one item is put on both sides -/
theorem REL.put {x : wXS} {t : wSt} {n i : Nat} {v : Int64} (h : REL x t) (hn : n < 4) (hi : i < 24) (g : PS (x_h x n) t n) : REL (x_sh x n (w_sl (x_h x n) 0 (vp_updL (w_l (x_h x n) 0) i v))) (w_sl t 34 (vp_updL (w_l t 34) (24 * n + i) v)) := by
  refine h.s (fun k => rfl) (fun k _ _ => rfl) (fun m hm hmn => ⟨rfl, rfl, fun j hj => ?_⟩) (Or.inr ⟨g.1, g.2.1, g.2.2.1, g.2.2.2.1, g.2.2.2.2.1, fun j hj => ?_⟩)
  · rw [w_li, g_uL, if_neg (by omega)]
  · rw [w_li, w_li, g_uL, g_uL]
    by_cases e : j = i
    · rw [if_pos e, if_pos (by omega)]
    · rw [if_neg e, if_neg (by omega)]
      exact g.2.2.2.2.2 j hj
theorem op_item {a b c : Int32} {v : Int64} {x : wXS} {t : wSt} (h : REL x t) {post : Int32 → wXS → Prop} (hp : ∀ r x', (∀ {p2 : Int32 → wSt → Prop}, (∀ t', REL x' t' → p2 r t') → wpX6_item a b c v t p2) → post r x') : wpX5_item a b c v x post := by
  have n1 := tn1
  unfold wpX5_item
  refine q_refusal h (by omega) (fun hb => ?_) (fun n hn n4 hl e => ?_) (fun n hn n4 hl g e => ?_) (fun n hn n4 hl g e i => ?_) (fun n hn n4 hl g e i => ?_)
  · refine ⟨fun q => absurd q (by decide), fun _ => hp (-1) x (fun {p2} hp2 => ?_)⟩
    unfold wpX6_item
    exact r_isSheet (fun q1 q2 => absurd ⟨q1, q2⟩ hb) (fun _ => d0 (hp2 t h))
  · refine ⟨fun q => absurd q (by decide), fun _ => hp (-11) x (fun {p2} hp2 => ?_)⟩
    unfold wpX6_item
    refine r_isSheet (fun _ _ => d1 (r_lacksRow hn n4 (by omega) (by omega) (fun q => by rw [q] at e; exfalso; omega) (fun _ _ => ?_) (fun q _ => by exfalso; omega) (fun q _ => by rw [q] at e; exfalso; omega) (fun q _ => by rw [q] at e; exfalso; omega))) (fun q => absurd ⟨by omega, hl⟩ q)
    exact ⟨fun q => absurd q (by decide), fun _ => hp2 t h⟩
  · refine ⟨fun q => absurd q (by decide), fun _ => hp (-12) x (fun {p2} hp2 => ?_)⟩
    unfold wpX6_item
    have g4 := g.2.2.2.1
    refine r_isSheet (fun _ _ => d1 (r_lacksRow hn n4 (by omega) (by omega) (fun q => absurd q e) (fun _ q => by exfalso; omega) (fun _ _ => ?_) (fun q _ => absurd q e) (fun q _ => absurd q e))) (fun q => absurd ⟨by omega, hl⟩ q)
    exact ⟨fun q => absurd q (by decide), fun _ => hp2 t h⟩
  · refine ⟨fun q => absurd q (by decide), fun _ => hp (-13) x (fun {p2} hp2 => ?_)⟩
    unfold wpX6_item
    have g4 := g.2.2.2.1
    refine r_isSheet (fun _ _ => d1 (r_lacksRow hn n4 (by omega) (by omega) (fun _ => g.2.2.2.2.1) (fun q _ => absurd e q) (fun _ q => absurd e q) (fun _ _ => ?_) (fun _ q => absurd q i))) (fun q => absurd ⟨by omega, hl⟩ q)
    exact ⟨fun q => absurd q (by decide), fun _ => hp2 t h⟩
  · have g5 := g.2.2.2.2.1
    obtain ⟨k, hk⟩ := nat_of i.1
    rw [t_cl hn]
    refine ⟨fun _ => ⟨t_in (by omega), q_put hk (by omega) ?_⟩, fun q => absurd rfl q⟩
    rintro z1 rfl
    refine hp 1 _ (fun {p2} hp2 => ?_)
    unfold wpX6_item
    have g4 := g.2.2.2.1
    refine r_isSheet (fun _ _ => d1 (r_lacksRow hn n4 (by omega) (by omega) (fun _ => g.2.2.2.2.1) (fun q _ => absurd e q) (fun _ q => absurd e q) (fun _ q => absurd i q) (fun _ _ => ?_))) (fun q => absurd ⟨by omega, hl⟩ q)
    refine ⟨fun _ => r_asLane ⟨?_, ?_⟩, fun q => absurd (by decide) q⟩
    · exact t_in (by rw [n24i hn n4 hk (by omega)]; omega)
    · rintro z2 rfl
      rw [t_cl (n24i hn n4 hk (by omega))]
      have e2 : w_i (x_h x n) 2 = b := by rw [g.2.1]; exact e
      rw [e2] at hp2
      exact hp2 _ (h.put n4 (by omega) g)
