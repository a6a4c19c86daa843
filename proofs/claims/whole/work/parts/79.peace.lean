-- peace: a quarrel that is put aside and taken up again
theorem FS.a3 {t t' : wSt} {q : Nat → Int32} (h : FS t t') : FS (w_sa t 3 q) (w_sa t' 3 q) := by
  refine ⟨h.1, fun k hk => ?_, h.2.2⟩
  rw [g_aa, g_aa]
  by_cases e : k = 3
  · rw [if_pos e, if_pos e]
  · rw [if_neg e, if_neg e]; exact h.2.1 k hk
theorem FS.back {t : wSt} {q : Nat → Int32} : FS t (w_sa (w_sa t 3 q) 3 (w_a t 3)) := by
  refine ⟨fun k hk => rfl, fun k hk => ?_, fun k => rfl⟩
  rw [g_aa]
  by_cases e : k = 3
  · rw [if_pos e, e]
  · rw [if_neg e, g_aa, if_neg e]
theorem FS.sym {t t' : wSt} (h : FS t t') : FS t' t := ⟨fun k hk => (h.1 k hk).symm, fun k hk => (h.2.1 k hk).symm, fun k => (h.2.2 k).symm⟩
/-- the rows when two begin or end a quarrel -/
def q_row (is : Bool) (q : Nat → Int32) (i j : Nat) (a b : Int32) : Nat → Int32 := upd (upd q i (m_qv is (q i) b)) j (m_qv is (q j) a)
theorem q_row_back {q : Nat → Int32} {i j : Nat} {a b : Int32} (ha : a.toInt = (i : Int)) (hb : b.toInt = (j : Int)) (hi : i < 32) (hj : j < 32) (hij : i ≠ j) (h1 : bt (q i) j = true) (h2 : bt (q j) i = true) : q_row true (q_row false q i j a b) i j a b = q := by
  have e1 : q_row false q i j a b i = m_qv false (q i) b := by unfold q_row; rw [g_u, if_neg hij, g_u, if_pos rfl]
  have e2 : q_row false q i j a b j = m_qv false (q j) a := by unfold q_row; rw [g_u, if_pos rfl]
  funext k
  show upd (upd (q_row false q i j a b) i (m_qv true (q_row false q i j a b i) b)) j (m_qv true (q_row false q i j a b j) a) k = q k
  rw [e1, e2]
  simp only [g_u]
  by_cases k1 : k = j
  · rw [if_pos k1, k1]
    apply b_ext
    intro m _
    rw [bt_qv _ _ _ i hi ha, bt_qv _ _ _ i hi ha]
    by_cases e : m = i
    · rw [if_pos e, e, h2]
    · rw [if_neg e, if_neg e]
  · rw [if_neg k1]
    by_cases k2 : k = i
    · rw [if_pos k2, k2]
      apply b_ext
      intro m _
      rw [bt_qv _ _ _ j hj hb, bt_qv _ _ _ j hj hb]
      by_cases e : m = j
      · rw [if_pos e, e, h1]
      · rw [if_neg e, if_neg e]
    · rw [if_neg k2]
      show upd (upd q i (m_qv false (q i) b)) j (m_qv false (q j) a) k = q k
      simp only [g_u]
      rw [if_neg k1, if_neg k2]
theorem ZR.foes {z w : wP2} {t : wSt} {a b : Int32} {i j : Nat} {is : Bool} (hZ : ZR z t) (hW : WR w t) (ha : a.toInt = (i : Int)) (hb : b.toInt = (j : Int)) (hi : (i : Int) < (w_i t 5).toInt) (hj : (j : Int) < (w_i t 5).toInt) (hij : i ≠ j) : ZR (w_sf z (w_sa (w_f z) 3 (q_row is (w_a (w_f z) 3) i j a b))) (w_sa t 3 (q_row is (w_a t 3) i j a b)) ∧ WR (w_sf w (w_sa (w_f w) 3 (q_row is (w_a (w_f w) 3) i j a b))) (w_sa t 3 (q_row is (w_a t 3) i j a b)) := by
  have h6 := hZ.n6
  have key : ∀ v : wP2, WR v t → WR (w_sf v (w_sa (w_f v) 3 (q_row is (w_a (w_f v) 3) i j a b))) (w_sa t 3 (q_row is (w_a t 3) i j a b)) := by
    intro v hv
    have g := hv.foes (is := is) (va := m_qv is (w_a t 3 i) b) (vb := m_qv is (w_a t 3 j) a) hi hj hij (fun k => bt_qv is _ b j (by omega) hb k) (fun k => bt_qv is _ a i (by omega) ha k)
    have e1 := (hv.1.2.2.1 i hi).2.2.2
    have e2 := (hv.1.2.2.1 j hj).2.2.2
    unfold q_row
    rw [e1, e2]
    exact g
  have g1 := key (w_sf w (w_f z)) ⟨hZ.1, hW.2⟩
  exact ⟨⟨g1.1, hZ.2.1, hZ.2.2.1, hZ.2.2.2⟩, key w hW⟩
theorem q_mostInPeace {x : wXS} {t : wSt} {i j : Nat} {post : Int32 → wXS → Prop} (h : REL x t) (hZ : ZR (x_s x) t) (hi : (i : Int) < (w_i t 5).toInt) (hj : (j : Int) < (w_i t 5).toInt) (hij : i ≠ j) (hb : bt (w_a t 3 i) j = true) (hp : ∀ r z', ZR z' t → r.toInt = (m_best (w_sa t 3 (q_row false (w_a t 3) i j (nI i) (nI j))) 4 (w_i t 6).toInt).1 → post r (x_ss x z')) : wpX5_mostInPeace (nI i) (nI j) x post := by
  have h6 := hZ.n6
  obtain ⟨o4, -⟩ := h.1.2.2.1
  have hG := h.1.2.2.2.1
  have e4 := hZ.1.2.1
  have ei := nIe (i := i) (by omega)
  have ej := nIe (i := j) (by omega)
  have hb2 : bt (w_a t 3 j) i = true := by rw [hZ.1.2.2.2.1 j i hj hi]; exact hb
  obtain ⟨hZ1, hW1⟩ := ZR.foes (is := false) hZ h.1 ei ej hi hj hij
  unfold wpX5_mostInPeace
  refine q_makeFoes (is := false) (by decide) (by rw [e4]; omega) ei ej (by rw [e4]; exact hi) (by rw [e4]; exact hj) hij ?_
  rintro z1 rfl
  refine z_most (N := 4) (t := w_sa t 3 (q_row false (w_a t 3) i j (nI i) (nI j))) hZ1 (by decide) (by omega) (by show -9 ≤ (w_i (w_o (x_w x)) 4).toInt ∧ (w_i (w_o (x_w x)) 4).toInt ≤ 9; rw [o4]; exact hG.1) (fun r z2 hZ2 hr _ => ?_)
  rintro z3 rfl
  have e42 : w_i (w_f z2) 4 = w_i t 5 := hZ2.1.2.1
  obtain ⟨hZ3, -⟩ := ZR.foes (is := true) hZ2 hW1 ei ej hi hj hij
  rw [w_ai, q_row_back ei ej (by omega) (by omega) hij hb hb2] at hZ3
  refine q_makeFoes (is := true) (by decide) (by show (w_i (w_f z2) 4).toInt ≤ 6; rw [e42]; omega) ei ej (by show (i : Int) < (w_i (w_f z2) 4).toInt; rw [e42]; exact hi) (by show (j : Int) < (w_i (w_f z2) 4).toInt; rw [e42]; exact hj) hij ?_
  rintro z4 rfl
  refine hp r _ (hZ3.fs FS.back.sym) ?_
  rw [hr]
  show (m_best _ 4 (w_i (w_o (x_w x)) 4).toInt).1 = _
  rw [o4]
theorem r_pdiv {n i j : Nat} (hn : n ≤ 6) (hi : i < n) (hj : j < n) : nI (i * n + j) / nI n = nI i ∧ nI (i * n + j) - nI i * nI n = nI j := by
  have hm : i * n ≤ 5 * 6 := Nat.mul_le_mul (by omega) hn
  have ek := nIe (i := i * n + j) (by omega)
  have en := nIe (i := n) (by omega)
  have ei := nIe (i := i) (by omega)
  have ej := nIe (i := j) (by omega)
  have em : (nI i * nI n).toInt = ((i * n : Nat) : Int) := by
    rw [t_mul (by rw [ei, en, ← Int.natCast_mul]; omega), ei, en, Int.natCast_mul]
  refine ⟨?_, ?_⟩
  · rw [t_eq, t_div (by omega) (by omega), ek, en, ei, ← Int.natCast_ediv]
    congr 1
    rw [Nat.mul_comm, Nat.mul_add_div (by omega), Nat.div_eq_of_lt hj, Nat.add_zero]
  · rw [t_eq, t_sub (by omega), ek, em, ej]; omega
theorem r_pstep {k15 : Int32 → Int32 → Int32 → wSt → Prop} {post : Int32 → wSt → Prop} {x1 x2 : Int32} {t0 t : wSt} {z w : wP2} {n i j : Nat} (hZ : ZR z t0) (hW : WR w t0) (hF : FS t0 t) (h5 : (w_i t0 5).toInt = (n : Int)) (hi : i < n) (hj : j < n) (g0 : ¬ (i < j ∧ bt (w_a t0 3 i) j = true) → k15 x1 x2 (nI (i * n + (j + 1))) t) (g1 : i < j → bt (w_a t0 3 i) j = true → ∀ (r : Int32) (t' : wSt), FS t0 t' → r.toInt = (m_best (w_sa t0 3 (q_row false (w_a t0 3) i j (nI i) (nI j))) 4 (w_i t0 6).toInt).1 → ((r ≤ x1 → k15 x1 x2 (nI (i * n + (j + 1))) t') ∧ (¬ r ≤ x1 → k15 r (10 * nI i + nI j) (nI (i * n + (j + 1))) t'))) : wpX6_peace_15 k15 post x1 x2 (nI (i * n + j)) t := by
  have hn : n ≤ 6 := by have := hZ.n6; omega
  have hm : (i + 1) * n ≤ n * n := Nat.mul_le_mul_right n (by omega)
  have hnn : n * n ≤ 6 * 6 := Nat.mul_le_mul hn hn
  have hs : (i + 1) * n = i * n + n := Nat.succ_mul i n
  have e5 : w_i t 5 = nI n := by rw [t_eq, hF.1 5 (by decide), h5, nIe (by omega)]
  have e3 : w_a t 3 = w_a t0 3 := hF.2.1 3 (by decide)
  have ek := nIe (i := i * n + j) (by omega)
  have en := nIe (i := n) (by omega)
  have ei := nIe (i := i) (by omega)
  have ej := nIe (i := j) (by omega)
  have enn : (nI n * nI n).toInt = ((n * n : Nat) : Int) := by
    rw [t_mul (by rw [en, ← Int.natCast_mul]; omega), en, Int.natCast_mul]
  obtain ⟨d1', d2'⟩ := r_pdiv hn hi hj
  have nx : nI (i * n + j) + 1 = nI (i * n + (j + 1)) := nI_1 _
  have hne : ¬ nI n = 0 := by rw [t_eq, en, tn0]; omega
  unfold wpX6_peace_15 wpX6_peace_113 wpX6_peace_126 wpX6_peace_127
  rw [e5, d1', d2', t_le, enn, ek, t_le, ei, ej, nx, t_cl ei]
  refine ⟨fun q => by exfalso; omega, fun _ => ⟨hne, hne, fun q => g0 (by omega), fun q => ⟨t_in (by omega), r_has ej (by omega) (fun hb => c1 ?_) (fun hb => c0 (g0 (fun q' => hb (by rw [e3]; exact q'.2))))⟩⟩⟩
  rw [e3] at hb
  have hij : i ≠ j := by omega
  have hci : (i : Int) < (w_i t0 5).toInt := by omega
  have hcj : (j : Int) < (w_i t0 5).toInt := by omega
  have hb2 : bt (w_a t0 3 j) i = true := by rw [hZ.1.2.2.2.1 j i hcj hci]; exact hb
  obtain ⟨hZ1, -⟩ := ZR.foes (is := false) hZ hW ei ej hci hcj hij
  have hF1 : FS (w_sa t0 3 (q_row false (w_a t0 3) i j (nI i) (nI j))) (w_sa t 3 (q_row false (w_a t0 3) i j (nI i) (nI j))) := hF.a3
  refine r_setQuarrel (is := false) (by decide) ei ej (by omega) (by omega) hij ?_
  intro z1 e1
  have e1' : z1 = w_sa t 3 (q_row false (w_a t0 3) i j (nI i) (nI j)) := by rw [e1, e3]; rfl
  subst e1'
  refine r_best (N := 4) (hZ1.fs hF1) (by decide) (by omega) (by show -9 ≤ (w_i t 6).toInt ∧ (w_i t 6).toInt ≤ 9; rw [hF.1 6 (by decide)]; exact hZ.2.2.2.1) (fun r' t2 f1 hr' _ => ?_)
  intro z2 e2
  subst z2
  refine r_setQuarrel (is := true) (by decide) ei ej (by omega) (by omega) hij ?_
  intro z3 e33
  have e23 : w_a t2 3 = q_row false (w_a t0 3) i j (nI i) (nI j) := (f1.2.1 3 (by decide)).trans w_ai
  have e3' : z3 = w_sa t2 3 (w_a t0 3) := by
    rw [e33]
    show w_sa t2 3 (q_row true (w_a t2 3) i j (nI i) (nI j)) = _
    rw [e23, q_row_back ei ej (by omega) (by omega) hij hb hb2]
  subst e3'
  have hF3 : FS t0 (w_sa t2 3 (w_a t0 3)) := FS.back.tr (FS.a3 (hF1.tr f1))
  have hr9 : r'.toInt = (m_best (w_sa t0 3 (q_row false (w_a t0 3) i j (nI i) (nI j))) 4 (w_i t0 6).toInt).1 := by
    rw [hr', m_best_fs hF1]
    show (m_best _ 4 (w_i t 6).toInt).1 = _
    rw [hF.1 6 (by decide)]
  have g := g1 (by omega) hb r' _ hF3 hr9
  exact ⟨fun c => ⟨fun _ => g.1 c, fun c' => absurd c c'⟩, fun c => ⟨fun c' => absurd c' c, fun _ => g.2 c⟩⟩
theorem r_pskip {post : Int32 → wSt → Prop} {x1 x2 : Int32} {t0 t : wSt} {z w : wP2} {n i : Nat} (hZ : ZR z t0) (hW : WR w t0) (hF : FS t0 t) (h5 : (w_i t0 5).toInt = (n : Int)) (hi : i < n) : ∀ (m j F : Nat), j + m = i + 1 → F + (i * n + j) = n * n + 1 → (∀ F', F' + (i * n + (i + 1)) = n * n + 1 → wpX6_peace_L15 post F' x1 x2 (nI (i * n + (i + 1))) t) → wpX6_peace_L15 post F x1 x2 (nI (i * n + j)) t := by
  have hm : (i + 1) * n ≤ n * n := Nat.mul_le_mul_right n (by omega)
  have hs : (i + 1) * n = i * n + n := Nat.succ_mul i n
  intro m
  induction m with
  | zero =>
    intro j F hj hFu g
    have ej : j = i + 1 := by omega
    subst ej
    exact g F hFu
  | succ m ih =>
    intro j F hj hFu g
    obtain ⟨F', rfl⟩ : ∃ F', F = F' + 1 := ⟨F - 1, by omega⟩
    show wpX6_peace_15 _ _ _ _ _ _
    exact r_pstep hZ hW hF h5 hi (by omega) (fun _ => ih (j + 1) F' (by omega) (by omega) g) (fun q => by exfalso; omega)
/-- what is owed from the reference's place K on -/
def PG (t : wSt) (n K : Nat) (best pair : Int32) (post : Int32 → wXS → Prop) : Prop := ∀ r x', (∀ {p2 : Int32 → wSt → Prop}, (∀ t', REL x' t' → p2 r t') → ∀ F t1, FS t t1 → F + K = n * n + 1 → wpX6_peace_L15 p2 F best pair (nI K) t1) → post r x'
theorem op_peaceB {t : wSt} {n i : Nat} (h5 : (w_i t 5).toInt = (n : Int)) (hn : n ≤ 6) (hi : i < n) {KK : Int32 → Int32 → Int32 → wXS → Prop} {post : Int32 → wXS → Prop} (hK : ∀ (best pair : Int32) (x : wXS), REL x t → ZR (x_s x) t → 0 ≤ best.toInt → PG t n ((i + 1) * n) best pair post → KK best pair (nI (i + 1)) x) : ∀ (k j : Nat) (best pair : Int32) (x : wXS), j + k = n → i < j → REL x t → ZR (x_s x) t → 0 ≤ best.toInt → PG t n (i * n + j) best pair post → wpX5_peace_L51 KK post (k + 1) best pair (nI i) (nI j) x := by
  have hm : (i + 1) * n ≤ n * n := Nat.mul_le_mul_right n (by omega)
  have hs : (i + 1) * n = i * n + n := Nat.succ_mul i n
  have ei := nIe (i := i) (by omega)
  intro k
  induction k with
  | zero =>
    intro j best pair x hj hij h hZ hb hp
    have ej := nIe (i := j) (by omega)
    have e4 : w_i (w_f (x_w x)) 4 = w_i t 5 := h.cnt
    show wpX5_peace_51 _ _ _ _ _ _ _ _
    unfold wpX5_peace_51
    rw [e4, t_le, h5, ej, nI_1 i]
    refine ⟨fun _ => hK best pair x h hZ hb ?_, fun q => by exfalso; omega⟩
    have ejn : j = n := by omega
    rw [hs]
    rw [ejn] at hp
    exact hp
  | succ k ih =>
    intro j best pair x hj hij h hZ hb hp
    have ej := nIe (i := j) (by omega)
    have e4 : w_i (w_f (x_w x)) 4 = w_i t 5 := h.cnt
    have hci : (i : Int) < (w_i t 5).toInt := by omega
    have hcj : (j : Int) < (w_i t 5).toInt := by omega
    have e3 : w_a (w_f (x_w x)) 3 i = w_a t 3 i := (h.1.1.2.2.1 i hci).2.2.2
    have ref : ∀ {p2 : Int32 → wSt → Prop} (F : Nat) (t1 : wSt), FS t t1 → F + (i * n + j) = n * n + 1 → (∀ F', F' + (i * n + (j + 1)) = n * n + 1 → ((¬ (i < j ∧ bt (w_a t 3 i) j = true) → wpX6_peace_L15 p2 F' best pair (nI (i * n + (j + 1))) t1) ∧ (i < j → bt (w_a t 3 i) j = true → ∀ (r : Int32) (t' : wSt), FS t t' → r.toInt = (m_best (w_sa t 3 (q_row false (w_a t 3) i j (nI i) (nI j))) 4 (w_i t 6).toInt).1 → ((r ≤ best → wpX6_peace_L15 p2 F' best pair (nI (i * n + (j + 1))) t') ∧ (¬ r ≤ best → wpX6_peace_L15 p2 F' r (10 * nI i + nI j) (nI (i * n + (j + 1))) t'))))) → wpX6_peace_L15 p2 F best pair (nI (i * n + j)) t1 := by
      intro p2 F t1 hF hFu g
      obtain ⟨F', rfl⟩ : ∃ F', F = F' + 1 := ⟨F - 1, by omega⟩
      show wpX6_peace_15 _ _ _ _ _ _
      have g' := g F' (by omega)
      exact r_pstep hZ h.1 hF h5 hi (by omega) g'.1 g'.2
    show wpX5_peace_51 _ _ _ _ _ _ _ _
    unfold wpX5_peace_51 wpX5_peace_93 wpX5_peace_112
    rw [e4, t_le, h5, ej, nI_1 j]
    refine ⟨fun q => by exfalso; omega, fun _ => q_areFoes h.fk (fun i' j' hi' hj' _ _ hm' => c1 ?_) (fun hm' => c0 ?_)⟩
    · have e1 : i' = i := by omega
      have e2 : j' = j := by omega
      subst e1; subst e2
      unfold m_foe at hm'
      rw [e3] at hm'
      refine q_mostInPeace h hZ hci hcj (by omega) hm' (fun r z' hZ' hr => ?_)
      rintro z1 rfl
      refine ⟨fun c => ih (j' + 1) best pair (x_ss x z') (by omega) (by omega) h hZ' hb (fun r' x' G => hp r' x' (fun {p2} p2v F t1 hF hFu => ref F t1 hF hFu (fun F' hF' => ⟨fun q => absurd ⟨hij, hm'⟩ q, fun _ _ r2 t' hFt hr2 => ⟨fun _ => G p2v F' t' hFt hF', fun q => absurd ?_ q⟩⟩))), fun c => ih (j' + 1) r (10 * nI i' + nI j') (x_ss x z') (by omega) (by omega) h hZ' (by rw [hr]; exact m_best_ge) (fun r' x' G => hp r' x' (fun {p2} p2v F t1 hF hFu => ref F t1 hF hFu (fun F' hF' => ⟨fun q => absurd ⟨hij, hm'⟩ q, fun _ _ r2 t' hFt hr2 => ?_⟩)))⟩
      · have e : r2 = r := by rw [t_eq, hr2, hr]
        rw [e]; exact c
      · have e : r2 = r := by rw [t_eq, hr2, hr]
        subst e
        exact ⟨fun q => absurd q c, fun _ => G p2v F' t' hFt hF'⟩
    · have hm2 := hm' i j ei ej (by rw [e4]; exact hci) (by rw [e4]; exact hcj)
      unfold m_foe at hm2
      rw [e3] at hm2
      refine ⟨fun _ => ih (j + 1) best pair x (by omega) (by omega) h hZ hb (fun r' x' G => hp r' x' (fun {p2} p2v F t1 hF hFu => ref F t1 hF hFu (fun F' hF' => ⟨fun _ => G p2v F' t1 hF hF', fun _ q => absurd q hm2⟩))), fun q => absurd ?_ q⟩
      rw [t_le, tn0]; exact hb
theorem op_peaceA {t : wSt} {n : Nat} (h5 : (w_i t 5).toInt = (n : Int)) (hn : n ≤ 6) {post : Int32 → wXS → Prop} : ∀ (k i : Nat) (best pair : Int32) (x : wXS), i + k = n → REL x t → ZR (x_s x) t → 0 ≤ best.toInt → PG t n (i * n) best pair post → wpX5_peace_L32 post (k + 1) best pair (nI i) x := by
  intro k
  induction k with
  | zero =>
    intro i best pair x hi h hZ hb hp
    have ein : i = n := by omega
    have ei := nIe (i := i) (by omega)
    have e4 : w_i (w_f (x_w x)) 4 = w_i t 5 := h.cnt
    show wpX5_peace_32 _ _ _ _ _ _
    unfold wpX5_peace_32
    rw [e4, t_le, h5, ei]
    refine ⟨fun _ => hp pair x (fun {p2} p2v F t1 hF hFu => ?_), fun q => by exfalso; omega⟩
    rw [ein] at hFu
    have eF : F = 0 + 1 := by omega
    have hnn : n * n ≤ 6 * 6 := Nat.mul_le_mul hn hn
    have e5 : w_i t1 5 = nI n := by rw [t_eq, hF.1 5 (by decide), h5, nIe (by omega)]
    have en := nIe (i := n) (by omega)
    have enn : (nI n * nI n).toInt = ((n * n : Nat) : Int) := by
      rw [t_mul (by rw [en, ← Int.natCast_mul]; omega), en, Int.natCast_mul]
    rw [eF, ein]
    show wpX6_peace_15 _ _ _ _ _ _
    unfold wpX6_peace_15
    rw [e5, t_le, enn, nIe (by omega)]
    exact ⟨fun _ => p2v _ (h.fs hF), fun q => by exfalso; omega⟩
  | succ k ih =>
    intro i best pair x hi h hZ hb hp
    have ei := nIe (i := i) (by omega)
    have e4 : w_i (w_f (x_w x)) 4 = w_i t 5 := h.cnt
    show wpX5_peace_32 _ _ _ _ _ _
    unfold wpX5_peace_32
    rw [e4, t_le, h5, ei, nI_1]
    refine ⟨fun q => by exfalso; omega, fun _ => ⟨n - (i + 1) + 1, ?_⟩⟩
    refine op_peaceB h5 hn (i := i) (by omega) (fun best' pair' x'' h' hZ' hb' hp' => ih (i + 1) best' pair' x'' (by omega) h' hZ' hb' hp') (n - (i + 1)) (i + 1) best pair x (by omega) (by omega) h hZ hb (fun r x' G => hp r x' (fun {p2} p2v F t1 hF hFu => ?_))
    have := r_pskip (post := p2) (x1 := best) (x2 := pair) hZ h.1 hF h5 (i := i) (by omega) (i + 1) 0 F (by omega) (by omega) (fun F' hF' => G p2v F' t1 hF hF')
    rw [Nat.add_zero] at this
    exact this
theorem op_peace {x : wXS} {t : wSt} (h : REL x t) {post : Int32 → wXS → Prop} (hp : ∀ r x', (∀ {p2 : Int32 → wSt → Prop}, (∀ t', REL x' t' → p2 r t') → wpX6_peace t p2) → post r x') : wpX5_peace x post := by
  obtain ⟨o4, -⟩ := h.1.2.2.1
  have hG := h.1.2.2.2.1
  have h6 := h.m6
  obtain ⟨n, h5⟩ := nat_of h6.1
  unfold wpX5_peace
  refine q_observe (fun z' hO => ?_)
  have hZ := ZR.ob hO h.1
  rintro z1 rfl
  refine z_most (z := z') (t := t) (N := 4) hZ (by decide) (by omega) (by show -9 ≤ (w_i (w_o (x_w x)) 4).toInt ∧ (w_i (w_o (x_w x)) 4).toInt ≤ 9; rw [o4]; exact hG.1) (fun r z2 hZ2 hr _ => ?_)
  rintro z3 rfl
  refine ⟨n + 1, ?_⟩
  have hr' : r.toInt = (m_best t 4 (w_i t 6).toInt).1 := by
    rw [hr]
    show (m_best t 4 (w_i (w_o (x_w x)) 4).toInt).1 = _
    rw [o4]
  refine op_peaceA h5 (by omega) n 0 r (-4) _ (by omega) (t := t) h hZ2 (by rw [hr']; exact m_best_ge) (fun r' x' G => hp r' x' (fun {p2} p2v => ?_))
  unfold wpX6_peace
  refine r_best (N := 4) hZ (by decide) (by omega) hG.1 (fun r2 t2 f1 hr2 _ => ?_)
  intro u e
  subst u
  have e : r2 = r := by rw [t_eq, hr2, hr']
  subst e
  refine ⟨n * n + 1, ?_⟩
  have := G p2v (n * n + 1) t2 f1 (by omega)
  rw [Nat.zero_mul] at this
  exact this
