theorem enc_lt {P : PP} {i : Nat} (h : i < p_n P) : enc P i = nI i := by unfold enc; rw [if_neg (by omega)]
theorem enc_n {P : PP} : enc P (p_n P) = 9 := by unfold enc; rw [if_pos (Nat.le_refl _)]
theorem q_tryHour {P : PP} {N : Nat} : ∀ (k d h : Nat) (z : wP2) (s : SS) (b : BB) (p : Nat → Nat) (m l a acc : Int32) (A : Int) (post : wP2 → Prop), k < d → h + k = N → SX P N z → SF P z s → SP P z h p → SB P N z b → SM P m l a s → (acc.toInt = A ∧ 0 ≤ A ∧ A ≤ 9 * (h : Int)) → (∀ z', SK z z' → SF P z' s → SP P z' h p → SB P N z' (dfs P k h s A p b) → post z') → wpX1_tryHour_d d (nI h) m l a acc z post := by
  have n1 := tn1
  have n9 := tn9
  intro k
  induction k with
  | zero =>
    intro d h z s b p m l a acc A post hd hh hX hF hP hB hM hA hp
    obtain ⟨d', rfl⟩ : ∃ d', d = d' + 1 := ⟨d - 1, by omega⟩
    have hN := hX.2.2.2.2.2.2
    have h7 := hX.2.2.2.2.2.1
    have eh := nIe (i := h) (by omega)
    show wpX1_tryHour_b _ _ _ _ _ _ _ _
    unfold wpX1_tryHour_b
    rw [t_lt, h7, eh]
    refine ⟨fun q => by exfalso; omega, fun _ => q_keep hX hF (by rw [← hh]; exact hP) hB ⟨hA.1, hA.2.1, by omega⟩ (fun z' g1 g2 g3 g4 => ?_)⟩
    rintro z1 rfl
    exact hp _ g1 g2 (by rw [← hh] at g3; exact g3) g4
  | succ k ih =>
    intro d h z s b p m l a acc A post hd hh hX hF hP hB hM hA hp
    obtain ⟨d', rfl⟩ : ∃ d', d = d' + 1 := ⟨d - 1, by omega⟩
    obtain ⟨hFK, hcn, hrow, hfoe, ⟨hw5, hw0, hw9⟩, h7, hN⟩ := id hX
    obtain ⟨⟨m1, m2, m3⟩, ⟨l1, l2, l3⟩, ⟨a1, a2⟩⟩ := id hM
    have eh := nIe (i := h) (by omega)
    have hn6 := hFK.1
    have es : (w_i (w_o z) 7 - nI h).toInt = (k : Int) + 1 := by rw [t_sub (by omega), h7, eh]; omega
    have em : ((w_i (w_o z) 7 - nI h) * 9).toInt = ((k : Int) + 1) * 9 := by rw [t_mul (by rw [es, n9]; omega), es, n9]
    have ea : (acc + (w_i (w_o z) 7 - nI h) * 9).toInt = A + ((k : Int) + 1) * 9 := by rw [t_add (by omega), em, hA.1]
    show wpX1_tryHour_b _ _ _ _ _ _ _ _
    unfold wpX1_tryHour_b
    rw [t_lt, h7, eh, t_lt, hB.1, ea]
    refine ⟨fun _ => ⟨fun _ => ?_, fun c => hp z ⟨rfl, fun _ _ => rfl⟩ hF hP (by rw [dfs_cut hw0 _ _ _ _ _ _ l2 (by omega)]; exact hB)⟩, fun q => by exfalso; omega⟩
    have loop : ∀ (kk i : Nat) (z' : wP2) (b' : BB), i + kk = p_n P → SK z z' → SF P z' s → SP P z' h p → SB P N z' b' → (∀ z'', SK z z'' → SF P z'' s → SP P z'' h p → SB P N z'' (g_fold (fun c b => if p_n P ≤ c ∨ y_f s c ≤ (h : Int) then dfs P k (h + 1) (g_st P h s c) (A + g_s P s c) (fun j => if j = h then c else p j) b else b) (kk + 1) i b') → post z'') → wpX1_tryHour_L38 (wpX1_tryHour_d d') post (kk + 1) (nI h) m l a acc (nI i) z' := by
      intro kk
      induction kk with
      | zero =>
        intro i z' b' hi gK gF gP gB hq
        have ei := nIe (i := i) (by omega)
        have hX' := hX.sk gK
        show wpX1_tryHour_38 _ _ post _ _ _ _ _ _ _
        unfold wpX1_tryHour_38
        rw [t_le, hX'.2.1, ei, t_cl eh]
        refine ⟨fun _ => ⟨t_in (by omega), ?_⟩, fun q => by exfalso; omega⟩
        rintro z1 rfl
        refine q_waned (by omega) (fun r1 hr1 => q_rained (by omega) (by show -1000 ≤ (w_i (w_o z') 5).toInt ∧ (w_i (w_o z') 5).toInt ≤ 1000; rw [gK.2 5 (by decide)]; omega) (fun r2 hr2 => ?_))
        have hr2' : r2.toInt = m_rain (y_l s) (p_w P) := by
          rw [hr2, l1]
          show m_rain _ (w_i (w_o z') 5).toInt = _
          rw [gK.2 5 (by decide), hw5]
        have hmr := m_wane_rng (x := y_m s) ⟨m2, m3⟩
        have est : g_st P h s i = (m_wane (y_m s), m_rain (y_l s) (p_w P), 9, y_f s) := by unfold g_st; rw [if_neg (by omega)]
        have egs : g_s P s i = 0 := by unfold g_s; rw [if_neg (by omega)]
        rw [nI_1]
        refine ih d' (h + 1) _ (g_st P h s i) b' (fun j => if j = h then i else p j) r1 r2 9 acc A _ (by omega) (by omega) (hX.sk (gK.tr ⟨rfl, fun _ _ => rfl⟩)) (by rw [est]; exact gF) (fun j hj => ?_) gB ?_ ⟨hA.1, hA.2.1, by omega⟩ (fun z'' g1 g2 g3 g4 => ?_)
        · show upd (w_a (w_o z') 2) h 9 j = enc P (if j = h then i else p j)
          rw [g_u]
          by_cases e : j = h
          · rw [if_pos e, if_pos e]
            have : i = p_n P := by omega
            rw [this, enc_n]
          · rw [if_neg e, if_neg e]
            exact gP j (by omega)
        · rw [est]
          refine ⟨⟨by rw [hr1, m1]; rfl, hmr.1, hmr.2⟩, ⟨hr2', ?_, ?_⟩, ⟨n9, Or.inl rfl⟩⟩
          · show 0 ≤ m_rain (y_l s) (p_w P); unfold m_rain; omega
          · show m_rain (y_l s) (p_w P) ≤ 999; unfold m_rain; omega
        · rintro z2 rfl
          refine hq _ (gK.tr (SK.tr ⟨rfl, fun _ _ => rfl⟩ g1)) (by rw [est] at g2; exact g2) (fun j hj => ?_) ?_
          · have e : w_a (w_o _) 2 j = enc P (if j = h then i else p j) := g3 j (by omega)
            rw [if_neg (by omega)] at e
            exact e
          · show SB P N _ (if p_n P ≤ i ∨ y_f s i ≤ (h : Int) then dfs P k (h + 1) (g_st P h s i) (A + g_s P s i) (fun j => if j = h then i else p j) b' else b')
            rw [if_pos (Or.inl (by omega)), egs, Int.add_zero]
            exact g4
      | succ kk ihk =>
        intro i z' b' hi gK gF gP gB hq
        have ei := nIe (i := i) (by omega)
        have hX' := hX.sk gK
        obtain ⟨f1, f2, f3⟩ := gF i (by omega)
        show wpX1_tryHour_38 _ _ post _ _ _ _ _ _ _
        unfold wpX1_tryHour_38
        rw [t_le, hX'.2.1, ei, t_cl ei, t_lt, f1, eh]
        refine ⟨fun q => by exfalso; omega, fun _ => ⟨t_in (by omega), fun c => ?_, fun c => ?_⟩⟩
        · unfold wpX1_tryHour_74
          rw [nI_1]
          refine ihk (i + 1) z' b' (by omega) gK gF gP gB (fun z'' g1 g2 g3 g4 => hq z'' g1 g2 g3 ?_)
          show SB P N z'' (g_fold _ (kk + 1) (i + 1) (if p_n P ≤ i ∨ y_f s i ≤ (h : Int) then _ else b'))
          rw [if_neg (by omega)]
          exact g4
        · have hfk := hFK.2 i (by rw [hcn]; omega)
          obtain ⟨q0, q1, q2⟩ := hrow i (by omega)
          have hci : ((i : Nat) : Int) < (w_i (w_f z) 4).toInt := by rw [hcn]; omega
          have efz : w_f z' = w_f z := gK.1
          have hgp := g_p_rng (P := P) (s := s) (c := i) l2
          have hgs := g_s_rng (P := P) (s := s) (c := i) l2
          have e5 : w_i (w_o z') 5 = w_i (w_o z) 5 := gK.2 5 (by decide)
          have est : g_st P h s i = (m_wane (m_clamp (y_m s + m_felt (p_k P i) (p_f P i))), m_rain (y_l s - g_p P s i) (p_w P), (i : Int), fun j => if j = i then (h : Int) + p_r P i else y_f s j) := by unfold g_st; rw [if_pos (by omega)]
          have k33 : ∀ (r1 t0 : Int32), r1.toInt = g_p P s i → t0.toInt = g_s P s i → wpX1_tryDrawing_33 (wpX1_tryHour_d d') (fun u => ∀ z3 : wP2, z3 = u → wpX1_tryHour_74 (wpX1_tryHour_L38 (wpX1_tryHour_d d') post (kk + 1)) (wpX1_tryHour_d d') post (nI h) m l a acc (nI i) z3) (nI i) (nI h) m l acc r1 t0 z' := by
            intro r1 t0 hr1 ht0
            unfold wpX1_tryDrawing_33
            rw [t_cl ei, t_cl eh]
            refine ⟨t_in (by omega), t_in (by omega), ?_⟩
            rintro z1 rfl
            refine ⟨t_in (by omega), t_in (by omega), ?_⟩
            rintro z2 rfl
            refine q_moodBehind (i := i) (by rw [g_fo, g_fo, efz]; exact hFK) ei (by rw [g_fo, g_fo, efz]; exact hci) (by omega) (fun v1 hv1 => ?_)
            rw [g_fo, g_fo, efz, q0, q1, m1] at hv1
            have hcr := m_clamp_rng (y_m s + m_felt (p_k P i) (p_f P i))
            refine q_waned (by omega) (fun v2 hv2 => ?_)
            have hsub : (l - r1).toInt = y_l s - g_p P s i := by rw [t_sub (by omega), l1, hr1]
            refine q_rained (by omega) (by show -1000 ≤ (w_i (w_o z') 5).toInt ∧ (w_i (w_o z') 5).toInt ≤ 1000; rw [e5]; omega) (fun v3 hv3 => ?_)
            have hv3' : v3.toInt = m_rain (y_l s - g_p P s i) (p_w P) := by
              rw [hv3, hsub]
              show m_rain _ (w_i (w_o z') 5).toInt = _
              rw [e5, hw5]
            have hmr := m_wane_rng hcr
            have hrest : (w_a (w_f z') 2 i).toInt = p_r P i := by rw [efz]; exact q2
            rw [q2] at hfk
            have hfr : (nI h + w_a (w_f z') 2 i).toInt = (h : Int) + p_r P i := by rw [t_add (by omega), eh, hrest]
            rw [nI_1]
            refine ih d' (h + 1) _ (g_st P h s i) b' (fun j => if j = h then i else p j) v2 v3 (nI i) (acc + t0) (A + g_s P s i) _ (by omega) (by omega) (hX.sk (gK.tr ⟨rfl, fun _ _ => rfl⟩)) (fun j hj => ?_) (fun j hj => ?_) gB ?_ ⟨by rw [t_add (by omega), hA.1, ht0], by omega, by omega⟩ (fun z'' g1 g2 g3 g4 => ?_)
            · rw [est]
              show (upd (w_a (w_o z') 1) i (nI h + w_a (w_f z') 2 i) j).toInt = (if j = i then (h : Int) + p_r P i else y_f s j) ∧ 0 ≤ (if j = i then (h : Int) + p_r P i else y_f s j) ∧ (if j = i then (h : Int) + p_r P i else y_f s j) ≤ 20
              rw [g_u]
              by_cases e : j = i
              · rw [if_pos e, if_pos e]
                exact ⟨hfr, by omega, by omega⟩
              · rw [if_neg e, if_neg e]
                exact gF j hj
            · show upd (w_a (w_o z') 2) h (nI i) j = enc P (if j = h then i else p j)
              rw [g_u]
              by_cases e : j = h
              · rw [if_pos e, if_pos e, enc_lt (by omega)]
              · rw [if_neg e, if_neg e]
                exact gP j (by omega)
            · rw [est]
              refine ⟨⟨by rw [hv2, hv1]; rfl, hmr.1, hmr.2⟩, ⟨hv3', ?_, ?_⟩, ⟨ei, Or.inr ⟨?_, ?_⟩⟩⟩
              · show 0 ≤ m_rain (y_l s - g_p P s i) (p_w P); unfold m_rain; omega
              · show m_rain (y_l s - g_p P s i) (p_w P) ≤ 999; unfold m_rain; omega
              · show (0 : Int) ≤ (i : Int); omega
              · show (i : Int) < (p_n P : Int); omega
            · intro z3 e3
              subst z3
              refine ⟨t_in (by omega), ?_⟩
              rintro z4 rfl
              rintro z5 rfl
              unfold wpX1_tryHour_74
              rw [nI_1]
              refine ihk (i + 1) _ (dfs P k (h + 1) (g_st P h s i) (A + g_s P s i) (fun j => if j = h then i else p j) b') (by omega) (gK.tr ((SK.tr ⟨rfl, fun _ _ => rfl⟩ g1).tr ⟨rfl, fun _ _ => rfl⟩)) (fun j hj => ?_) (fun j hj => ?_) g4 (fun z6 x1 x2 x3 x4 => hq z6 x1 x2 x3 ?_)
              · have g := g2 j hj
                rw [est] at g
                have g' : (w_a (w_o z'') 1 j).toInt = (if j = i then (h : Int) + p_r P i else y_f s j) ∧ 0 ≤ (if j = i then (h : Int) + p_r P i else y_f s j) ∧ (if j = i then (h : Int) + p_r P i else y_f s j) ≤ 20 := g
                show (upd (w_a (w_o z'') 1) i (w_a (w_o z') 1 i) j).toInt = _ ∧ _
                rw [g_u]
                by_cases e : j = i
                · rw [if_pos e, e]
                  exact ⟨f1, f2, f3⟩
                · rw [if_neg e]
                  rw [if_neg e] at g'
                  exact g'
              · have e : w_a (w_o z'') 2 j = enc P (if j = h then i else p j) := g3 j (by omega)
                rw [if_neg (by omega)] at e
                exact e
              · show SB P N z6 (g_fold _ (kk + 1) (i + 1) (if p_n P ≤ i ∨ y_f s i ≤ (h : Int) then _ else b'))
                rw [if_pos (Or.inr (by omega))]
                exact x4
          have hsw : m_swt (w_a (w_f z') 0 i).toInt m.toInt ↔ (p_k P i = 1 ∨ (p_k P i = 0 ∧ 0 ≤ y_m s)) := by rw [efz, q0, m1]; rfl
          have fin : ∀ (r1 : Int32), r1.toInt = g_p P s i → wpX0_isSweet (nI i) m (w_f z') (fun r2 => ((r2 = 0 → (wpX1_tryDrawing_33 (wpX1_tryHour_d d') (fun u => ∀ z3 : wP2, z3 = u → wpX1_tryHour_74 (wpX1_tryHour_L38 (wpX1_tryHour_d d') post (kk + 1)) (wpX1_tryHour_d d') post (nI h) m l a acc (nI i) z3) (nI i) (nI h) m l acc r1 (0 : Int32) z')) ∧ (¬ r2 = 0 → (wpX1_tryDrawing_33 (wpX1_tryHour_d d') (fun u => ∀ z3 : wP2, z3 = u → wpX1_tryHour_74 (wpX1_tryHour_L38 (wpX1_tryHour_d d') post (kk + 1)) (wpX1_tryHour_d d') post (nI h) m l a acc (nI i) z3) (nI i) (nI h) m l acc r1 r1 z')))) := by
            intro r1 hr1
            refine q_isSweet (by rw [efz]; exact hFK) ei (by rw [efz]; exact hci) (fun sw => c1 (k33 r1 r1 hr1 ?_)) (fun sw => c0 (k33 r1 0 hr1 ?_))
            · unfold g_s
              rw [if_pos (by omega), if_pos (hsw.mp sw)]
              exact hr1
            · unfold g_s
              rw [if_pos (by omega), if_neg (fun q => sw (hsw.mpr q)), tn0]
          unfold wpX1_tryDrawing
          refine q_pailsBehind (i := i) (by rw [efz]; exact hFK) ei (by rw [efz]; exact hci) (by omega) (fun j r1 hj hcj hm hr => fin r1 ?_) (fun r1 hno hr => fin r1 ?_)
          · rw [efz, hcn] at hcj
            rw [efz] at hm
            have hq := (hfoe i j (by omega) (by omega)).mp hm
            unfold g_p
            have ej : (y_a s).toNat = j := by omega
            rw [if_pos (by omega), if_pos ⟨by omega, by rw [ej]; exact hq⟩]
            exact hr
          · unfold g_p
            rw [if_pos (by omega), if_neg ?_, hr, efz, q0, m1, l1]
            rintro ⟨x9, xq⟩
            obtain ⟨j, hj⟩ := nat_of (x := a) (by omega)
            have ej : (y_a s).toNat = j := by omega
            rw [ej] at xq
            refine hno j hj (by rw [efz, hcn]; omega) ?_
            rw [efz]
            exact (hfoe i j (by omega) (by omega)).mpr xq
    obtain ⟨c, hc⟩ : ∃ c, c = p_n P := ⟨_, rfl⟩
    refine ⟨c + 1, loop c 0 z b (by omega) ⟨rfl, fun _ _ => rfl⟩ hF hP hB (fun z'' g1 g2 g3 g4 => hp z'' g1 g2 g3 ?_)⟩
    rw [hc] at g4
    exact g4
