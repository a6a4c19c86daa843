/-! ===== getters of setters ===== -/
theorem g_ii {x : wSt} {k j : Nat} {v : Int32} : w_i (w_si x k v) j = if j = k then v else w_i x j := rfl
theorem g_ia {x : wSt} {k j : Nat} {v : Nat → Int32} : w_i (w_sa x k v) j = w_i x j := rfl
theorem g_il {x : wSt} {k j : Nat} {v : Nat → Int64} : w_i (w_sl x k v) j = w_i x j := rfl
theorem g_ai {x : wSt} {k j : Nat} {v : Int32} : w_a (w_si x k v) j = w_a x j := rfl
theorem g_aa {x : wSt} {k j : Nat} {v : Nat → Int32} : w_a (w_sa x k v) j = if j = k then v else w_a x j := rfl
theorem g_al {x : wSt} {k j : Nat} {v : Nat → Int64} : w_a (w_sl x k v) j = w_a x j := rfl
theorem g_li {x : wSt} {k j : Nat} {v : Int32} : w_l (w_si x k v) j = w_l x j := rfl
theorem g_la {x : wSt} {k j : Nat} {v : Nat → Int32} : w_l (w_sa x k v) j = w_l x j := rfl
theorem g_ll {x : wSt} {k j : Nat} {v : Nat → Int64} : w_l (w_sl x k v) j = if j = k then v else w_l x j := rfl
theorem g_oo {x : wP2} {v : wSt} : w_o (w_so x v) = v := rfl
theorem g_of {x : wP2} {v : wSt} : w_o (w_sf x v) = w_o x := rfl
theorem g_fo {x : wP2} {v : wSt} : w_f (w_so x v) = w_f x := rfl
theorem g_ff {x : wP2} {v : wSt} : w_f (w_sf x v) = v := rfl
theorem g_u {f : Nat → Int32} {k j : Nat} {v : Int32} : upd f k v j = if j = k then v else f j := rfl
theorem g_v {α : Type} {f : Nat → α} {k j : Nat} {v : α} : vf_upd f k v j = if j = k then v else f j := rfl
theorem gx_o_so {x : wXS} {v : wSt} : x_o (x_so x v) = v := rfl
theorem gx_o_sw {x : wXS} {v : wP2} : x_o (x_sw x v) = x_o x := rfl
theorem gx_o_sk {x : wXS} {v : wP2} : x_o (x_sk x v) = x_o x := rfl
theorem gx_o_st {x : wXS} {v : wSt} : x_o (x_st x v) = x_o x := rfl
theorem gx_o_sn {x : wXS} {v : wSt} : x_o (x_sn x v) = x_o x := rfl
theorem gx_o_ss {x : wXS} {v : wP2} : x_o (x_ss x v) = x_o x := rfl
theorem gx_o_sh {x : wXS} {n : Nat} {v : wSt} : x_o (x_sh x n v) = x_o x := rfl
theorem gx_w_so {x : wXS} {v : wSt} : x_w (x_so x v) = x_w x := rfl
theorem gx_w_sw {x : wXS} {v : wP2} : x_w (x_sw x v) = v := rfl
theorem gx_w_sk {x : wXS} {v : wP2} : x_w (x_sk x v) = x_w x := rfl
theorem gx_w_st {x : wXS} {v : wSt} : x_w (x_st x v) = x_w x := rfl
theorem gx_w_sn {x : wXS} {v : wSt} : x_w (x_sn x v) = x_w x := rfl
theorem gx_w_ss {x : wXS} {v : wP2} : x_w (x_ss x v) = x_w x := rfl
theorem gx_w_sh {x : wXS} {n : Nat} {v : wSt} : x_w (x_sh x n v) = x_w x := rfl
theorem gx_k_so {x : wXS} {v : wSt} : x_k (x_so x v) = x_k x := rfl
theorem gx_k_sw {x : wXS} {v : wP2} : x_k (x_sw x v) = x_k x := rfl
theorem gx_k_sk {x : wXS} {v : wP2} : x_k (x_sk x v) = v := rfl
theorem gx_k_st {x : wXS} {v : wSt} : x_k (x_st x v) = x_k x := rfl
theorem gx_k_sn {x : wXS} {v : wSt} : x_k (x_sn x v) = x_k x := rfl
theorem gx_k_ss {x : wXS} {v : wP2} : x_k (x_ss x v) = x_k x := rfl
theorem gx_k_sh {x : wXS} {n : Nat} {v : wSt} : x_k (x_sh x n v) = x_k x := rfl
theorem gx_t_so {x : wXS} {v : wSt} : x_t (x_so x v) = x_t x := rfl
theorem gx_t_sw {x : wXS} {v : wP2} : x_t (x_sw x v) = x_t x := rfl
theorem gx_t_sk {x : wXS} {v : wP2} : x_t (x_sk x v) = x_t x := rfl
theorem gx_t_st {x : wXS} {v : wSt} : x_t (x_st x v) = v := rfl
theorem gx_t_sn {x : wXS} {v : wSt} : x_t (x_sn x v) = x_t x := rfl
theorem gx_t_ss {x : wXS} {v : wP2} : x_t (x_ss x v) = x_t x := rfl
theorem gx_t_sh {x : wXS} {n : Nat} {v : wSt} : x_t (x_sh x n v) = x_t x := rfl
theorem gx_n_so {x : wXS} {v : wSt} : x_n (x_so x v) = x_n x := rfl
theorem gx_n_sw {x : wXS} {v : wP2} : x_n (x_sw x v) = x_n x := rfl
theorem gx_n_sk {x : wXS} {v : wP2} : x_n (x_sk x v) = x_n x := rfl
theorem gx_n_st {x : wXS} {v : wSt} : x_n (x_st x v) = x_n x := rfl
theorem gx_n_sn {x : wXS} {v : wSt} : x_n (x_sn x v) = v := rfl
theorem gx_n_ss {x : wXS} {v : wP2} : x_n (x_ss x v) = x_n x := rfl
theorem gx_n_sh {x : wXS} {n : Nat} {v : wSt} : x_n (x_sh x n v) = x_n x := rfl
theorem gx_s_so {x : wXS} {v : wSt} : x_s (x_so x v) = x_s x := rfl
theorem gx_s_sw {x : wXS} {v : wP2} : x_s (x_sw x v) = x_s x := rfl
theorem gx_s_sk {x : wXS} {v : wP2} : x_s (x_sk x v) = x_s x := rfl
theorem gx_s_st {x : wXS} {v : wSt} : x_s (x_st x v) = x_s x := rfl
theorem gx_s_sn {x : wXS} {v : wSt} : x_s (x_sn x v) = x_s x := rfl
theorem gx_s_ss {x : wXS} {v : wP2} : x_s (x_ss x v) = v := rfl
theorem gx_s_sh {x : wXS} {n : Nat} {v : wSt} : x_s (x_sh x n v) = x_s x := rfl
theorem gx_h_so {x : wXS} {v : wSt} : x_h (x_so x v) = x_h x := rfl
theorem gx_h_sw {x : wXS} {v : wP2} : x_h (x_sw x v) = x_h x := rfl
theorem gx_h_sk {x : wXS} {v : wP2} : x_h (x_sk x v) = x_h x := rfl
theorem gx_h_st {x : wXS} {v : wSt} : x_h (x_st x v) = x_h x := rfl
theorem gx_h_sn {x : wXS} {v : wSt} : x_h (x_sn x v) = x_h x := rfl
theorem gx_h_ss {x : wXS} {v : wP2} : x_h (x_ss x v) = x_h x := rfl
theorem gx_h_sh {x : wXS} {n : Nat} {v : wSt} : x_h (x_sh x n v) = vf_upd (x_h x) n v := rfl
/-! ===== the class' state beside the reference's ===== -/
def RF (f t : wSt) : Prop := FK f ∧ w_i f 4 = w_i t 5 ∧ (∀ i : Nat, (i : Int) < (w_i t 5).toInt → w_a f 0 i = w_a t 0 i ∧ w_a f 1 i = w_a t 1 i ∧ w_a f 2 i = w_a t 2 i ∧ w_a f 3 i = w_a t 3 i) ∧ (∀ i j : Nat, (i : Int) < (w_i t 5).toInt → (j : Int) < (w_i t 5).toInt → bt (w_a t 3 i) j = bt (w_a t 3 j) i) ∧ (∀ i j : Nat, (i : Int) < (w_i t 5).toInt → (w_i t 5).toInt ≤ (j : Int) → bt (w_a t 3 i) j = false)
def RA (o t : wSt) : Prop := (∀ i : Nat, i < 6 → (w_a o 1 i).toInt = if (i : Int) < (w_i t 5).toInt then max 0 ((w_a t 4 i).toInt - (w_i t 11).toInt) else 0) ∧ (∀ i : Nat, (i : Int) < (w_i t 5).toInt → 0 ≤ (w_a t 4 i).toInt ∧ (w_a t 4 i).toInt ≤ (w_i t 11).toInt + 9)
def RO (o t : wSt) : Prop := w_i o 4 = w_i t 6 ∧ w_i o 5 = w_i t 7 ∧ w_i o 6 = w_i t 8 ∧ w_i o 7 = w_i t 9 ∧ w_i o 8 = w_i t 10 ∧ w_i o 9 = w_i t 11 ∧ w_i o 10 = w_i t 12 ∧ w_i o 3 = w_i t 14 ∧ w_i o 11 = w_i t 15
def RG (t : wSt) : Prop := (-9 ≤ (w_i t 6).toInt ∧ (w_i t 6).toInt ≤ 9) ∧ (0 ≤ (w_i t 7).toInt ∧ (w_i t 7).toInt ≤ 999) ∧ (0 ≤ (w_i t 8).toInt ∧ (w_i t 8).toInt ≤ 9) ∧ (0 ≤ (w_i t 11).toInt ∧ (w_i t 11).toInt ≤ 9999) ∧ ((w_i t 12).toInt = 9 ∨ (0 ≤ (w_i t 12).toInt ∧ (w_i t 12).toInt < (w_i t 5).toInt)) ∧ (0 ≤ (w_i t 14).toInt ∧ (w_i t 14).toInt ≤ 24) ∧ 0 ≤ (w_i t 15).toInt
def RP (o t : wSt) : Prop := ∀ i : Nat, (i : Int) < (w_i t 14).toInt → w_a o 2 i = w_a t 13 i ∧ ((w_a t 13 i).toInt = 9 ∨ (0 ≤ (w_a t 13 i).toInt ∧ (w_a t 13 i).toInt < (w_i t 5).toInt))
def WR (w : wP2) (t : wSt) : Prop := RF (w_f w) t ∧ RA (w_o w) t ∧ RO (w_o w) t ∧ RG t ∧ RP (w_o w) t
/-- the reference's image, as a state -/
def kSt (kp : Nat → Int32) : wSt := (fun k => if k = 5 then kp 54 else if k = 6 then kp 55 else if k = 7 then kp 56 else if k = 8 then kp 57 else if k = 9 then kp 58 else if k = 10 then kp 59 else if k = 11 then kp 60 else if k = 12 then kp 61 else if k = 14 then kp 62 else if k = 15 then kp 63 else 0, fun k i => if k = 0 then kp i else if k = 1 then kp (6 + i) else if k = 2 then kp (12 + i) else if k = 3 then kp (18 + i) else if k = 4 then kp (24 + i) else if k = 13 then kp (30 + i) else 0, fun _ _ => 0)
def KR (o : wSt) (k : wP2) (t : wSt) : Prop := w_i o 2 = w_i t 30 ∧ (w_i t 30 = 0 ∨ (w_i t 30 = 1 ∧ WR k (kSt (w_a t 31))))
def TR (x t : wSt) : Prop := w_i x 1 = w_i t 17 ∧ (0 ≤ (w_i t 17).toInt ∧ (w_i t 17).toInt ≤ 60) ∧ ∀ i : Nat, (i : Int) < (w_i t 17).toInt → w_a x 0 i = w_a t 16 i ∧ 32 ≤ (w_a t 16 i).toInt ∧ (w_a t 16 i).toInt ≤ 126
def SR (x : Nat → wSt) (t : wSt) : Prop := ∀ n : Nat, n < 4 → (w_i (x n) 1 = 0 ∧ (w_a t 32 n).toInt = -1) ∨ (w_i (x n) 1 = 1 ∧ w_i (x n) 2 = w_a t 32 n ∧ w_i (x n) 3 = w_a t 33 n ∧ (0 ≤ (w_a t 32 n).toInt ∧ (w_a t 32 n).toInt ≤ 2) ∧ (0 ≤ (w_a t 33 n).toInt ∧ (w_a t 33 n).toInt ≤ 24) ∧ ∀ i : Nat, i < 24 → w_l (x n) 0 i = w_l t 34 (24 * n + i))
def REL (x : wXS) (t : wSt) : Prop := WR (x_w x) t ∧ KR (x_o x) (x_k x) t ∧ TR (x_t x) t ∧ SR (x_h x) t
/-! ===== what a method of the reference leaves as it was ===== -/
def MF (I A : List Nat) (t t' : wSt) : Prop := (∀ k, k ∉ I → w_i t' k = w_i t k) ∧ (∀ k, k ∉ A → w_a t' k = w_a t k) ∧ ∀ k, w_l t' k = w_l t k
theorem MF.rf {t : wSt} : MF [] [] t t := ⟨fun _ _ => rfl, fun _ _ => rfl, fun _ => rfl⟩
theorem MF.tr {I I' A A' : List Nat} {t u v : wSt} (h : MF I A t u) (h' : MF I' A' u v) : MF (I ++ I') (A ++ A') t v :=
  ⟨fun k hk => (h'.1 k (fun q => hk (List.mem_append_right _ q))).trans (h.1 k (fun q => hk (List.mem_append_left _ q))), fun k hk => (h'.2.1 k (fun q => hk (List.mem_append_right _ q))).trans (h.2.1 k (fun q => hk (List.mem_append_left _ q))), fun k => (h'.2.2 k).trans (h.2.2 k)⟩
theorem MF.up {I I' A A' : List Nat} {t u : wSt} (h : MF I A t u) (hI : ∀ k ∈ I, k ∈ I') (hA : ∀ k ∈ A, k ∈ A') : MF I' A' t u := ⟨fun k hk => h.1 k (fun q => hk (hI k q)), fun k hk => h.2.1 k (fun q => hk (hA k q)), h.2.2⟩
theorem MF.si {t : wSt} {j : Nat} {v : Int32} : MF [j] [] t (w_si t j v) := ⟨fun k hk => by rw [g_ii, if_neg (fun e => hk (by rw [e]; exact List.mem_cons_self))], fun _ _ => rfl, fun _ => rfl⟩
theorem MF.sa {t : wSt} {j : Nat} {v : Nat → Int32} : MF [] [j] t (w_sa t j v) := ⟨fun _ _ => rfl, fun k hk => by rw [g_aa, if_neg (fun e => hk (by rw [e]; exact List.mem_cons_self))], fun _ => rfl⟩
def EQW (t t' : wSt) : Prop := (w_i t' 5 = w_i t 5 ∧ w_i t' 6 = w_i t 6 ∧ w_i t' 7 = w_i t 7 ∧ w_i t' 8 = w_i t 8 ∧ w_i t' 9 = w_i t 9 ∧ w_i t' 10 = w_i t 10 ∧ w_i t' 11 = w_i t 11 ∧ w_i t' 12 = w_i t 12 ∧ w_i t' 14 = w_i t 14 ∧ w_i t' 15 = w_i t 15) ∧ w_a t' 0 = w_a t 0 ∧ w_a t' 1 = w_a t 1 ∧ w_a t' 2 = w_a t 2 ∧ w_a t' 3 = w_a t 3 ∧ w_a t' 4 = w_a t 4 ∧ w_a t' 13 = w_a t 13
theorem WR.eq {w : wP2} {t t' : wSt} (h : WR w t) (e : EQW t t') : WR w t' := by
  obtain ⟨⟨e5, e6, e7, e8, e9, e10, e11, e12, e14, e15⟩, a0, a1, a2, a3, a4, a13⟩ := e
  unfold WR RF RA RO RG RP at *
  simp only [e5, e6, e7, e8, e9, e10, e11, e12, e14, e15, a0, a1, a2, a3, a4, a13]
  exact h
theorem KR.eq {o t t' : wSt} {k : wP2} (h : KR o k t) (e : w_i t' 30 = w_i t 30) (e2 : w_a t' 31 = w_a t 31) : KR o k t' := by
  unfold KR at *
  rw [e, e2]
  exact h
theorem TR.eq {x t t' : wSt} (h : TR x t) (e : w_i t' 17 = w_i t 17) (e2 : w_a t' 16 = w_a t 16) : TR x t' := by
  unfold TR at *
  rw [e, e2]
  exact h
theorem SR.eq {x : Nat → wSt} {t t' : wSt} (h : SR x t) (e : w_a t' 32 = w_a t 32) (e2 : w_a t' 33 = w_a t 33) (e3 : w_l t' 34 = w_l t 34) : SR x t' := by
  unfold SR at *
  rw [e, e2, e3]
  exact h
/-- the reference's scratch fields say nothing -/
theorem EQW.mf {t t' : wSt} {I A : List Nat} (h : MF I A t t') (hI : ∀ k ∈ [5, 6, 7, 8, 9, 10, 11, 12, 14, 15], k ∉ I) (hA : ∀ k ∈ [0, 1, 2, 3, 4, 13], k ∉ A) : EQW t t' :=
  ⟨⟨h.1 _ (hI 5 (by decide)), h.1 _ (hI 6 (by decide)), h.1 _ (hI 7 (by decide)), h.1 _ (hI 8 (by decide)), h.1 _ (hI 9 (by decide)), h.1 _ (hI 10 (by decide)), h.1 _ (hI 11 (by decide)), h.1 _ (hI 12 (by decide)), h.1 _ (hI 14 (by decide)), h.1 _ (hI 15 (by decide))⟩, h.2.1 _ (hA 0 (by decide)), h.2.1 _ (hA 1 (by decide)), h.2.1 _ (hA 2 (by decide)), h.2.1 _ (hA 3 (by decide)), h.2.1 _ (hA 4 (by decide)), h.2.1 _ (hA 13 (by decide))⟩
theorem REL.mf {x : wXS} {t t' : wSt} {I A : List Nat} (h : REL x t) (hf : MF I A t t') (hI : ∀ k ∈ [5, 6, 7, 8, 9, 10, 11, 12, 14, 15, 17, 30], k ∉ I) (hA : ∀ k ∈ [0, 1, 2, 3, 4, 13, 16, 31, 32, 33], k ∉ A) : REL x t' :=
  ⟨h.1.eq (EQW.mf hf (fun k hk => hI k ((by decide : ∀ k ∈ [5, 6, 7, 8, 9, 10, 11, 12, 14, 15], k ∈ [5, 6, 7, 8, 9, 10, 11, 12, 14, 15, 17, 30]) k hk)) (fun k hk => hA k ((by decide : ∀ k ∈ [0, 1, 2, 3, 4, 13], k ∈ [0, 1, 2, 3, 4, 13, 16, 31, 32, 33]) k hk))), h.2.1.eq (hf.1 _ (hI 30 (by decide))) (hf.2.1 _ (hA 31 (by decide))), h.2.2.1.eq (hf.1 _ (hI 17 (by decide))) (hf.2.1 _ (hA 16 (by decide))), h.2.2.2.eq (hf.2.1 _ (hA 32 (by decide))) (hf.2.1 _ (hA 33 (by decide))) (hf.2.2 _)⟩
/-- the well changes on both sides, the rest stays -/
theorem REL.w {x : wXS} {t t' : wSt} {w : wP2} (h : REL x t) (hw : WR w t') (e30 : w_i t' 30 = w_i t 30) (e17 : w_i t' 17 = w_i t 17) (a31 : w_a t' 31 = w_a t 31) (a16 : w_a t' 16 = w_a t 16) (a32 : w_a t' 32 = w_a t 32) (a33 : w_a t' 33 = w_a t 33) (l34 : w_l t' 34 = w_l t 34) : REL (x_sw x w) t' :=
  ⟨hw, h.2.1.eq e30 a31, h.2.2.1.eq e17 a16, h.2.2.2.eq a32 a33 l34⟩
/-! ===== at the start ===== -/
theorem REL_0 : REL zX zM := by
  refine ⟨⟨⟨⟨by decide, fun i hi => ?_⟩, rfl, fun i hi => ⟨rfl, rfl, rfl, rfl⟩, fun i j hi hj => (b_0 j).trans (b_0 i).symm, fun i j hi hj => ?_⟩, ⟨fun i hi => ?_, fun i hi => ?_⟩, ⟨rfl, rfl, rfl, rfl, rfl, rfl, rfl, rfl, rfl⟩, (by unfold RG; decide), fun i hi => ?_⟩, ⟨rfl, Or.inl rfl⟩, ⟨rfl, by decide, fun i hi => ?_⟩, fun n hn => Or.inl ⟨rfl, ?_⟩⟩
  · have h0 : (w_i (w_f (x_w zX)) 4).toInt = 0 := by decide
    omega
  · exact b_0 j
  · have h0 : (w_i zM 5).toInt = 0 := by decide
    rw [if_neg (by omega)]
    rfl
  · have h0 : (w_i zM 5).toInt = 0 := by decide
    omega
  · have h0 : (w_i zM 14).toInt = 0 := by decide
    omega
  · have h0 : (w_i zM 17).toInt = 0 := by decide
    omega
  · exact (by decide : ∀ n, n < 4 → (w_a zM 32 n).toInt = -1) n hn
