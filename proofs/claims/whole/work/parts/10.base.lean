/-! ===== states: a cell list's numbers, by their slots ===== -/
abbrev wSt : Type := (Nat → Int32) × (Nat → Nat → Int32) × (Nat → Nat → Int64)
def w_i (x : wSt) (k : Nat) : Int32 := x.1 k
def w_a (x : wSt) (k : Nat) : Nat → Int32 := x.2.1 k
def w_l (x : wSt) (k : Nat) : Nat → Int64 := x.2.2 k
def w_si (x : wSt) (k : Nat) (v : Int32) : wSt := (vf_upd x.1 k v, x.2)
def w_sa (x : wSt) (k : Nat) (v : Nat → Int32) : wSt := (x.1, vf_upd x.2.1 k v, x.2.2)
def w_sl (x : wSt) (k : Nat) (v : Nat → Int64) : wSt := (x.1, x.2.1, vf_upd x.2.2 k v)
/-- two of them: a Well or a Search, and its Folk -/
abbrev wP2 : Type := wSt × wSt
def w_o (x : wP2) : wSt := x.1
def w_f (x : wP2) : wSt := x.2
def w_so (x : wP2) (v : wSt) : wP2 := (v, x.2)
def w_sf (x : wP2) (v : wSt) : wP2 := (x.1, v)
/-- the whole of a WellMoods: own, well, kept, tape, newcomers, search, sheets -/
abbrev wXS : Type := wSt × wP2 × wP2 × wSt × wSt × wP2 × (Nat → wSt)
def x_o (x : wXS) : wSt := x.1
def x_w (x : wXS) : wP2 := x.2.1
def x_k (x : wXS) : wP2 := x.2.2.1
def x_t (x : wXS) : wSt := x.2.2.2.1
def x_n (x : wXS) : wSt := x.2.2.2.2.1
def x_s (x : wXS) : wP2 := x.2.2.2.2.2.1
def x_h (x : wXS) : Nat → wSt := x.2.2.2.2.2.2
def x_so (x : wXS) (v : wSt) : wXS := (v, x.2)
def x_sw (x : wXS) (v : wP2) : wXS := (x.1, v, x.2.2)
def x_sk (x : wXS) (v : wP2) : wXS := (x.1, x.2.1, v, x.2.2.2)
def x_st (x : wXS) (v : wSt) : wXS := (x.1, x.2.1, x.2.2.1, v, x.2.2.2.2)
def x_sn (x : wXS) (v : wSt) : wXS := (x.1, x.2.1, x.2.2.1, x.2.2.2.1, v, x.2.2.2.2.2)
def x_ss (x : wXS) (v : wP2) : wXS := (x.1, x.2.1, x.2.2.1, x.2.2.2.1, x.2.2.2.2.1, v, x.2.2.2.2.2.2)
def x_sh (x : wXS) (n : Nat) (v : wSt) : wXS := (x.1, x.2.1, x.2.2.1, x.2.2.2.1, x.2.2.2.2.1, x.2.2.2.2.2.1, vf_upd x.2.2.2.2.2.2 n v)
/-! ===== worlds ===== -/
/-- the tables' numbers: of the classes, and of the rows of ints, bytes, longs, sheets -/
abbrev wG : Type := va_G × ClassId × ClassId × ClassId × ClassId
abbrev xtys (G : wG) : List (ClassId × FieldType) := [(G.2.1, .int), (G.2.2.1, .byte), (G.2.2.2.1, .long), (G.2.2.2.2, .object "WellMoods$Sheet")]
abbrev sh (h : Nat → Nat) (k : Nat) : Nat → Nat := fun i => h (k + i)
def wsFolk (G : wG) (h : Nat → Nat) (f : wSt) : va_W :=
  [(h 0, .inr (0, [.ref (h 1), .ref (h 2), .ref (h 3), .ref (h 4), .int (w_i f 4)])), (h 1, .inl (G.2.1, 6, .inl (w_a f 0))), (h 2, .inl (G.2.1, 6, .inl (w_a f 1))), (h 3, .inl (G.2.1, 6, .inl (w_a f 2))), (h 4, .inl (G.2.1, 6, .inl (w_a f 3)))]
def wsWell (G : wG) (h : Nat → Nat) (w : wP2) : va_W :=
  (h 0, .inr (4, [.ref (h 3), .ref (h 1), .ref (h 2), .int (w_i (w_o w) 3), .int (w_i (w_o w) 4), .int (w_i (w_o w) 5), .int (w_i (w_o w) 6), .int (w_i (w_o w) 7), .int (w_i (w_o w) 8), .int (w_i (w_o w) 9), .int (w_i (w_o w) 10), .int (w_i (w_o w) 11)])) :: (h 1, .inl (G.2.1, 6, .inl (w_a (w_o w) 1))) :: (h 2, .inl (G.2.1, 24, .inl (w_a (w_o w) 2))) :: wsFolk G (sh h 3) (w_f w)
def wsSearch (G : wG) (h : Nat → Nat) (w : wP2) : va_W :=
  (h 0, .inr (1, [.ref (h 4), .ref (h 1), .ref (h 2), .ref (h 3), .int (w_i (w_o w) 4), .int (w_i (w_o w) 5), .int (w_i (w_o w) 6), .int (w_i (w_o w) 7), .int (w_i (w_o w) 8)])) :: (h 1, .inl (G.2.1, 6, .inl (w_a (w_o w) 1))) :: (h 2, .inl (G.2.1, 5, .inl (w_a (w_o w) 2))) :: (h 3, .inl (G.2.1, 5, .inl (w_a (w_o w) 3))) :: wsFolk G (sh h 4) (w_f w)
def wsTape (G : wG) (h : Nat → Nat) (t : wSt) : va_W :=
  [(h 0, .inr (3, [.ref (h 1), .int (w_i t 1), .int (w_i t 2)])), (h 1, .inl (G.2.2.1, 60, .inl (w_a t 0)))]
def wsSheet (G : wG) (h : Nat → Nat) (t : wSt) : va_W :=
  [(h 0, .inr (2, [.ref (h 1), .int (w_i t 1), .int (w_i t 2), .int (w_i t 3)])), (h 1, .inl (G.2.2.2.1, 24, .inr (.inl (w_l t 0))))]
def wsArr (G : wG) (h : Nat → Nat) (n : Nat) (f : Nat → Int32) : va_W := [(h 0, .inl (G.2.1, n, .inl f))]
def wsX (G : wG) (h : Nat → Nat) (x : wXS) : va_W :=
  (h 0, .inr (5, [.ref (h 1), .ref (h 9), .int (w_i (x_o x) 2), .ref (h 17), .ref (h 19), .ref (h 24), .ref (h 25), .ref (h 34)])) :: (wsWell G (sh h 1) (x_w x) ++ (wsWell G (sh h 9) (x_k x) ++ (wsTape G (sh h 17) (x_t x) ++ (wsFolk G (sh h 19) (x_n x) ++ ((h 24, .inl (G.2.1, 24, .inl (w_a (x_o x) 5))) :: (wsSearch G (sh h 25) (x_s x) ++ ((h 34, .inl (G.2.2.2.2, 4, .inr (.inr (.inr (.inr (fun j => some (h (35 + 2 * j)))))))) :: (wsSheet G (sh h 35) (x_h x 0) ++ (wsSheet G (sh h 37) (x_h x 1) ++ (wsSheet G (sh h 39) (x_h x 2) ++ wsSheet G (sh h 41) (x_h x 3)))))))))))
def wsM (G : wG) (h : Nat → Nat) (f : wSt) : va_W :=
  [(h 0, .inr (6, [.ref (h 1), .ref (h 2), .ref (h 3), .ref (h 4), .ref (h 5), .int (w_i f 5), .int (w_i f 6), .int (w_i f 7), .int (w_i f 8), .int (w_i f 9), .int (w_i f 10), .int (w_i f 11), .int (w_i f 12), .ref (h 6), .int (w_i f 14), .int (w_i f 15), .ref (h 7), .int (w_i f 17), .int (w_i f 18), .int (w_i f 19), .ref (h 8), .int (w_i f 21), .int (w_i f 22), .int (w_i f 23), .int (w_i f 24), .int (w_i f 25), .int (w_i f 26), .ref (h 9), .ref (h 10), .ref (h 11), .int (w_i f 30), .ref (h 12), .ref (h 13), .ref (h 14), .ref (h 15), .ref (h 16)])),
   (h 1, .inl (G.2.1, 6, .inl (w_a f 0))), (h 2, .inl (G.2.1, 6, .inl (w_a f 1))), (h 3, .inl (G.2.1, 6, .inl (w_a f 2))), (h 4, .inl (G.2.1, 6, .inl (w_a f 3))), (h 5, .inl (G.2.1, 6, .inl (w_a f 4))),
   (h 6, .inl (G.2.1, 24, .inl (w_a f 13))), (h 7, .inl (G.2.1, 60, .inl (w_a f 16))), (h 8, .inl (G.2.1, 24, .inl (w_a f 20))), (h 9, .inl (G.2.1, 6, .inl (w_a f 27))), (h 10, .inl (G.2.1, 5, .inl (w_a f 28))), (h 11, .inl (G.2.1, 5, .inl (w_a f 29))),
   (h 12, .inl (G.2.1, 64, .inl (w_a f 31))), (h 13, .inl (G.2.1, 4, .inl (w_a f 32))), (h 14, .inl (G.2.1, 4, .inl (w_a f 33))), (h 15, .inl (G.2.2.2.1, 96, .inr (.inl (w_l f 34)))), (h 16, .inl (G.2.2.2.1, 24, .inr (.inl (w_l f 35))))]
/-! ===== what the tables know ===== -/
theorem big_good : ∀ w ∈ BIG, goodWord w = true := fun _ h => (List.mem_filter.mp h).2
theorem big_tbl : ∀ w ∈ BIG, w ∈ lw_tbl := fun _ h => (List.mem_filter.mp h).1
theorem gIn {l : List Cond} (h : ∀ w ∈ l, w ∈ BIG) : GoodIn BIG l := fun w hw => ⟨h w hw, good_of_word (big_good w (h w hw))⟩
def wNW (U : State) : Prop := ∀ w ∈ NWL, va_Nw w U
theorem nest_tab {w : Cond} (h : isNest w = true) : w.onTables = true := by
  cases w <;> first | rfl | (simp [isNest] at h; done)
theorem wNW.warm {s U : State} (hW : s.WarmedH U.vm) (h : wNW s) : wNW U := by
  intro w hw
  have hn : isNest w = true := (List.mem_filter.mp hw).2
  have hz := h w hw
  cases w <;> first | (simp [isNest] at hn; done) | exact va_Nw.warmF hW hz | exact va_Nw.warmM hW hz
theorem wNW.same {u U : State} (e : u.vm = U.vm) (h : wNW u) : wNW U := fun w hw => va_Nw.same (nest_tab (List.mem_filter.mp hw).2) e (h w hw)
theorem wNW.at {w : Cond} {args : Array Value} {U : State} (h : wNW U) (hw : w ∈ NWL) : w.before args U = true := va_Nw.use (nest_tab (List.mem_filter.mp hw).2) (h w hw)
def wKK (G : wG) (U : State) : Prop := va_K G.1 vwCl (xtys G) U ∧ wNW U
theorem wKK.warm {G : wG} {s U : State} (hW : s.WarmedH U.vm) (h : wKK G s) : wKK G U := ⟨va_K.moved hW.alike h.1, h.2.warm hW⟩
theorem wKK.same {G : wG} {u U : State} (e : u.vm = U.vm) (h : wKK G u) : wKK G U := ⟨va_K.moved (by rw [e]; exact Vm.Alike.refl _) h.1, h.2.same e⟩
/-! ===== contracts: what a method finds, what it leaves ===== -/
abbrev xPw (G : wG) (av : List Value) (ws : va_W) (sz : Nat) : Array Value → State → Prop := va_Pc av (fun U => U.heap.size = sz ∧ va_P G.1 vwCl ws U.heap ∧ wKK G U ∧ va_D (fun _ => True) ws)
abbrev xPr (G : wG) (av : List Value) (ws : va_W) : Array Value → State → Prop := va_Pc av (fun U => va_P G.1 vwCl ws U.heap ∧ wKK G U)
abbrev xQi {S : Type} (G : wG) (post : Int32 → S → Prop) (w1 : S → va_W) (A : Nat → Prop) : Array Value → State → Outcome → State → Prop := va_Qi post (fun u t => va_P G.1 vwCl (w1 u) t.heap ∧ va_D A (w1 u)) A
abbrev xQv {S : Type} (G : wG) (post : S → Prop) (w1 : S → va_W) (A : Nat → Prop) : Array Value → State → Outcome → State → Prop := va_Qv post (fun u t => va_P G.1 vwCl (w1 u) t.heap ∧ va_D A (w1 u)) A
theorem xPw_blind {G : wG} {av : List Value} {ws : va_W} {sz : Nat} : FrameBlind (xPw G av ws sz) := fun a U g mk q => by
  obtain ⟨q0, q1, qP, qK, qD⟩ := q
  exact ⟨q0, q1, qP, wKK.same (u := U) (U := U.calling g mk a) rfl qK, qD⟩
theorem xPr_blind {G : wG} {av : List Value} {ws : va_W} : FrameBlind (xPr G av ws) := fun a U g mk q => by
  obtain ⟨q0, qP, qK⟩ := q
  exact ⟨q0, qP, wKK.same (u := U) (U := U.calling g mk a) rfl qK⟩
theorem xm_w {l : Launch} {y : MethodName} {cc : ByteArray} {maxL : Nat} {ret : Option FieldType} {rm : Room} {G : wG} {av : List Value} {ws : va_W} {sz : Nat} {Qf : (Nat → Prop) → Array Value → State → Outcome → State → Prop} (hy : plainName y.cls = true) (hn : (lg_sl av).length ≤ maxL)
    (body : ∀ (p : Program) (e : Env) (s : State) (m : MethodId) (below : List Frame) (meth : Method) (c : Code) (A : Nat → Prop) (ls : Array Slot), CallFix p m c cc maxL s av.toArray BIG y.cls → meth.sig.returnType = ret → meth.locks = false → meth.name = y.name → wKK G s → (∀ q, s.heap.size ≤ q → A q) → va_P G.1 vwCl ws s.heap → va_D A ws → va_S A s.heap s.heap [] → lv_has ls maxL (lv_args 0 av) →
      W p l e rm s m av.toArray below meth c s.heap [] 0 0 (MQ below (Qf A) av.toArray s rm.cells rm.slots A) (F0 m 0 ls [])) :
    Met l y (.code y cc maxL ret :: BIG) rm (xPw G av ws sz) (Qf (va_A ws sz)) rm.cells rm.slots (va_A ws sz) := by
  refine Met.ofW (cc := cc) (maxL := maxL) (ret := ret) hy rfl ?_
  intro p e s m args below meth c s₁ B hml hv
  obtain ⟨rfl, hsz, hP, hK, hD0⟩ := hv
  have hts := atoms_spec (ws := .code y cc maxL ret :: BIG) B.pre
  subst hsz
  have hl := lv_entry av (n := maxL) hn
  rw [lg_entry_eq]
  exact body p e s m below meth c _ _ ⟨B.exec, B.bytes, hml, findClass_of_methodNamed B.named, fun w h => hts w (List.mem_cons_of_mem _ h)⟩ B.returns B.notSynchronized (name_of_methodNamed B.named B.method).1 hK (fun q h => Or.inr h) hP (hD0.self (sz := s.heap.size)) va_S.rf hl
theorem xm_r {l : Launch} {y : MethodName} {cc : ByteArray} {maxL : Nat} {ret : Option FieldType} {rm : Room} {G : wG} {av : List Value} {ws : va_W} {Qc : Array Value → State → Outcome → State → Prop} (hy : plainName y.cls = true) (hn : (lg_sl av).length ≤ maxL)
    (body : ∀ (p : Program) (e : Env) (s : State) (m : MethodId) (below : List Frame) (meth : Method) (c : Code) (ls : Array Slot), CallFix p m c cc maxL s av.toArray BIG y.cls → meth.sig.returnType = ret → meth.locks = false → wKK G s → va_P G.1 vwCl ws s.heap → lv_has ls maxL (lv_args 0 av) →
      W p l e rm s m av.toArray below meth c s.heap [] 0 0 (MQ below Qc av.toArray s 0 0 (fun _ => False)) (F0 m 0 ls [])) :
    Met l y (.code y cc maxL ret :: BIG) rm (xPr G av ws) Qc 0 0 (fun _ => False) := by
  refine Met.ofW (cc := cc) (maxL := maxL) (ret := ret) hy rfl ?_
  intro p e s m args below meth c s₁ B hml hv
  obtain ⟨rfl, hP, hK⟩ := hv
  have hts := atoms_spec (ws := .code y cc maxL ret :: BIG) B.pre
  have hl := lv_entry av (n := maxL) hn
  rw [lg_entry_eq]
  exact body p e s m below meth c _ ⟨B.exec, B.bytes, hml, findClass_of_methodNamed B.named, fun w h => hts w (List.mem_cons_of_mem _ h)⟩ B.returns B.notSynchronized hK hP hl
/-! ===== a method's end ===== -/
section XE
variable {p : Program} {l : Launch} {e : Env} {R : Room} {s : State} {m : MethodId} {args : Array Value} {below : List Frame} {meth : Method} {c : Code} {H : Heap} {locs : List Loc} {cells slots : Nat}
variable {cc : ByteArray} {nL : Nat} {own : String} {pc : Nat} {ls : Array Slot} {A : Nat → Prop} {G : wG}
theorem xe_wi {S : Type} {post : Int32 → S → Prop} {w1 : S → va_W} {v : Int32} {u : S} (hC : CallFix p m c cc nL s args BIG own) (hr : meth.sig.returnType = some .int) (hlk : meth.locks = false) (hw : post v u) (hP : va_P G.1 vwCl (w1 u) H) (hD : va_D A (w1 u)) (hS : va_S A s.heap H locs) (hdg : decode cc pc = .ok (.ireturn, 1)) : W p l e R s m args below meth c H locs cells slots (MQ below (xQi G post w1 A) args s cells slots A) (F0 m pc ls [.int v]) :=
  W.iret hC.1 hC.2.1 hr (fun t ht hW => ⟨⟨v, u, rfl, hw, by rw [ht]; exact hP, hD⟩, hS.F ht⟩) hS.2.2 hdg hlk
theorem xe_wz {S : Type} {post : Int32 → S → Prop} {w1 : S → va_W} {v : Int32} {u : S} (hC : CallFix p m c cc nL s args BIG own) (hr : meth.sig.returnType = some .boolean) (hlk : meth.locks = false) (hn : narrow .boolean (.int v) = .int v) (hw : post v u) (hP : va_P G.1 vwCl (w1 u) H) (hD : va_D A (w1 u)) (hS : va_S A s.heap H locs) (hdg : decode cc pc = .ok (.ireturn, 1)) : W p l e R s m args below meth c H locs cells slots (MQ below (xQi G post w1 A) args s cells slots A) (F0 m pc ls [.int v]) :=
  W.zret hC.1 hC.2.1 hr hn (fun t ht hW => ⟨⟨v, u, rfl, hw, by rw [ht]; exact hP, hD⟩, hS.F ht⟩) hS.2.2 hdg hlk
theorem xe_wv {S : Type} {post : S → Prop} {w1 : S → va_W} {u : S} (hC : CallFix p m c cc nL s args BIG own) (hr : meth.sig.returnType = none) (hlk : meth.locks = false) (hw : post u) (hP : va_P G.1 vwCl (w1 u) H) (hD : va_D A (w1 u)) (hS : va_S A s.heap H locs) (hdg : decode cc pc = .ok (.return_, 1)) : W p l e R s m args below meth c H locs cells slots (MQ below (xQv G post w1 A) args s cells slots A) (F0 m pc ls []) :=
  W.vret hC.1 hC.2.1 hr (fun t ht hW => ⟨⟨u, rfl, hw, by rw [ht]; exact hP, hD⟩, hS.F ht⟩) hS.2.2 hdg hlk
theorem xe_ri {post : Int32 → Prop} {v : Int32} (hC : CallFix p m c cc nL s args BIG own) (hr : meth.sig.returnType = some .int) (hlk : meth.locks = false) (hw : post v) (hdg : decode cc pc = .ok (.ireturn, 1)) : W p l e R s m args below meth c s.heap [] 0 0 (MQ below (vp_Si post) args s 0 0 (fun _ => False)) (F0 m pc ls [.int v]) :=
  W.iret hC.1 hC.2.1 hr (fun t ht hW => ⟨v, rfl, hw, ht⟩) (fun _ h => by cases h) hdg hlk
theorem xe_rz {post : Int32 → Prop} {v : Int32} (hC : CallFix p m c cc nL s args BIG own) (hr : meth.sig.returnType = some .boolean) (hlk : meth.locks = false) (hn : narrow .boolean (.int v) = .int v) (hw : post v) (hdg : decode cc pc = .ok (.ireturn, 1)) : W p l e R s m args below meth c s.heap [] 0 0 (MQ below (vp_Si post) args s 0 0 (fun _ => False)) (F0 m pc ls [.int v]) :=
  W.zret hC.1 hC.2.1 hr hn (fun t ht hW => ⟨v, rfl, hw, ht⟩) (fun _ h => by cases h) hdg hlk
theorem xe_rl {post : Int64 → Prop} {v : Int64} (hC : CallFix p m c cc nL s args BIG own) (hr : meth.sig.returnType = some .long) (hlk : meth.locks = false) (hw : post v) (hdg : decode cc pc = .ok (.lreturn, 1)) : W p l e R s m args below meth c s.heap [] 0 0 (MQ below (vp_Sl post) args s 0 0 (fun _ => False)) (F0 m pc ls [.long v]) :=
  W.lret hC.1 hC.2.1 hr (fun t ht hW => ⟨v, rfl, hw, ht⟩) (fun _ h => by cases h) hdg hlk
end XE
/-! ===== calls ===== -/
def xCalV (y : MethodName) (bytes : ByteArray) (maxL : Nat) (ret : Option FieldType) (n : Nat) : Prop := Cond.instanceMethod y ∈ BIG ∧ Cond.selects y.cls y y ∈ BIG ∧ Cond.initialized y.cls ∈ BIG ∧ Cond.code y bytes maxL ret ∈ BIG ∧ y.cls ≠ "java/lang/invoke/MethodHandle" ∧ y.cls ≠ "java/lang/invoke/VarHandle" ∧ (parseMethodDescriptor y.desc).map (fun d => d.parameters.length) = some n
def xCalS (y : MethodName) (bytes : ByteArray) (maxL : Nat) (ret : Option FieldType) (n : Nat) : Prop := Cond.static y ∈ BIG ∧ Cond.initialized y.cls ∈ BIG ∧ Cond.code y bytes maxL ret ∈ BIG ∧ y.cls ≠ "java/lang/invoke/MethodHandle" ∧ y.cls ≠ "java/lang/invoke/VarHandle" ∧ (parseMethodDescriptor y.desc).map (fun d => d.parameters.length) = some n
section XR
variable {p : Program} {l : Launch} {e : Env} {R : Room} {s : State} {m : MethodId} {args : Array Value} {below : List Frame} {meth : Method} {c : Code} {H : Heap} {locs : List Loc} {cells slots : Nat}
variable {cc bytes : ByteArray} {nL maxL n index : Nat} {own host : String} {y : MethodName} {ret : Option FieldType} {rm : Room} {pc : Nat} {ls : Array Slot} {st0 : List Value} {G : wG} {mc ms : Nat}
variable {Pc : Array Value → State → Prop} {Qc : Array Value → State → Outcome → State → Prop} {free : Addr → Prop} {lv : List (Nat × Value)}
theorem xr_V (hC : CallFix p m c cc nL s args BIG own) (hM : Met l y (.code y bytes maxL ret :: BIG) rm Pc Qc mc ms free) (hrm : rm.cells = mc ∧ rm.slots = ms) (hk : Cond.methodLink own index y ∈ BIG) (ca : xCalV y bytes maxL ret n) (hR : rm.frames + 1 ≤ R.frames ∧ 8 + (maxL + 11) + rm.locals ≤ R.locals) {b : Addr} {As rest : List Value} (hp : PreV s H y.cls b Pc As) (hn : As.length = n) (hl : lv_has ls nL lv) (hst : st0 = As.reverse ++ .ref b :: rest) (hW : (rest.map fun v => v.category).sum ≤ 8) (hdg : decode cc pc = .ok (.invokevirtual index, 3)) (hf : cells + mc ≤ R.cells ∧ slots + ms ≤ R.slots) : va_Run p l e R s m args below meth c H locs cells slots mc ms (F0 m pc ls st0) rest (Qc (Value.ref b :: As).toArray) free := by
  obtain ⟨a1, a2, a3, a4, a5, a6, a7⟩ := ca
  refine va_runV hC hM (cwV n hC.2.2.2.2 (gIn ?_) rfl hrm.1 hrm.2 ⟨rfl, a5, a6, a7⟩ hR) hp rfl hn hl.1 hst (lv_room hW) hdg hf
  intro w hw
  rcases List.mem_append.mp hw with h | h
  · simp only [List.mem_cons, List.not_mem_nil, or_false] at h
    rcases h with rfl | rfl | rfl | rfl <;> assumption
  · rcases List.mem_cons.mp h with rfl | h <;> assumption
theorem xr_VN (hC : CallFix p m c cc nL s args BIG own) (hN : wNW s) (hM : Met l y (.code y bytes maxL ret :: BIG) rm Pc Qc mc ms free) (hrm : rm.cells = mc ∧ rm.slots = ms) (hk : Cond.methodLinkNest own index y host ∈ NWL) (ca : xCalV y bytes maxL ret n) (hR : rm.frames + 1 ≤ R.frames ∧ 8 + (maxL + 11) + rm.locals ≤ R.locals) {b : Addr} {As rest : List Value} (hp : PreV s H y.cls b Pc As) (hn : As.length = n) (hl : lv_has ls nL lv) (hst : st0 = As.reverse ++ .ref b :: rest) (hW : (rest.map fun v => v.category).sum ≤ 8) (hdg : decode cc pc = .ok (.invokevirtual index, 3)) (hf : cells + mc ≤ R.cells ∧ slots + ms ≤ R.slots) : va_Run p l e R s m args below meth c H locs cells slots mc ms (F0 m pc ls st0) rest (Qc (Value.ref b :: As).toArray) free := by
  obtain ⟨a1, a2, a3, a4, a5, a6, a7⟩ := ca
  have hB := hC.2.2.2.2
  refine va_runVN hC hM ⟨va_cnB n hB (gIn ?_) rfl hrm.1 hrm.2 (hN _ hk) (hB _ a3) ⟨a5, a6, a7⟩ hR, hB _ a1, hB _ a2⟩ hp rfl hn hl.1 hst (lv_room hW) hdg hf
  intro w hw
  rcases List.mem_cons.mp hw with rfl | h <;> assumption
theorem xr_S (hC : CallFix p m c cc nL s args BIG own) (hM : Met l y (.code y bytes maxL ret :: BIG) rm Pc Qc mc ms free) (hrm : rm.cells = mc ∧ rm.slots = ms) (hk : Cond.methodLink own index y ∈ BIG) (ca : xCalS y bytes maxL ret n) (hR : rm.frames + 1 ≤ R.frames ∧ 8 + (maxL + 11) + rm.locals ≤ R.locals) {As rest : List Value} (hp : PreS s H Pc As) (hn : As.length = n) (hl : lv_has ls nL lv) (hst : st0 = As.reverse ++ rest) (hW : (rest.map fun v => v.category).sum ≤ 8) (hdg : decode cc pc = .ok (.invokestatic index, 3)) (hf : cells + mc ≤ R.cells ∧ slots + ms ≤ R.slots) : va_Run p l e R s m args below meth c H locs cells slots mc ms (F0 m pc ls st0) rest (Qc As.toArray) free := by
  obtain ⟨a1, a3, a4, a5, a6, a7⟩ := ca
  refine va_runS hC hM (va_cwS n hC.2.2.2.2 (gIn ?_) rfl hrm.1 hrm.2 ⟨a5, a6, a7⟩ hR) hp rfl hn hl.1 hst (lv_room hW) hdg hf
  intro w hw
  rcases List.mem_append.mp hw with h | h
  · simp only [List.mem_cons, List.not_mem_nil, or_false] at h
    rcases h with rfl | rfl | rfl <;> assumption
  · rcases List.mem_cons.mp h with rfl | h <;> assumption
theorem xr_SN (hC : CallFix p m c cc nL s args BIG own) (hN : wNW s) (hM : Met l y (.code y bytes maxL ret :: BIG) rm Pc Qc mc ms free) (hrm : rm.cells = mc ∧ rm.slots = ms) (hk : Cond.methodLinkNest own index y host ∈ NWL) (ca : xCalS y bytes maxL ret n) (hR : rm.frames + 1 ≤ R.frames ∧ 8 + (maxL + 11) + rm.locals ≤ R.locals) {As rest : List Value} (hp : PreS s H Pc As) (hn : As.length = n) (hl : lv_has ls nL lv) (hst : st0 = As.reverse ++ rest) (hW : (rest.map fun v => v.category).sum ≤ 8) (hdg : decode cc pc = .ok (.invokestatic index, 3)) (hf : cells + mc ≤ R.cells ∧ slots + ms ≤ R.slots) : va_Run p l e R s m args below meth c H locs cells slots mc ms (F0 m pc ls st0) rest (Qc As.toArray) free := by
  obtain ⟨a1, a3, a4, a5, a6, a7⟩ := ca
  have hB := hC.2.2.2.2
  refine va_runSN hC hM ⟨va_cnB n hB (gIn ?_) rfl hrm.1 hrm.2 (hN _ hk) (hB _ a3) ⟨a5, a6, a7⟩ hR, hB _ a1, trivial⟩ hp rfl hn hl.1 hst (lv_room hW) hdg hf
  intro w hw
  rcases List.mem_cons.mp hw with rfl | h <;> assumption
theorem xro {rest : List Value} {Qa : State → Outcome → State → Prop} {g : JFrame} (h : va_Run p l e R s m args below meth c H locs cells slots mc ms g rest Qa free) : CallRun p l e R s m args below meth c H locs cells slots mc ms g rest Qa free := by
  intro T hT X
  obtain ⟨v, st₀, t, T', L, a1, a2, a3, a4, a5, a6, a7⟩ := h T hT X
  exact ⟨v, st₀, t, T', L, a1, a2, a3, a4, a6, a7⟩
end XR
/-! ===== a cut of a world: the callee's cells, the rest, and how they come together again ===== -/
def xCut {S : Type} (ws wc : va_W) (w1 ws1 : S → va_W) : Prop := ∃ (isC isR ps : List Nat) (wr : va_W), isC.map (fun i => ws[i]?) = wc.map some ∧ isR.map (fun i => ws[i]?) = wr.map some ∧ va_nd isC = true ∧ va_nd isR = true ∧ (∀ i ∈ isR, i ∉ isC) ∧ va_nd ps = true ∧ ∀ u, ps.map (fun i => (wr ++ w1 u)[i]?) = (ws1 u).map some
theorem xsub {D : va_G} {cl : List vw_C} {ws wc : va_W} {H : Heap} (is : List Nat) (hs : is.map (fun i => ws[i]?) = wc.map some) (h : va_P D cl ws H) : va_P D cl wc H := by
  intro k q hq
  obtain ⟨i, -, hi⟩ := va_in_of is hs hq
  exact h i q hi
section XCUT
variable {S : Type} {ws wc : va_W} {w1 ws1 : S → va_W} {D : va_G} {cl : List vw_C} {A : Nat → Prop} {H H1 H0 : Heap} {locs : List Loc}
theorem xCut.P (hc : xCut ws wc w1 ws1) (h : va_P D cl ws H) : va_P D cl wc H := by
  obtain ⟨isC, isR, ps, wr, h1, -⟩ := hc
  exact xsub isC h1 h
theorem xCut.Dd (hc : xCut ws wc w1 ws1) (h : va_D A ws) : va_D (fun _ => True) wc := by
  obtain ⟨isC, isR, ps, wr, h1, -, h3, -⟩ := hc
  exact (h.sub isC h3 h1).weaken (fun _ _ _ _ => trivial)
theorem xCut.F (hc : xCut ws wc w1 ws1) (hD : va_D A ws) (hS : va_S A H0 H locs) (hA : ∀ q, H0.size ≤ q → A q) : ∀ q, va_A wc H.size q → A q := by
  obtain ⟨isC, isR, ps, wr, h1, -⟩ := hc
  exact va_free hD hS hA isC h1
theorem xCut.J (hc : xCut ws wc w1 ws1) (hP : va_P D cl ws H) (hD : va_D A ws) (hk : ∀ q : Nat, q < H.size → ¬ va_A wc H.size q → H1[q]? = H[q]?) (hF : ∀ q, va_A wc H.size q → A q) (u : S) (hP1 : va_P D cl (w1 u) H1) (hD1 : va_D (va_A wc H.size) (w1 u)) : va_P D cl (ws1 u) H1 ∧ va_D A (ws1 u) := by
  obtain ⟨isC, isR, ps, wr, h1, h2, h3, h4, h5, h6, h7⟩ := hc
  obtain ⟨hP2, hD2⟩ := va_join hP hD isC isR h1 h2 h4 h5 hk hF hP1 hD1
  exact ⟨xsub ps (h7 u) hP2, hD2.sub ps h6 (h7 u)⟩
/-- the whole world goes along -/
theorem xCut.all {f : S → va_W} {u0 : S} (n : Nat) (h : ∀ u : S, (List.range n).map (fun i => (f u)[i]?) = (f u).map some) (hn : va_nd (List.range n) = true) : xCut (f u0) (f u0) f f :=
  ⟨List.range n, [], List.range n, [], h u0, rfl, hn, rfl, fun _ h => absurd h List.not_mem_nil, hn, fun u => by rw [List.nil_append]; exact h u⟩
end XCUT
section XCALL
variable {p : Program} {l : Launch} {e : Env} {R : Room} {s : State} {m : MethodId} {args : Array Value} {below : List Frame} {meth : Method} {c : Code} {H : Heap} {locs : List Loc} {cells slots : Nat} {Q : State → Prop}
variable {pc : Nat} {ls : Array Slot} {rest st0 : List Value} {a : Array Value} {A : Nat → Prop} {G : wG} {mc ms : Nat}
theorem xc_wi {S : Type} {post : Int32 → S → Prop} {w1 : S → va_W} {Z : Type} {f : S → Z} {wsz : Z → va_W} {ws wc : va_W} (hr : va_Run p l e R s m args below meth c H locs cells slots mc ms (F0 m pc ls st0) rest (xQi G post w1 (va_A wc H.size) a) (va_A wc H.size)) (hc : xCut ws wc w1 (fun u => wsz (f u))) (hP : va_P G.1 vwCl ws H) (hD : va_D A ws) (hS : va_S A s.heap H locs) (hA : ∀ q, s.heap.size ≤ q → A q)
    (kk : ∀ (r : Int32) (u : S) (z1 : Z) (H1 : Heap) (locs1 : List Loc), z1 = f u → post r u → va_P G.1 vwCl (wsz z1) H1 → va_D A (wsz z1) → va_S A s.heap H1 locs1 → W p l e R s m args below meth c H1 locs1 (cells + mc) (slots + ms) Q (F0 m (pc + 3) ls (.int r :: rest))) : W p l e R s m args below meth c H locs cells slots Q (F0 m pc ls st0) := by
  have hF := hc.F hD hS hA
  refine va_calli hr hS (fun q _ h => hF q h) hF (fun r u t H1 locs1 ht hvm hw hB hz1 hk1 hS1 => ?_)
  subst ht
  obtain ⟨hP1, hD1⟩ := hc.J hP hD hk1 hF u hB.1 hB.2
  exact kk r u _ _ locs1 rfl hw hP1 hD1 hS1
theorem xc_wv {S : Type} {post : S → Prop} {w1 : S → va_W} {Z : Type} {f : S → Z} {wsz : Z → va_W} {ws wc : va_W} (hr : va_Run p l e R s m args below meth c H locs cells slots mc ms (F0 m pc ls st0) rest (xQv G post w1 (va_A wc H.size) a) (va_A wc H.size)) (hc : xCut ws wc w1 (fun u => wsz (f u))) (hP : va_P G.1 vwCl ws H) (hD : va_D A ws) (hS : va_S A s.heap H locs) (hA : ∀ q, s.heap.size ≤ q → A q)
    (kk : ∀ (u : S) (z1 : Z) (H1 : Heap) (locs1 : List Loc), z1 = f u → post u → va_P G.1 vwCl (wsz z1) H1 → va_D A (wsz z1) → va_S A s.heap H1 locs1 → W p l e R s m args below meth c H1 locs1 (cells + mc) (slots + ms) Q (F0 m (pc + 3) ls rest)) : W p l e R s m args below meth c H locs cells slots Q (F0 m pc ls st0) := by
  have hF := hc.F hD hS hA
  refine va_callv hr hS (fun q _ h => hF q h) hF (fun u t H1 locs1 ht hvm hw hB hz1 hk1 hS1 => ?_)
  subst ht
  obtain ⟨hP1, hD1⟩ := hc.J hP hD hk1 hF u hB.1 hB.2
  exact kk u _ _ locs1 rfl hw hP1 hD1 hS1
/-- what a call that writes finds -/
theorem xpV {S : Type} {w1 ws1 : S → va_W} {ws wc : va_W} {C : String} {T : u_T} {N ci : Nat} {b : Addr} {fs As : List Value} (hK : wKK G s) (hc : xCut ws wc w1 ws1) (hP : va_P G.1 vwCl ws H) (hD : va_D A ws) (he : wc[0]? = some (b, .inr (ci, fs))) (hci : vwCl[ci]? = some (C, T, N)) : PreV s H C b (xPw G (.ref b :: As) wc H.size) As :=
  ⟨xPw_blind, va_recv hK.1 (hc.P hP) hci he, fun U hU hW => ⟨rfl, by rw [hU], by rw [hU]; exact hc.P hP, hK.warm hW, hc.Dd hD⟩⟩
/-- what a call that only reads finds -/
theorem xpR {wc : va_W} {C : String} {T : u_T} {N ci : Nat} {b : Addr} {fs As : List Value} (hK : wKK G s) (hP : va_P G.1 vwCl wc H) (he : wc[0]? = some (b, .inr (ci, fs))) (hci : vwCl[ci]? = some (C, T, N)) : PreV s H C b (xPr G (.ref b :: As) wc) As :=
  ⟨xPr_blind, va_recv hK.1 hP hci he, fun U hU hW => ⟨rfl, by rw [hU]; exact hP, hK.warm hW⟩⟩
theorem xpS {As : List Value} (hK : wKK G s) : PreS s H (xPr G As []) As :=
  ⟨xPr_blind, fun U hU hW => ⟨rfl, fun k q h => by simp at h, hK.warm hW⟩⟩
end XCALL
/-! ===== switches ===== -/
theorem x_tsw (x : Int32) (n : Nat) (hn : n < 2 ^ 31) : (x.toInt < 0 ∨ (n : Int) - 1 < x.toInt) ∨ ∃ j : Nat, j < n ∧ x = Int32.ofNat j := by
  by_cases h : x.toInt < 0 ∨ (n : Int) - 1 < x.toInt
  · exact Or.inl h
  · refine Or.inr ⟨x.toInt.toNat, by omega, ?_⟩
    apply Int32.toInt_inj.mp
    have h1 : (Int32.ofNat x.toInt.toNat).toInt = ((x.toInt.toNat : Nat) : Int) := nI_toInt (n := x.toInt.toNat) (by omega)
    rw [h1]
    omega
theorem x_tswL (x : Int32) (lo n : Nat) (hn : lo + n < 2 ^ 31) : (x.toInt < (lo : Int) ∨ (lo : Int) + (n : Int) - 1 < x.toInt) ∨ ∃ j : Nat, j < n ∧ x = Int32.ofNat (lo + j) := by
  by_cases h : x.toInt < (lo : Int) ∨ (lo : Int) + (n : Int) - 1 < x.toInt
  · exact Or.inl h
  · refine Or.inr ⟨x.toInt.toNat - lo, by omega, ?_⟩
    apply Int32.toInt_inj.mp
    have h1 : (Int32.ofNat (lo + (x.toInt.toNat - lo))).toInt = ((lo + (x.toInt.toNat - lo) : Nat) : Int) := nI_toInt (n := lo + (x.toInt.toNat - lo)) (by omega)
    rw [h1]
    omega
/-- a number that a boolean field keeps -/
def w_zb (v : Int32) : Prop := narrow .boolean (.int v) = .int v ∧ fits .boolean (.int v) = true
theorem inX0 : ∀ w ∈ wsX00, w ∈ BIG := fun w h => bmT ((by decide +kernel : ∀ w ∈ wsX00, w ∈ tables_1) w h) ((by decide +kernel : ∀ w ∈ wsX00, goodWord w = true) w h)
theorem inX1 : ∀ w ∈ wsX10, w ∈ BIG := fun w h => bmT ((by decide +kernel : ∀ w ∈ wsX10, w ∈ tables_1) w h) ((by decide +kernel : ∀ w ∈ wsX10, goodWord w = true) w h)
theorem inX2 : ∀ w ∈ wsX20, w ∈ BIG := fun w h => bmT ((by decide +kernel : ∀ w ∈ wsX20, w ∈ tables_1) w h) ((by decide +kernel : ∀ w ∈ wsX20, goodWord w = true) w h)
theorem inX3 : ∀ w ∈ wsX30, w ∈ BIG := fun w h => bmT ((by decide +kernel : ∀ w ∈ wsX30, w ∈ tables_1) w h) ((by decide +kernel : ∀ w ∈ wsX30, goodWord w = true) w h)
theorem inX4 : ∀ w ∈ wsX40, w ∈ BIG := fun w h => bmT ((by decide +kernel : ∀ w ∈ wsX40, w ∈ tables_1) w h) ((by decide +kernel : ∀ w ∈ wsX40, goodWord w = true) w h)
theorem inX5 : ∀ w ∈ wsX50, w ∈ BIG := fun w h => bmT ((by decide +kernel : ∀ w ∈ wsX50, w ∈ tables_1) w h) ((by decide +kernel : ∀ w ∈ wsX50, goodWord w = true) w h)
theorem inX6 : ∀ w ∈ wsX60, w ∈ BIG := fun w h => bmT ((by decide +kernel : ∀ w ∈ wsX60, w ∈ tables_1) w h) ((by decide +kernel : ∀ w ∈ wsX60, goodWord w = true) w h)
/-! ===== the sheets of a WellMoods, by their number ===== -/
theorem wsX_h {G : wG} {h : Nat → Nat} {x : wXS} {n : Nat} (hn : n < 4) : (wsX G h x)[35 + 2 * n]? = some (h (35 + 2 * n), .inr (2, [.ref (h (36 + 2 * n)), .int (w_i (x_h x n) 1), .int (w_i (x_h x n) 2), .int (w_i (x_h x n) 3)])) ∧ (wsX G h x)[36 + 2 * n]? = some (h (36 + 2 * n), .inl (G.2.2.2.1, 24, .inr (.inl (w_l (x_h x n) 0)))) := by
  rcases (show n = 0 ∨ n = 1 ∨ n = 2 ∨ n = 3 by omega) with rfl | rfl | rfl | rfl <;> exact ⟨rfl, rfl⟩
theorem wsX_hp1 {G : wG} {h : Nat → Nat} {x : wXS} {n : Nat} (hn : n < 4) (v : Int32) : (wsX G h x).set (35 + 2 * n) (h (35 + 2 * n), .inr (2, [Value.ref (h (36 + 2 * n)), .int (w_i (x_h x n) 1), .int (w_i (x_h x n) 2), .int (w_i (x_h x n) 3)].set 1 (.int v))) = wsX G h (x_sh x n (w_si (x_h x n) 1 v)) := by
  rcases (show n = 0 ∨ n = 1 ∨ n = 2 ∨ n = 3 by omega) with rfl | rfl | rfl | rfl <;> rfl
theorem wsX_hs {G : wG} {h : Nat → Nat} {x : wXS} {n : Nat} (hn : n < 4) (f : Nat → Int64) : (wsX G h x).set (36 + 2 * n) (h (36 + 2 * n), .inl (G.2.2.2.1, 24, .inr (.inl f))) = wsX G h (x_sh x n (w_sl (x_h x n) 0 f)) := by
  rcases (show n = 0 ∨ n = 1 ∨ n = 2 ∨ n = 3 by omega) with rfl | rfl | rfl | rfl <;> rfl
/-! ===== contracts by their ends ===== -/
section XM
variable {l : Launch} {y : MethodName} {cc : ByteArray} {maxL : Nat} {G : wG} {av : List Value} {ws : va_W} {sz fr lo : Nat}
theorem xm_wi {S : Type} {post : Int32 → S → Prop} {w1 : S → va_W} (hy : plainName y.cls = true) (hn : (lg_sl av).length ≤ maxL)
    (body : ∀ (p : Program) (e : Env) (s : State) (m : MethodId) (args : Array Value) (below : List Frame) (meth : Method) (c : Code) (A : Nat → Prop) (ls : Array Slot) (R : Room) (Q : State → Prop), CallFix p m c cc maxL s args BIG y.cls → wKK G s → (∀ q, s.heap.size ≤ q → A q) → va_P G.1 vwCl ws s.heap → va_D A ws → va_S A s.heap s.heap [] → lv_has ls maxL (lv_args 0 av) → fr ≤ R.frames → lo ≤ R.locals →
      (∀ (v : Int32) (u : S) (H : Heap) (locs : List Loc) (pc : Nat) (ls : Array Slot), post v u → va_P G.1 vwCl (w1 u) H → va_D A (w1 u) → va_S A s.heap H locs → decode cc pc = .ok (.ireturn, 1) → W p l e R s m args below meth c H locs 0 0 Q (F0 m pc ls [.int v])) →
      W p l e R s m args below meth c s.heap [] 0 0 Q (F0 m 0 ls [])) :
    Met l y (.code y cc maxL (some .int) :: BIG) { frames := fr, cells := 0, slots := 0, locals := lo } (xPw G av ws sz) (xQi G post w1 (va_A ws sz)) 0 0 (va_A ws sz) :=
  xm_w (rm := { frames := fr, cells := 0, slots := 0, locals := lo }) (Qf := fun A => xQi G post w1 A) hy hn (fun p e s m below meth c A ls hC hr hlk _ hK hA hP hD hS hl => body p e s m av.toArray below meth c A ls _ _ hC hK hA hP hD hS hl (Nat.le_refl _) (Nat.le_refl _) (fun v u H locs pc ls hw hP hD hS hdg => xe_wi hC hr hlk hw hP hD hS hdg))
theorem xm_wz {S : Type} {post : Int32 → S → Prop} {w1 : S → va_W} (hy : plainName y.cls = true) (hn : (lg_sl av).length ≤ maxL)
    (body : ∀ (p : Program) (e : Env) (s : State) (m : MethodId) (args : Array Value) (below : List Frame) (meth : Method) (c : Code) (A : Nat → Prop) (ls : Array Slot) (R : Room) (Q : State → Prop), CallFix p m c cc maxL s args BIG y.cls → wKK G s → (∀ q, s.heap.size ≤ q → A q) → va_P G.1 vwCl ws s.heap → va_D A ws → va_S A s.heap s.heap [] → lv_has ls maxL (lv_args 0 av) → fr ≤ R.frames → lo ≤ R.locals →
      (∀ (v : Int32) (u : S) (H : Heap) (locs : List Loc) (pc : Nat) (ls : Array Slot), narrow .boolean (.int v) = .int v → post v u → va_P G.1 vwCl (w1 u) H → va_D A (w1 u) → va_S A s.heap H locs → decode cc pc = .ok (.ireturn, 1) → W p l e R s m args below meth c H locs 0 0 Q (F0 m pc ls [.int v])) →
      W p l e R s m args below meth c s.heap [] 0 0 Q (F0 m 0 ls [])) :
    Met l y (.code y cc maxL (some .boolean) :: BIG) { frames := fr, cells := 0, slots := 0, locals := lo } (xPw G av ws sz) (xQi G post w1 (va_A ws sz)) 0 0 (va_A ws sz) :=
  xm_w (rm := { frames := fr, cells := 0, slots := 0, locals := lo }) (Qf := fun A => xQi G post w1 A) hy hn (fun p e s m below meth c A ls hC hr hlk _ hK hA hP hD hS hl => body p e s m av.toArray below meth c A ls _ _ hC hK hA hP hD hS hl (Nat.le_refl _) (Nat.le_refl _) (fun v u H locs pc ls hz hw hP hD hS hdg => xe_wz hC hr hlk hz hw hP hD hS hdg))
theorem xm_wv {S : Type} {post : S → Prop} {w1 : S → va_W} (hy : plainName y.cls = true) (hn : (lg_sl av).length ≤ maxL)
    (body : ∀ (p : Program) (e : Env) (s : State) (m : MethodId) (args : Array Value) (below : List Frame) (meth : Method) (c : Code) (A : Nat → Prop) (ls : Array Slot) (R : Room) (Q : State → Prop), CallFix p m c cc maxL s args BIG y.cls → wKK G s → (∀ q, s.heap.size ≤ q → A q) → va_P G.1 vwCl ws s.heap → va_D A ws → va_S A s.heap s.heap [] → lv_has ls maxL (lv_args 0 av) → fr ≤ R.frames → lo ≤ R.locals →
      (∀ (u : S) (H : Heap) (locs : List Loc) (pc : Nat) (ls : Array Slot), post u → va_P G.1 vwCl (w1 u) H → va_D A (w1 u) → va_S A s.heap H locs → decode cc pc = .ok (.return_, 1) → W p l e R s m args below meth c H locs 0 0 Q (F0 m pc ls [])) →
      W p l e R s m args below meth c s.heap [] 0 0 Q (F0 m 0 ls [])) :
    Met l y (.code y cc maxL none :: BIG) { frames := fr, cells := 0, slots := 0, locals := lo } (xPw G av ws sz) (xQv G post w1 (va_A ws sz)) 0 0 (va_A ws sz) :=
  xm_w (rm := { frames := fr, cells := 0, slots := 0, locals := lo }) (Qf := fun A => xQv G post w1 A) hy hn (fun p e s m below meth c A ls hC hr hlk _ hK hA hP hD hS hl => body p e s m av.toArray below meth c A ls _ _ hC hK hA hP hD hS hl (Nat.le_refl _) (Nat.le_refl _) (fun u H locs pc ls hw hP hD hS hdg => xe_wv hC hr hlk hw hP hD hS hdg))
theorem xm_ri {post : Int32 → Prop} (hy : plainName y.cls = true) (hn : (lg_sl av).length ≤ maxL)
    (body : ∀ (p : Program) (e : Env) (s : State) (m : MethodId) (args : Array Value) (below : List Frame) (meth : Method) (c : Code) (ls : Array Slot) (R : Room) (Q : State → Prop), CallFix p m c cc maxL s args BIG y.cls → wKK G s → va_P G.1 vwCl ws s.heap → lv_has ls maxL (lv_args 0 av) → fr ≤ R.frames → lo ≤ R.locals →
      (∀ (v : Int32) (pc : Nat) (ls : Array Slot), post v → decode cc pc = .ok (.ireturn, 1) → W p l e R s m args below meth c s.heap [] 0 0 Q (F0 m pc ls [.int v])) →
      W p l e R s m args below meth c s.heap [] 0 0 Q (F0 m 0 ls [])) :
    Met l y (.code y cc maxL (some .int) :: BIG) { frames := fr, cells := 0, slots := 0, locals := lo } (xPr G av ws) (vp_Si post) 0 0 (fun _ => False) :=
  xm_r (rm := { frames := fr, cells := 0, slots := 0, locals := lo }) hy hn (fun p e s m below meth c ls hC hr hlk hK hP hl => body p e s m av.toArray below meth c ls _ _ hC hK hP hl (Nat.le_refl _) (Nat.le_refl _) (fun v pc ls hw hdg => xe_ri hC hr hlk hw hdg))
theorem xm_rz {post : Int32 → Prop} (hy : plainName y.cls = true) (hn : (lg_sl av).length ≤ maxL)
    (body : ∀ (p : Program) (e : Env) (s : State) (m : MethodId) (args : Array Value) (below : List Frame) (meth : Method) (c : Code) (ls : Array Slot) (R : Room) (Q : State → Prop), CallFix p m c cc maxL s args BIG y.cls → wKK G s → va_P G.1 vwCl ws s.heap → lv_has ls maxL (lv_args 0 av) → fr ≤ R.frames → lo ≤ R.locals →
      (∀ (v : Int32) (pc : Nat) (ls : Array Slot), narrow .boolean (.int v) = .int v → post v → decode cc pc = .ok (.ireturn, 1) → W p l e R s m args below meth c s.heap [] 0 0 Q (F0 m pc ls [.int v])) →
      W p l e R s m args below meth c s.heap [] 0 0 Q (F0 m 0 ls [])) :
    Met l y (.code y cc maxL (some .boolean) :: BIG) { frames := fr, cells := 0, slots := 0, locals := lo } (xPr G av ws) (vp_Si post) 0 0 (fun _ => False) :=
  xm_r (rm := { frames := fr, cells := 0, slots := 0, locals := lo }) hy hn (fun p e s m below meth c ls hC hr hlk hK hP hl => body p e s m av.toArray below meth c ls _ _ hC hK hP hl (Nat.le_refl _) (Nat.le_refl _) (fun v pc ls hz hw hdg => xe_rz hC hr hlk hz hw hdg))
theorem xm_rl {post : Int64 → Prop} (hy : plainName y.cls = true) (hn : (lg_sl av).length ≤ maxL)
    (body : ∀ (p : Program) (e : Env) (s : State) (m : MethodId) (args : Array Value) (below : List Frame) (meth : Method) (c : Code) (ls : Array Slot) (R : Room) (Q : State → Prop), CallFix p m c cc maxL s args BIG y.cls → wKK G s → va_P G.1 vwCl ws s.heap → lv_has ls maxL (lv_args 0 av) → fr ≤ R.frames → lo ≤ R.locals →
      (∀ (v : Int64) (pc : Nat) (ls : Array Slot), post v → decode cc pc = .ok (.lreturn, 1) → W p l e R s m args below meth c s.heap [] 0 0 Q (F0 m pc ls [.long v])) →
      W p l e R s m args below meth c s.heap [] 0 0 Q (F0 m 0 ls [])) :
    Met l y (.code y cc maxL (some .long) :: BIG) { frames := fr, cells := 0, slots := 0, locals := lo } (xPr G av ws) (vp_Sl post) 0 0 (fun _ => False) :=
  xm_r (rm := { frames := fr, cells := 0, slots := 0, locals := lo }) hy hn (fun p e s m below meth c ls hC hr hlk hK hP hl => body p e s m av.toArray below meth c ls _ _ hC hK hP hl (Nat.le_refl _) (Nat.le_refl _) (fun v pc ls hw hdg => xe_rl hC hr hlk hw hdg))
end XM
