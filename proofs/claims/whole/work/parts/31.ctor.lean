/-! ===== constructors: what comes new ===== -/
abbrev zS : wSt := (fun _ => 0, fun _ _ => 0, fun _ _ => 0)
abbrev zW : wP2 := (w_si (w_si (w_si (w_si zS 5 200) 6 1) 10 9) 11 1, zS)
abbrev zR : wP2 := (w_si zS 6 9, zS)
abbrev zX : wXS := (zS, zW, zW, zS, zS, zR, fun _ => zS)
abbrev zM : wSt := w_sa (w_si (w_si (w_si (w_si zS 7 200) 8 1) 12 9) 15 1) 32 (upd (upd (upd (upd (fun _ => 0) 0 (-1)) 1 (-1)) 2 (-1)) 3 (-1))
def xCalI (y : MethodName) (bytes : ByteArray) (maxL : Nat) : Prop := Cond.instanceMethod y ∈ BIG ∧ Cond.initialized y.cls ∈ BIG ∧ Cond.code y bytes maxL none ∈ BIG ∧ y.name = "<init>" ∧ y.cls ≠ "java/lang/invoke/MethodHandle" ∧ y.cls ≠ "java/lang/invoke/VarHandle" ∧ (parseMethodDescriptor y.desc).map (fun d => d.parameters.length) = some 0
section XK
variable {p : Program} {l : Launch} {e : Env} {R : Room} {s : State} {m : MethodId} {args : Array Value} {below : List Frame} {meth : Method} {c : Code} {H : Heap} {locs : List Loc} {cells slots : Nat} {Q : State → Prop}
variable {cc bytes : ByteArray} {nL maxL index : Nat} {own host : String} {y : MethodName} {rm : Room} {pc : Nat} {ls : Array Slot} {rest st0 : List Value} {A : Nat → Prop} {G : wG} {mc ms : Nat} {a : Array Value}
variable {Pc : Array Value → State → Prop} {Qc : Array Value → State → Outcome → State → Prop} {free : Addr → Prop} {lv : List (Nat × Value)}
theorem xr_I (hC : CallFix p m c cc nL s args BIG own) (hM : Met l y (.code y bytes maxL none :: BIG) rm Pc Qc mc ms free) (hrm : rm.cells = mc ∧ rm.slots = ms) (hk : Cond.methodLink own index y ∈ BIG) (ca : xCalI y bytes maxL) (hR : rm.frames + 1 ≤ R.frames ∧ 8 + (maxL + 11) + rm.locals ≤ R.locals) {b : Addr} (hp : PreS s H Pc [.ref b]) (hl : lv_has ls nL lv) (hst : st0 = .ref b :: rest) (hW : (rest.map fun v => v.category).sum ≤ 8) (hdg : decode cc pc = .ok (.invokespecial index, 3)) (hf : cells + mc ≤ R.cells ∧ slots + ms ≤ R.slots) : va_Run p l e R s m args below meth c H locs cells slots mc ms (F0 m pc ls st0) rest (Qc [Value.ref b].toArray) free := by
  obtain ⟨a1, a3, a4, a8, a5, a6, a7⟩ := ca
  have hB := hC.2.2.2.2
  refine va_runI hC hM (cwI 0 hB (gIn ?_) rfl hrm.1 hrm.2 (hB _ a3) (hB _ hk) (hB _ a1) a8 ⟨a5, a6, a7⟩ hR) hp rfl rfl hl.1 hst (lv_room hW) hdg hf
  intro w hw
  rcases List.mem_cons.mp hw with rfl | h <;> assumption
theorem xr_IN (hC : CallFix p m c cc nL s args BIG own) (hN : wNW s) (hM : Met l y (.code y bytes maxL none :: BIG) rm Pc Qc mc ms free) (hrm : rm.cells = mc ∧ rm.slots = ms) (hk : Cond.methodLinkNest own index y host ∈ NWL) (ca : xCalI y bytes maxL) (hR : rm.frames + 1 ≤ R.frames ∧ 8 + (maxL + 11) + rm.locals ≤ R.locals) {b : Addr} (hp : PreS s H Pc [.ref b]) (hl : lv_has ls nL lv) (hst : st0 = .ref b :: rest) (hW : (rest.map fun v => v.category).sum ≤ 8) (hdg : decode cc pc = .ok (.invokespecial index, 3)) (hf : cells + mc ≤ R.cells ∧ slots + ms ≤ R.slots) : va_Run p l e R s m args below meth c H locs cells slots mc ms (F0 m pc ls st0) rest (Qc [Value.ref b].toArray) free := by
  obtain ⟨a1, a3, a4, a8, a5, a6, a7⟩ := ca
  have hB := hC.2.2.2.2
  refine va_runIN hC hM ⟨va_cnB 0 hB (gIn ?_) rfl hrm.1 hrm.2 (hN _ hk) (hB _ a3) ⟨a5, a6, a7⟩ hR, a8, hB _ a1⟩ hp rfl rfl hl.1 hst (lv_room hW) hdg hf
  intro w hw
  rcases List.mem_cons.mp hw with rfl | h <;> assumption
theorem xpK {ws : va_W} {q : Nat} {e0 : va_E} (hK : wKK G s) (i : Nat) (hC : [i].map (fun i => ws[i]?) = [(q, e0)].map some) (hP : va_P G.1 vwCl ws H) (hD : va_D A ws) : PreS s H (xPw G [.ref q] [(q, e0)] H.size) [.ref q] :=
  ⟨xPw_blind, fun U hU hW => ⟨rfl, by rw [hU], by rw [hU]; exact xsub [i] hC hP, hK.warm hW, (hD.sub [i] rfl hC).weaken (fun _ _ _ _ => trivial)⟩⟩
theorem xc_k {post : (Nat → Nat) → Prop} {w1 : (Nat → Nat) → va_W} {ws wr : va_W} {q : Nat} {e0 : va_E} (hr : va_Run p l e R s m args below meth c H locs cells slots mc ms (F0 m pc ls st0) rest (xQv G post w1 (va_A [(q, e0)] H.size) a) (va_A [(q, e0)] H.size)) (i : Nat) (isR : List Nat) (hC : [i].map (fun i => ws[i]?) = [(q, e0)].map some) (hR : isR.map (fun i => ws[i]?) = wr.map some) (hn : va_nd isR = true) (hdis : ∀ j ∈ isR, j ∉ [i]) (hP : va_P G.1 vwCl ws H) (hD : va_D A ws) (hS : va_S A s.heap H locs) (hA : ∀ q, s.heap.size ≤ q → A q)
    (kk : ∀ (u : Nat → Nat) (H1 : Heap) (locs1 : List Loc), post u → va_P G.1 vwCl (wr ++ w1 u) H1 → va_D A (wr ++ w1 u) → va_S A s.heap H1 locs1 → W p l e R s m args below meth c H1 locs1 (cells + mc) (slots + ms) Q (F0 m (pc + 3) ls rest)) : W p l e R s m args below meth c H locs cells slots Q (F0 m pc ls st0) := by
  have hF := va_free hD hS hA [i] hC
  refine va_callv hr hS (fun q _ h => hF q h) hF (fun u t H1 locs1 ht hvm hw hB hz1 hk1 hS1 => ?_)
  subst ht
  obtain ⟨hP1, hD1⟩ := va_join hP hD [i] isR hC hR hn hdis hk1 hF hB.1 hB.2
  exact kk u _ locs1 hw hP1 hD1 hS1
theorem x_newI {ws : va_W} {n : Int32} {N' : Nat} (hC : CallFix p m c cc nL s args BIG own) (hK : wKK G s) (hP : va_P G.1 vwCl ws H) (hD : va_D A ws) (hS : va_S A s.heap H locs) (hA : ∀ q, s.heap.size ≤ q → A q) (hn : ¬ n < 0) (hN : n.toNatClampNeg = N') (hbytes : N' * 4 ≤ 536870912) (hcells : cells + 1 ≤ R.cells) (hslots : slots + N' ≤ R.slots) (hdg : decode cc pc = .ok (.newarray .int, 2))
    (kk : ∀ (q : Nat) (H1 : Heap), va_P G.1 vwCl (ws ++ [(q, .inl (G.2.1, N', .inl (fun _ => 0)))]) H1 → va_D A (ws ++ [(q, .inl (G.2.1, N', .inl (fun _ => 0)))]) → va_S A s.heap H1 locs → W p l e R s m args below meth c H1 locs (cells + 1) (slots + N') Q (F0 m (pc + 2) ls (.ref q :: rest))) : W p l e R s m args below meth c H locs cells slots Q (F0 m pc ls (.int n :: rest)) := by
  refine va_newa (atype := .int) hC.1 hC.2.1 (hC.2.2.2.2 _ bw_57) (ty := .int) rfl hK.1 hP hD hS hA (a0 := (N', .inl (fun _ => 0))) (fun _ => rfl) hn hN hbytes hcells hslots hdg (fun q cA H1 hK1 hP1 hD1 hS1 => ?_)
  have h1 := (hK1.2 4 (cA, .int) rfl).2
  have h2 := (hK.1.2 0 (G.2.1, .int) rfl).2
  have h3 : cA = G.2.1 := Option.some.inj (h1.symm.trans h2)
  subst h3
  exact kk q H1 hP1 hD1 hS1
theorem x_newB {ws : va_W} {n : Int32} {N' : Nat} (hC : CallFix p m c cc nL s args BIG own) (hK : wKK G s) (hP : va_P G.1 vwCl ws H) (hD : va_D A ws) (hS : va_S A s.heap H locs) (hA : ∀ q, s.heap.size ≤ q → A q) (hn : ¬ n < 0) (hN : n.toNatClampNeg = N') (hbytes : N' * 1 ≤ 536870912) (hcells : cells + 1 ≤ R.cells) (hslots : slots + N' ≤ R.slots) (hdg : decode cc pc = .ok (.newarray .byte, 2))
    (kk : ∀ (q : Nat) (H1 : Heap), va_P G.1 vwCl (ws ++ [(q, .inl (G.2.2.1, N', .inl (fun _ => 0)))]) H1 → va_D A (ws ++ [(q, .inl (G.2.2.1, N', .inl (fun _ => 0)))]) → va_S A s.heap H1 locs → W p l e R s m args below meth c H1 locs (cells + 1) (slots + N') Q (F0 m (pc + 2) ls (.ref q :: rest))) : W p l e R s m args below meth c H locs cells slots Q (F0 m pc ls (.int n :: rest)) := by
  refine va_newa (atype := .byte) hC.1 hC.2.1 (hC.2.2.2.2 _ bw_128) (ty := .byte) rfl hK.1 hP hD hS hA (a0 := (N', .inl (fun _ => 0))) (fun _ => rfl) hn hN hbytes hcells hslots hdg (fun q cA H1 hK1 hP1 hD1 hS1 => ?_)
  have h1 := (hK1.2 4 (cA, .byte) rfl).2
  have h2 := (hK.1.2 1 (G.2.2.1, .byte) rfl).2
  have h3 : cA = G.2.2.1 := Option.some.inj (h1.symm.trans h2)
  subst h3
  exact kk q H1 hP1 hD1 hS1
theorem x_newJ {ws : va_W} {n : Int32} {N' : Nat} (hC : CallFix p m c cc nL s args BIG own) (hK : wKK G s) (hP : va_P G.1 vwCl ws H) (hD : va_D A ws) (hS : va_S A s.heap H locs) (hA : ∀ q, s.heap.size ≤ q → A q) (hn : ¬ n < 0) (hN : n.toNatClampNeg = N') (hbytes : N' * 8 ≤ 536870912) (hcells : cells + 1 ≤ R.cells) (hslots : slots + N' ≤ R.slots) (hdg : decode cc pc = .ok (.newarray .long, 2))
    (kk : ∀ (q : Nat) (H1 : Heap), va_P G.1 vwCl (ws ++ [(q, .inl (G.2.2.2.1, N', .inr (.inl (fun _ => 0))))]) H1 → va_D A (ws ++ [(q, .inl (G.2.2.2.1, N', .inr (.inl (fun _ => 0))))]) → va_S A s.heap H1 locs → W p l e R s m args below meth c H1 locs (cells + 1) (slots + N') Q (F0 m (pc + 2) ls (.ref q :: rest))) : W p l e R s m args below meth c H locs cells slots Q (F0 m pc ls (.int n :: rest)) := by
  refine va_newa (atype := .long) hC.1 hC.2.1 (hC.2.2.2.2 _ bw_193) (ty := .long) rfl hK.1 hP hD hS hA (a0 := (N', .inr (.inl (fun _ => 0)))) (fun _ => rfl) hn hN hbytes hcells hslots hdg (fun q cA H1 hK1 hP1 hD1 hS1 => ?_)
  have h1 := (hK1.2 4 (cA, .long) rfl).2
  have h2 := (hK.1.2 2 (G.2.2.2.1, .long) rfl).2
  have h3 : cA = G.2.2.2.1 := Option.some.inj (h1.symm.trans h2)
  subst h3
  exact kk q H1 hP1 hD1 hS1
theorem x_newS {ws : va_W} {n : Int32} {N' : Nat} (hC : CallFix p m c cc nL s args BIG own) (hK : wKK G s) (hO : va_AO "WellMoods$Sheet" s) (hcl : (Cond.classLink own index "WellMoods$Sheet").before args s = true) (hP : va_P G.1 vwCl ws H) (hD : va_D A ws) (hS : va_S A s.heap H locs) (hA : ∀ q, s.heap.size ≤ q → A q) (hn : ¬ n < 0) (hN : n.toNatClampNeg = N') (hbytes : N' * 4 ≤ 536870912) (hcells : cells + 1 ≤ R.cells) (hslots : slots + N' ≤ R.slots) (hdg : decode cc pc = .ok (.anewarray index, 3))
    (kk : ∀ (q : Nat) (H1 : Heap), va_P G.1 vwCl (ws ++ [(q, .inl (G.2.2.2.2, N', .inr (.inr (.inr (.inr (fun _ => none))))))]) H1 → va_D A (ws ++ [(q, .inl (G.2.2.2.2, N', .inr (.inr (.inr (.inr (fun _ => none))))))]) → va_S A s.heap H1 locs → W p l e R s m args below meth c H1 locs (cells + 1) (slots + N') Q (F0 m (pc + 3) ls (.ref q :: rest))) : W p l e R s m args below meth c H locs cells slots Q (F0 m pc ls (.int n :: rest)) := by
  refine va_newq hC.1 hC.2.1 hC.2.2.2.1 hcl hO hK.1 hP hD hS hA hn hN hbytes hcells hslots hdg (fun q cA H1 hK1 hP1 hD1 hS1 => ?_)
  obtain ⟨_, _, _, _, _, h1⟩ := (hK1.2 4 (cA, .object "WellMoods$Sheet") rfl).2
  obtain ⟨_, _, _, _, _, h2⟩ := (hK.1.2 3 (G.2.2.2.2, .object "WellMoods$Sheet") rfl).2
  have h3 : cA = G.2.2.2.2 := Option.some.inj (h1.symm.trans h2)
  subst h3
  exact kk q H1 hP1 hD1 hS1
end XK
section XMK
variable {l : Launch} {y : MethodName} {cc : ByteArray} {maxL : Nat} {G : wG} {av : List Value} {ws : va_W} {sz fr lo mc ms : Nat}
theorem xm_k {post : (Nat → Nat) → Prop} {w1 : (Nat → Nat) → va_W} (hy : plainName y.cls = true) (hn : (lg_sl av).length ≤ maxL)
    (body : ∀ (p : Program) (e : Env) (s : State) (m : MethodId) (args : Array Value) (below : List Frame) (meth : Method) (c : Code) (A : Nat → Prop) (ls : Array Slot) (R : Room) (Q : State → Prop), CallFix p m c cc maxL s args BIG y.cls → meth.name = y.name → wKK G s → (∀ q, s.heap.size ≤ q → A q) → va_P G.1 vwCl ws s.heap → va_D A ws → va_S A s.heap s.heap [] → lv_has ls maxL (lv_args 0 av) → fr ≤ R.frames → lo ≤ R.locals → mc ≤ R.cells → ms ≤ R.slots →
      (∀ (u : Nat → Nat) (H : Heap) (locs : List Loc) (pc : Nat) (ls : Array Slot), post u → va_P G.1 vwCl (w1 u) H → va_D A (w1 u) → va_S A s.heap H locs → decode cc pc = .ok (.return_, 1) → W p l e R s m args below meth c H locs mc ms Q (F0 m pc ls [])) →
      W p l e R s m args below meth c s.heap [] 0 0 Q (F0 m 0 ls [])) :
    Met l y (.code y cc maxL none :: BIG) { frames := fr, cells := mc, slots := ms, locals := lo } (xPw G av ws sz) (xQv G post w1 (va_A ws sz)) mc ms (va_A ws sz) :=
  xm_w (rm := { frames := fr, cells := mc, slots := ms, locals := lo }) (Qf := fun A => xQv G post w1 A) hy hn (fun p e s m below meth c A ls hC hr hlk hnm hK hA hP hD hS hl => body p e s m av.toArray below meth c A ls _ _ hC hnm hK hA hP hD hS hl (Nat.le_refl _) (Nat.le_refl _) (Nat.le_refl _) (Nat.le_refl _) (fun u H locs pc ls hw hP hD hS hdg => xe_wv hC hr hlk hw hP hD hS hdg))
end XMK
theorem arrV_congr {cA : ClassId} {n : Nat} {f g : Nat → Value} (h : ∀ j, j < n → f j = g j) : arrV cA n f = arrV cA n g := by
  have e : (fun j : Fin n => f j.val) = (fun j : Fin n => g j.val) := funext fun j => h j.val j.isLt
  unfold arrV
  rw [e]
theorem x_refs {D : va_G} {cl : List vw_C} {ws : va_W} {H : Heap} (p : Nat) {q cA n : Nat} {f g : Nat → Option Nat} (he : ws[p]? = some (q, .inl (cA, n, .inr (.inr (.inr (.inr f)))))) (hfg : ∀ j, j < n → f j = g j) (hP : va_P D cl ws H) : va_P D cl (ws.set p (q, .inl (cA, n, .inr (.inr (.inr (.inr g)))))) H := by
  intro k r hk
  by_cases hkp : k = p
  · subst hkp
    have hl := (List.getElem?_eq_some_iff.mp he).1
    rw [List.getElem?_set_self hl] at hk
    cases hk
    have h1 : H[q]? = some (vp_cell cA (n, .inr (.inr (.inr (.inr f))))) := hP _ _ he
    show H[q]? = some (vp_cell cA (n, .inr (.inr (.inr (.inr g)))))
    rw [h1, vp_cell_q, vp_cell_q]
    exact congrArg some (arrV_congr (fun j hj => by rw [hfg j hj]))
  · rw [List.getElem?_set_ne (Ne.symm hkp)] at hk
    exact hP k r hk
abbrev xPwO (G : wG) (av : List Value) (ws : va_W) (sz : Nat) : Array Value → State → Prop := va_Pc av (fun U => U.heap.size = sz ∧ va_P G.1 vwCl ws U.heap ∧ wKK G U ∧ va_D (fun _ => True) ws ∧ va_AO "WellMoods$Sheet" U)
theorem xPwO_blind {G : wG} {av : List Value} {ws : va_W} {sz : Nat} : FrameBlind (xPwO G av ws sz) := fun a U g mk q => by
  obtain ⟨q0, q1, qP, qK, qD, qO⟩ := q
  exact ⟨q0, q1, qP, wKK.same (u := U) (U := U.calling g mk a) rfl qK, qD, va_AO.moved (u := U) (U := U.calling g mk a) (Vm.Alike.refl U.vm) qO⟩
section XMKO
variable {l : Launch} {y : MethodName} {cc : ByteArray} {maxL : Nat} {G : wG} {av : List Value} {ws : va_W} {sz fr lo mc ms : Nat}
theorem xm_kO {post : (Nat → Nat) → Prop} {w1 : (Nat → Nat) → va_W} (hy : plainName y.cls = true) (hn : (lg_sl av).length ≤ maxL)
    (body : ∀ (p : Program) (e : Env) (s : State) (m : MethodId) (args : Array Value) (below : List Frame) (meth : Method) (c : Code) (A : Nat → Prop) (ls : Array Slot) (R : Room) (Q : State → Prop), CallFix p m c cc maxL s args BIG y.cls → meth.name = y.name → wKK G s → va_AO "WellMoods$Sheet" s → (∀ q, s.heap.size ≤ q → A q) → va_P G.1 vwCl ws s.heap → va_D A ws → va_S A s.heap s.heap [] → lv_has ls maxL (lv_args 0 av) → fr ≤ R.frames → lo ≤ R.locals → mc ≤ R.cells → ms ≤ R.slots →
      (∀ (u : Nat → Nat) (H : Heap) (locs : List Loc) (pc : Nat) (ls : Array Slot), post u → va_P G.1 vwCl (w1 u) H → va_D A (w1 u) → va_S A s.heap H locs → decode cc pc = .ok (.return_, 1) → W p l e R s m args below meth c H locs mc ms Q (F0 m pc ls [])) →
      W p l e R s m args below meth c s.heap [] 0 0 Q (F0 m 0 ls [])) :
    Met l y (.code y cc maxL none :: BIG) { frames := fr, cells := mc, slots := ms, locals := lo } (xPwO G av ws sz) (xQv G post w1 (va_A ws sz)) mc ms (va_A ws sz) := by
  refine Met.ofW (cc := cc) (maxL := maxL) (ret := none) hy rfl ?_
  intro p e s m args below meth c s₁ B hml hv
  obtain ⟨rfl, hsz, hP, hK, hD0, hO⟩ := hv
  have hts := atoms_spec (ws := .code y cc maxL none :: BIG) B.pre
  subst hsz
  have hl := lv_entry av (n := maxL) hn
  rw [lg_entry_eq]
  have hC : CallFix p m c cc maxL s av.toArray BIG y.cls := ⟨B.exec, B.bytes, hml, findClass_of_methodNamed B.named, fun w h => hts w (List.mem_cons_of_mem _ h)⟩
  exact body p e s m _ below meth c _ _ _ _ hC (name_of_methodNamed B.named B.method).1 hK hO (fun q h => Or.inr h) hP (hD0.self (sz := s.heap.size)) va_S.rf hl (Nat.le_refl _) (Nat.le_refl _) (Nat.le_refl _) (Nat.le_refl _) (fun u H locs pc ls hw hP hD hS hdg => xe_wv hC B.returns B.notSynchronized hw hP hD hS hdg)
end XMKO
