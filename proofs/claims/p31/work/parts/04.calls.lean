/-! CONTRACTS over memories, and calls -/
def AV (V : VT) : Nat → Prop := fun q => ∃ (i : Nat) (p : Nat × Nat), places[i]? = some p ∧ q = vA V p.1 p.2
def W0 (V : VT) (M : Mem) (U : State) : Prop := va_K (vD V) vwCl (vT V) U ∧ va_P (vD V) vwCl (wsOf V M) U.heap ∧ va_D (AV V) (wsOf V M) ∧ Sc V (AV V) U U.heap
theorem W0.blind {V : VT} {M : Mem} {U : State} {g : JFrame} {mk : MethodId} {a : Array Value} (h : W0 V M U) : W0 V M (U.calling g mk a) := ⟨va_K.moved (u := U) (U := U.calling g mk a) (Vm.Alike.refl U.vm) h.1, h.2.1, h.2.2.1, va_X.moved (u := U) (U := U.calling g mk a) (Vm.Alike.refl U.vm) h.2.2.2.1, h.2.2.2.2⟩
def MetI (l : Launch) (V : VT) (y : MethodName) (cc : ByteArray) (nL : Nat) (ret : FieldType) (rm : Room) (as : List Value) (r : Int32) (M M' : Mem) : Prop := Met l y (Cond.code y cc nL (some ret) :: lw_gd) rm (va_Pc as (W0 V M)) (va_Qi (fun (x : Int32) (_ : Unit) => x = r) (fun _ t => W0 V M' t) (AV V)) 0 0 (AV V)
def MetV (l : Launch) (V : VT) (y : MethodName) (cc : ByteArray) (nL : Nat) (rm : Room) (as : List Value) (M M' : Mem) : Prop := Met l y (Cond.code y cc nL none :: lw_gd) rm (va_Pc as (W0 V M)) (va_Qv (fun (_ : Unit) => True) (fun _ t => W0 V M' t) (AV V)) 0 0 (AV V)
def MetL (l : Launch) (V : VT) (y : MethodName) (cc : ByteArray) (nL : Nat) (rm : Room) (as : List Value) (r : Int64) (M M' : Mem) : Prop := Met l y (Cond.code y cc nL (some .long) :: lw_gd) rm (va_Pc as (W0 V M)) (va_Ql (fun (x : Int64) (_ : Unit) => x = r) (fun _ t => W0 V M' t) (AV V)) 0 0 (AV V)
/-- the ends of a body -/
def RetI (E : WE) (V : VT) (A : Nat → Prop) (H0 : Heap) (cc : ByteArray) (ret : FieldType) (r : Int32) (M' : Mem) : Prop := ∀ (pc : Nat) (H : Heap) (locs : List Loc) (ls : Array Slot), decode cc pc = .ok (.ireturn, 1) → narrow ret (.int r) = .int r → Wd V A H0 M' (eS E) H locs → Wq E H locs pc ls [.int r]
def RetL (E : WE) (V : VT) (A : Nat → Prop) (H0 : Heap) (cc : ByteArray) (r : Int64) (M' : Mem) : Prop := ∀ (pc : Nat) (H : Heap) (locs : List Loc) (ls : Array Slot), decode cc pc = .ok (.lreturn, 1) → Wd V A H0 M' (eS E) H locs → Wq E H locs pc ls [.long r]
def RetV (E : WE) (V : VT) (A : Nat → Prop) (H0 : Heap) (cc : ByteArray) (M' : Mem) : Prop := ∀ (pc : Nat) (H : Heap) (locs : List Loc) (ls : Array Slot), decode cc pc = .ok (.return_, 1) → Wd V A H0 M' (eS E) H locs → Wq E H locs pc ls []
/-- what the calls of a method need of the tables -/
def CalOK (y : MethodName) (cc : ByteArray) (nL : Nat) (ret : Option FieldType) (n : Nat) : Prop := Cond.initialized y.cls ∈ lw_gd ∧ Cond.code y cc nL ret ∈ lw_gd ∧ (y.cls ≠ "java/lang/invoke/MethodHandle" ∧ y.cls ≠ "java/lang/invoke/VarHandle" ∧ (parseMethodDescriptor y.desc).map (fun d => d.parameters.length) = some n)
def VirOK (y : MethodName) : Prop := Cond.instanceMethod y ∈ lw_gd ∧ Cond.selects y.cls y y ∈ lw_gd
theorem AV_A {V : VT} {A : Nat → Prop} {H0 : Heap} {M : Mem} {s : State} {H : Heap} {locs : List Loc} (hW : Wd V A H0 M s H locs) : ∀ q, AV V q → A q := by
  rintro q ⟨i, p, hp, rfl⟩
  obtain ⟨j, o⟩ := p
  exact hW.2.2.1.2 i _ (ws_at hp)
theorem W0_of_Wd {V : VT} {A : Nat → Prop} {H0 : Heap} {M : Mem} {s : State} {H : Heap} {locs : List Loc} (hW : Wd V A H0 M s H locs) {U : State} (hU : U.heap = H) (ha : s.WarmedH U.vm) : W0 V M U := by
  have hAV := AV_A hW
  obtain ⟨hK, hP, hD, hS, hY⟩ := hW
  refine ⟨va_K.moved ha.alike hK, by rw [hU]; exact hP, ⟨hD.1, fun k q hk => ?_⟩, ?_⟩
  · unfold wsOf at hk
    rw [List.getElem?_map] at hk
    cases hp : places[k]? with
    | none => rw [hp] at hk; cases hk
    | some p => rw [hp] at hk; cases hk; exact ⟨k, p, hp, rfl⟩
  · rw [hU]
    exact ⟨va_X.moved ha.alike (hY.1.kept (hS.2.1 _ hY.2.1 hY.2.2.1)), Nat.lt_of_lt_of_le hY.2.1 hS.1, fun q => hY.2.2.1 (hAV _ q), hY.2.2.2⟩
theorem Wd_after {V : VT} {A : Nat → Prop} {H0 : Heap} {M M' : Mem} {s : State} {H H1 : Heap} {locs locs1 : List Loc} (hW : Wd V A H0 M s H locs) {t : State} (ht : t.heap = H1) (hv : s.vm.Alike t.vm) (h0 : W0 V M' t) (hS : va_S A H0 H1 locs1) : Wd V A H0 M' s H1 locs1 :=
  ⟨va_K.moved hv.symm h0.1, by rw [← ht]; exact h0.2.1, h0.2.2.1.weaken (fun _ _ _ h => AV_A hW _ h), hS, hW.2.2.2.2⟩
section CALLS
variable {E : WE} {own : String} {cc : ByteArray} {nL fr lo : Nat} {H : Heap} {locs : List Loc} {pc : Nat} {ls : Array Slot} {rest st : List Value} {V : VT} {A : Nat → Prop} {H0 : Heap} {M M' : Mem} {y : MethodName} {bytes : ByteArray} {maxL n index : Nat} {rm : Room} {as : List Value}
theorem call_cwV (Cx : CX E own cc nL fr lo) {ret : Option FieldType} (ok : CalOK y bytes maxL ret n) (ov : VirOK y) (hl : Cond.methodLink own index y ∈ lw_gd) (hrm : rm.cells = 0 ∧ rm.slots = 0 ∧ rm.frames + 1 ≤ fr ∧ 8 + (maxL + 11) + rm.locals ≤ lo) : CallW (eR E) (eS E) (eA E) own y.cls index y bytes maxL ret (Cond.code y bytes maxL ret :: lw_gd) rm 0 0 n := by
  have hg : GoodIn lw_gd (wsV own index y.cls y (Cond.code y bytes maxL ret :: lw_gd)) := by
    intro w hw
    unfold wsV at hw
    have hm : w ∈ lw_gd := by
      rcases List.mem_append.mp hw with h | h
      · simp only [List.mem_cons, List.not_mem_nil, or_false] at h
        rcases h with rfl | rfl | rfl | rfl
        · exact hl
        · exact ov.1
        · exact ov.2
        · exact ok.1
      · rcases List.mem_cons.mp h with rfl | h
        · exact ok.2.1
        · exact h
    exact ⟨hm, good_of_word (gd_good _ hm)⟩
  exact cwV n Cx.2.2.2.2.1 hg rfl hrm.1 hrm.2.1 ⟨rfl, ok.2.2⟩ ⟨Nat.le_trans hrm.2.2.1 Cx.2.2.2.2.2.1, Nat.le_trans hrm.2.2.2 Cx.2.2.2.2.2.2.1⟩
theorem call_cwS (Cx : CX E own cc nL fr lo) {ret : Option FieldType} (ok : CalOK y bytes maxL ret n) (os : Cond.static y ∈ lw_gd) (hown : y.cls = own) (hl : Cond.methodLink own index y ∈ lw_gd) (hrm : rm.cells = 0 ∧ rm.slots = 0 ∧ rm.frames + 1 ≤ fr ∧ 8 + (maxL + 11) + rm.locals ≤ lo) : CallB (eR E) (eS E) (eA E) own index y bytes maxL ret (Cond.code y bytes maxL ret :: lw_gd) rm 0 0 n ∧ (Cond.static y).before (eA E) (eS E) = true := by
  have hg : GoodIn lw_gd (wsS own index y (Cond.code y bytes maxL ret :: lw_gd)) := by
    intro w hw
    unfold wsS at hw
    have hm : w ∈ lw_gd := by
      rcases List.mem_append.mp hw with h | h
      · simp only [List.mem_cons, List.not_mem_nil, or_false] at h
        rcases h with rfl | rfl | rfl
        · exact hl
        · exact os
        · rw [← hown]; exact ok.1
      · rcases List.mem_cons.mp h with rfl | h
        · exact ok.2.1
        · exact h
    exact ⟨hm, good_of_word (gd_good _ hm)⟩
  exact cwS n Cx.2.2.2.2.1 hg rfl hrm.1 hrm.2.1 ⟨hown, ok.2.2⟩ ⟨Nat.le_trans hrm.2.2.1 Cx.2.2.2.2.2.1, Nat.le_trans hrm.2.2.2 Cx.2.2.2.2.2.2.1⟩
theorem call_preV (hW : Wd V A H0 M (eS E) H locs) {j o ci : Nat} {fs : Blk → List Value} (ho : isO V j o ci fs) {T : u_T} {N : Nat} {ty : Nat → FieldType} (hc : isC ci y.cls T N ty) : PreV (eS E) H y.cls (vA V j o) (va_Pc (.ref (vA V j o) :: as) (W0 V M)) as := by
  obtain ⟨⟨i, hi⟩, hcell⟩ := ho
  refine ⟨fun a U g mk q => ⟨q.1, q.2.blind⟩, ?_, fun U hU hv => ⟨rfl, W0_of_Wd hW hU hv⟩⟩
  exact va_recv hW.1 hW.2.1 (ci := ci) (q0 := i) hc.1 ((ws_at hi).trans (by rw [hcell]))
theorem q_callI (Cx : CX E own cc nL fr lo) {ret : FieldType} {r : Int32} {j o ci : Nat} {fs : Blk → List Value} {T : u_T} {N : Nat} {ty : Nat → FieldType} (hM : MetI (eL E) V y bytes maxL ret rm (.ref (vA V j o) :: as) r M M') (ok : CalOK y bytes maxL (some ret) n) (ov : VirOK y) (hl : Cond.methodLink own index y ∈ lw_gd) (hrm : rm.cells = 0 ∧ rm.slots = 0 ∧ rm.frames + 1 ≤ fr ∧ 8 + (maxL + 11) + rm.locals ≤ lo) (hW : Wd V A H0 M (eS E) H locs) (ho : isO V j o ci fs) (hc : isC ci y.cls T N ty) (hn : as.length = n) (hls : ls.size = nL) (hrest : (rest.map fun v => v.category).sum ≤ 8) (hst : st = as.reverse ++ .ref (vA V j o) :: rest) (hdg : decode cc pc = .ok (.invokevirtual index, 3))
    (kk : ∀ (H1 : Heap) (locs1 : List Loc), Wd V A H0 M' (eS E) H1 locs1 → Wq E H1 locs1 (pc + 3) ls (.int r :: rest)) : Wq E H locs pc ls st := by
  subst hst
  refine va_calli (A1 := AV V) (va_runV (As := as) (rest := rest) (n := n) ⟨Cx.1, Cx.2.1, Cx.2.2.1, Cx.2.2.2.1, Cx.2.2.2.2.1⟩ hM (call_cwV Cx ok ov hl hrm) (call_preV hW ho hc) rfl hn hls rfl (lv_room hrest) hdg ⟨Cx.2.2.2.2.2.2.2.1, Cx.2.2.2.2.2.2.2.2⟩) hW.2.2.2.1 (fun q _ h => AV_A hW q h) (fun q h => AV_A hW q h) (fun r1 u t H1 locs1 ht hv hr hB hz hk hS => ?_)
  subst hr
  exact kk H1 locs1 (Wd_after hW ht hv hB hS)
theorem q_callL (Cx : CX E own cc nL fr lo) {r : Int64} {j o ci : Nat} {fs : Blk → List Value} {T : u_T} {N : Nat} {ty : Nat → FieldType} (hM : MetL (eL E) V y bytes maxL rm (.ref (vA V j o) :: as) r M M') (ok : CalOK y bytes maxL (some .long) n) (ov : VirOK y) (hl : Cond.methodLink own index y ∈ lw_gd) (hrm : rm.cells = 0 ∧ rm.slots = 0 ∧ rm.frames + 1 ≤ fr ∧ 8 + (maxL + 11) + rm.locals ≤ lo) (hW : Wd V A H0 M (eS E) H locs) (ho : isO V j o ci fs) (hc : isC ci y.cls T N ty) (hn : as.length = n) (hls : ls.size = nL) (hrest : (rest.map fun v => v.category).sum ≤ 8) (hst : st = as.reverse ++ .ref (vA V j o) :: rest) (hdg : decode cc pc = .ok (.invokevirtual index, 3))
    (kk : ∀ (H1 : Heap) (locs1 : List Loc), Wd V A H0 M' (eS E) H1 locs1 → Wq E H1 locs1 (pc + 3) ls (.long r :: rest)) : Wq E H locs pc ls st := by
  subst hst
  refine va_calll (A1 := AV V) (va_runV (As := as) (rest := rest) (n := n) ⟨Cx.1, Cx.2.1, Cx.2.2.1, Cx.2.2.2.1, Cx.2.2.2.2.1⟩ hM (call_cwV Cx ok ov hl hrm) (call_preV hW ho hc) rfl hn hls rfl (lv_room hrest) hdg ⟨Cx.2.2.2.2.2.2.2.1, Cx.2.2.2.2.2.2.2.2⟩) hW.2.2.2.1 (fun q _ h => AV_A hW q h) (fun q h => AV_A hW q h) (fun r1 u t H1 locs1 ht hv hr hB hz hk hS => ?_)
  subst hr
  exact kk H1 locs1 (Wd_after hW ht hv hB hS)
theorem q_callV (Cx : CX E own cc nL fr lo) {j o ci : Nat} {fs : Blk → List Value} {T : u_T} {N : Nat} {ty : Nat → FieldType} (hM : MetV (eL E) V y bytes maxL rm (.ref (vA V j o) :: as) M M') (ok : CalOK y bytes maxL none n) (ov : VirOK y) (hl : Cond.methodLink own index y ∈ lw_gd) (hrm : rm.cells = 0 ∧ rm.slots = 0 ∧ rm.frames + 1 ≤ fr ∧ 8 + (maxL + 11) + rm.locals ≤ lo) (hW : Wd V A H0 M (eS E) H locs) (ho : isO V j o ci fs) (hc : isC ci y.cls T N ty) (hn : as.length = n) (hls : ls.size = nL) (hrest : (rest.map fun v => v.category).sum ≤ 8) (hst : st = as.reverse ++ .ref (vA V j o) :: rest) (hdg : decode cc pc = .ok (.invokevirtual index, 3))
    (kk : ∀ (H1 : Heap) (locs1 : List Loc), Wd V A H0 M' (eS E) H1 locs1 → Wq E H1 locs1 (pc + 3) ls rest) : Wq E H locs pc ls st := by
  subst hst
  refine va_callv (A1 := AV V) (va_runV (As := as) (rest := rest) (n := n) ⟨Cx.1, Cx.2.1, Cx.2.2.1, Cx.2.2.2.1, Cx.2.2.2.2.1⟩ hM (call_cwV Cx ok ov hl hrm) (call_preV hW ho hc) rfl hn hls rfl (lv_room hrest) hdg ⟨Cx.2.2.2.2.2.2.2.1, Cx.2.2.2.2.2.2.2.2⟩) hW.2.2.2.1 (fun q _ h => AV_A hW q h) (fun q h => AV_A hW q h) (fun u t H1 locs1 ht hv hr hB hz hk hS => ?_)
  exact kk H1 locs1 (Wd_after hW ht hv hB hS)
theorem q_callSI (Cx : CX E own cc nL fr lo) {ret : FieldType} {r : Int32} (hM : MetI (eL E) V y bytes maxL ret rm as r M M') (ok : CalOK y bytes maxL (some ret) n) (os : Cond.static y ∈ lw_gd) (hown : y.cls = own) (hl : Cond.methodLink own index y ∈ lw_gd) (hrm : rm.cells = 0 ∧ rm.slots = 0 ∧ rm.frames + 1 ≤ fr ∧ 8 + (maxL + 11) + rm.locals ≤ lo) (hW : Wd V A H0 M (eS E) H locs) (hn : as.length = n) (hls : ls.size = nL) (hrest : (rest.map fun v => v.category).sum ≤ 8) (hst : st = as.reverse ++ rest) (hdg : decode cc pc = .ok (.invokestatic index, 3))
    (kk : ∀ (H1 : Heap) (locs1 : List Loc), Wd V A H0 M' (eS E) H1 locs1 → Wq E H1 locs1 (pc + 3) ls (.int r :: rest)) : Wq E H locs pc ls st := by
  subst hst
  refine va_calli (A1 := AV V) (va_runS (As := as) (rest := rest) (n := n) ⟨Cx.1, Cx.2.1, Cx.2.2.1, Cx.2.2.2.1, Cx.2.2.2.2.1⟩ hM (call_cwS Cx ok os hown hl hrm) ⟨fun a U g mk q => ⟨q.1, q.2.blind⟩, fun U hU hv => ⟨rfl, W0_of_Wd hW hU hv⟩⟩ rfl hn hls rfl (lv_room hrest) hdg ⟨Cx.2.2.2.2.2.2.2.1, Cx.2.2.2.2.2.2.2.2⟩) hW.2.2.2.1 (fun q _ h => AV_A hW q h) (fun q h => AV_A hW q h) (fun r1 u t H1 locs1 ht hv hr hB hz hk hS => ?_)
  subst hr
  exact kk H1 locs1 (Wd_after hW ht hv hB hS)
theorem q_callSL (Cx : CX E own cc nL fr lo) {r : Int64} (hM : MetL (eL E) V y bytes maxL rm as r M M') (ok : CalOK y bytes maxL (some .long) n) (os : Cond.static y ∈ lw_gd) (hown : y.cls = own) (hl : Cond.methodLink own index y ∈ lw_gd) (hrm : rm.cells = 0 ∧ rm.slots = 0 ∧ rm.frames + 1 ≤ fr ∧ 8 + (maxL + 11) + rm.locals ≤ lo) (hW : Wd V A H0 M (eS E) H locs) (hn : as.length = n) (hls : ls.size = nL) (hrest : (rest.map fun v => v.category).sum ≤ 8) (hst : st = as.reverse ++ rest) (hdg : decode cc pc = .ok (.invokestatic index, 3))
    (kk : ∀ (H1 : Heap) (locs1 : List Loc), Wd V A H0 M' (eS E) H1 locs1 → Wq E H1 locs1 (pc + 3) ls (.long r :: rest)) : Wq E H locs pc ls st := by
  subst hst
  refine va_calll (A1 := AV V) (va_runS (As := as) (rest := rest) (n := n) ⟨Cx.1, Cx.2.1, Cx.2.2.1, Cx.2.2.2.1, Cx.2.2.2.2.1⟩ hM (call_cwS Cx ok os hown hl hrm) ⟨fun a U g mk q => ⟨q.1, q.2.blind⟩, fun U hU hv => ⟨rfl, W0_of_Wd hW hU hv⟩⟩ rfl hn hls rfl (lv_room hrest) hdg ⟨Cx.2.2.2.2.2.2.2.1, Cx.2.2.2.2.2.2.2.2⟩) hW.2.2.2.1 (fun q _ h => AV_A hW q h) (fun q h => AV_A hW q h) (fun r1 u t H1 locs1 ht hv hr hB hz hk hS => ?_)
  subst hr
  exact kk H1 locs1 (Wd_after hW ht hv hB hS)
end CALLS
/-- a body's world, at its start -/
theorem Wd_start {V : VT} {M : Mem} {s : State} (h : W0 V M s) : Wd V (AV V) s.heap M s s.heap [] := ⟨h.1, h.2.1, h.2.2.1, va_S.rf, h.2.2.2⟩
theorem W0_end {V : VT} {H0 : Heap} {M : Mem} {s : State} {H : Heap} {locs : List Loc} (hW : Wd V (AV V) H0 M s H locs) {t : State} (ht : t.heap = H) (hv : s.WarmedH t.vm) : W0 V M t := W0_of_Wd hW ht hv
theorem metI_of {l : Launch} {V : VT} {y : MethodName} {cc : ByteArray} {nL : Nat} {ret : FieldType} {rm : Room} {as : List Value} {r : Int32} {M M' : Mem} (hy : plainName y.cls = true) (hlen : (lg_sl as).length ≤ nL)
    (body : ∀ (E : WE) (H0 : Heap), eL E = l → CX E y.cls cc nL rm.frames rm.locals → RetI E V (AV V) H0 cc ret r M' → ∀ (H : Heap) (locs : List Loc) (ls : Array Slot), Wd V (AV V) H0 M (eS E) H locs → lv_has ls nL (lv_args 0 as) → Wq E H locs 0 ls []) : MetI l V y cc nL ret rm as r M M' := by
  refine Met.ofW (cc := cc) (maxL := nL) (ret := some ret) hy rfl ?_
  intro p e s m args below meth c s₁ B hml hv
  obtain ⟨rfl, hW⟩ := hv
  have hts := atoms_spec (ws := Cond.code y cc nL (some ret) :: lw_gd) B.pre
  have hl := lv_entry as (n := nL) hlen
  rw [lg_entry_eq]
  have hlocks := B.notSynchronized
  refine body (p, l, e, rm, s, m, as.toArray, below, meth, c, 0, 0, _) s.heap rfl ⟨B.exec, B.bytes, hml, findClass_of_methodNamed B.named, fun w hw => hts w (List.mem_cons_of_mem _ hw), Nat.le_refl _, Nat.le_refl _, Nat.zero_le _, Nat.zero_le _⟩ (fun pc H locs ls hdg hn hW1 => ?_) s.heap [] _ (Wd_start hW) hl
  exact W.zret (v := r) B.exec B.bytes B.returns hn (fun t ht hv => ⟨⟨r, (), rfl, rfl, W0_end hW1 ht hv⟩, hW1.2.2.2.1.F ht⟩) hW1.2.2.2.1.2.2 hdg
theorem metL_of {l : Launch} {V : VT} {y : MethodName} {cc : ByteArray} {nL : Nat} {rm : Room} {as : List Value} {r : Int64} {M M' : Mem} (hy : plainName y.cls = true) (hlen : (lg_sl as).length ≤ nL)
    (body : ∀ (E : WE) (H0 : Heap), eL E = l → CX E y.cls cc nL rm.frames rm.locals → RetL E V (AV V) H0 cc r M' → ∀ (H : Heap) (locs : List Loc) (ls : Array Slot), Wd V (AV V) H0 M (eS E) H locs → lv_has ls nL (lv_args 0 as) → Wq E H locs 0 ls []) : MetL l V y cc nL rm as r M M' := by
  refine Met.ofW (cc := cc) (maxL := nL) (ret := some .long) hy rfl ?_
  intro p e s m args below meth c s₁ B hml hv
  obtain ⟨rfl, hW⟩ := hv
  have hts := atoms_spec (ws := Cond.code y cc nL (some .long) :: lw_gd) B.pre
  have hl := lv_entry as (n := nL) hlen
  rw [lg_entry_eq]
  have hlocks := B.notSynchronized
  refine body (p, l, e, rm, s, m, as.toArray, below, meth, c, 0, 0, _) s.heap rfl ⟨B.exec, B.bytes, hml, findClass_of_methodNamed B.named, fun w hw => hts w (List.mem_cons_of_mem _ hw), Nat.le_refl _, Nat.le_refl _, Nat.zero_le _, Nat.zero_le _⟩ (fun pc H locs ls hdg hW1 => ?_) s.heap [] _ (Wd_start hW) hl
  exact W.lret (v := r) B.exec B.bytes B.returns (fun t ht hv => ⟨⟨r, (), rfl, rfl, W0_end hW1 ht hv⟩, hW1.2.2.2.1.F ht⟩) hW1.2.2.2.1.2.2 hdg
theorem metV_of {l : Launch} {V : VT} {y : MethodName} {cc : ByteArray} {nL : Nat} {rm : Room} {as : List Value} {M M' : Mem} (hy : plainName y.cls = true) (hlen : (lg_sl as).length ≤ nL)
    (body : ∀ (E : WE) (H0 : Heap), eL E = l → CX E y.cls cc nL rm.frames rm.locals → RetV E V (AV V) H0 cc M' → ∀ (H : Heap) (locs : List Loc) (ls : Array Slot), Wd V (AV V) H0 M (eS E) H locs → lv_has ls nL (lv_args 0 as) → Wq E H locs 0 ls []) : MetV l V y cc nL rm as M M' := by
  refine Met.ofW (cc := cc) (maxL := nL) (ret := none) hy rfl ?_
  intro p e s m args below meth c s₁ B hml hv
  obtain ⟨rfl, hW⟩ := hv
  have hts := atoms_spec (ws := Cond.code y cc nL none :: lw_gd) B.pre
  have hl := lv_entry as (n := nL) hlen
  rw [lg_entry_eq]
  have hlocks := B.notSynchronized
  refine body (p, l, e, rm, s, m, as.toArray, below, meth, c, 0, 0, _) s.heap rfl ⟨B.exec, B.bytes, hml, findClass_of_methodNamed B.named, fun w hw => hts w (List.mem_cons_of_mem _ hw), Nat.le_refl _, Nat.le_refl _, Nat.zero_le _, Nat.zero_le _⟩ (fun pc H locs ls hdg hW1 => ?_) s.heap [] _ (Wd_start hW) hl
  exact W.vret B.exec B.bytes B.returns (fun t ht hv => ⟨⟨(), rfl, trivial, W0_end hW1 ht hv⟩, hW1.2.2.2.1.F ht⟩) hW1.2.2.2.1.2.2 hdg
/-! THE WORDS OF THE PURE FUNCTIONS (F_..): a method's answer and memory as a plain function, 'none' where the machine itself would throw -/
section PURE
variable {α β γ : Type}
def ld (f : Nat → Int32) (n : Nat) (i : Int32) (k : Int32 → Option α) : Option α := if i < 0 ∨ n ≤ i.toNatClampNeg then none else k (f i.toNatClampNeg)
def stb (B : Blk) (o n : Nat) (i v : Int32) (k : Blk → Option α) : Option α := if i < 0 ∨ n ≤ i.toNatClampNeg then none else k (bs B o i.toNatClampNeg v)
def gi (i : Int32) (n : Nat) (k : Option α) : Option α := if i < 0 ∨ n ≤ i.toNatClampNeg then none else k
def lt1 (x : β) (k : β → Option α) : Option α := k x
def nz (y : Int32) (k : Option α) : Option α := if y = 0 then none else k
def c1 (x : Option β) (k : β → Option α) : Option α := match x with
  | none => none
  | some r => k r
def c2 (x : Option (β × γ)) (k : β → γ → Option α) : Option α := match x with
  | none => none
  | some r => k r.1 r.2
def rZ (v : Int32) (k : Option α) : Option α := if v = 0 ∨ v = 1 then k else none
def fu : Nat := 100000
theorem ld_some {f : Nat → Int32} {n : Nat} {i : Int32} {k : Int32 → Option α} {x : α} (h : ld f n i k = some x) : vp_in i n ∧ ∃ v, v = f i.toNatClampNeg ∧ k v = some x := by
  unfold ld at h
  by_cases hi : i < 0 ∨ n ≤ i.toNatClampNeg
  · rw [if_pos hi] at h; cases h
  · rw [if_neg hi] at h; exact ⟨hi, _, rfl, h⟩
theorem stb_some {B : Blk} {o n : Nat} {i v : Int32} {k : Blk → Option α} {x : α} (h : stb B o n i v k = some x) : vp_in i n ∧ ∃ B', B' = bs B o i.toNatClampNeg v ∧ k B' = some x := by
  unfold stb at h
  by_cases hi : i < 0 ∨ n ≤ i.toNatClampNeg
  · rw [if_pos hi] at h; cases h
  · rw [if_neg hi] at h; exact ⟨hi, _, rfl, h⟩
theorem gi_some {i : Int32} {n : Nat} {k : Option α} {x : α} (h : gi i n k = some x) : vp_in i n ∧ k = some x := by
  unfold gi at h
  by_cases hi : i < 0 ∨ n ≤ i.toNatClampNeg
  · rw [if_pos hi] at h; cases h
  · rw [if_neg hi] at h; exact ⟨hi, h⟩
theorem lt1_some {y : β} {k : β → Option α} {x : α} (h : lt1 y k = some x) : ∃ z, z = y ∧ k z = some x := ⟨y, rfl, h⟩
theorem nz_some {y : Int32} {k : Option α} {x : α} (h : nz y k = some x) : ¬ y = 0 ∧ k = some x := by
  unfold nz at h
  by_cases hy : y = 0
  · rw [if_pos hy] at h; cases h
  · rw [if_neg hy] at h; exact ⟨hy, h⟩
theorem c1_some {y : Option β} {k : β → Option α} {x : α} (h : c1 y k = some x) : ∃ z, y = some z ∧ k z = some x := by
  cases y with
  | none => cases h
  | some z => exact ⟨z, rfl, h⟩
theorem c2_some {y : Option (β × γ)} {k : β → γ → Option α} {x : α} (h : c2 y k = some x) : ∃ z w, y = some (z, w) ∧ k z w = some x := by
  cases y with
  | none => cases h
  | some z => exact ⟨z.1, z.2, rfl, h⟩
theorem rZ_some {v : Int32} {k : Option α} {x : α} (h : rZ v k = some x) : narrow .boolean (.int v) = .int v ∧ k = some x := by
  unfold rZ at h
  by_cases hv : v = 0 ∨ v = 1
  · rw [if_pos hv] at h
    refine ⟨?_, h⟩
    rcases hv with rfl | rfl <;> rfl
  · rw [if_neg hv] at h; cases h
theorem nI32 (r : Int32) : narrow .int (.int r) = .int r := rfl
end PURE
