/-! CONSTRUCTORS. What stands when they are through is the world of part 02 with its first memory -/
abbrev Va (V : VT) (a : Nat → Nat) : VT := (V.1, fun _ o => a o, V.2.2)
def mB0 : Blk := fun o => match o with
  | 0 => fun k => match k with
    | 2 => 50
    | 3 => 2
    | _ => 0
  | _ => fun _ => 0
def mX0 : Blk := fun _ _ => 0
def mZ0 : Blk := fun o => match o with
  | 0 => fun k => match k with
    | 11 => -6
    | _ => 0
  | 1 => upd (upd (fun _ => 0) 1 50) 2 2
  | _ => fun _ => 0
def planW (V : VT) (a : Nat → Nat) : va_W := [1, 3, 4, 5, 6, 7, 8, 9, 10, 11].map fun o => (a o, cellM (Va V a) 0 mB0 o)
def contW (V : VT) (a : Nat → Nat) : va_W := [2, 12, 13, 14, 15].map fun o => (a o, cellM (Va V a) 0 mB0 o)
def markW (V : VT) (a : Nat → Nat) : va_W := [0, 1, 2, 3, 4, 5, 6, 7, 8, 9, 10, 11, 12, 13, 14, 15, 16, 17, 18, 19, 20].map fun o => (a o, cellM (Va V a) 0 mB0 o)
def padW (V : VT) (a : Nat → Nat) : va_W := [5, 6, 7].map fun o => (a o, cellX (Va V a) mX0 o)
def modW (V : VT) (a : Nat → Nat) : va_W := [0, 1, 2, 3, 4, 5, 6, 7, 8, 9, 10, 11].map fun o => (a o, cellZ (Va V a) mZ0 o)
/-- what the tables say beside the words that last: the links of the constructors of nest mates, the class Market[] -/
def Nst (U : State) : Prop := va_Nw (.methodLinkNest RX5 11 yX2_init "SlackMarket") U ∧ va_Nw (.methodLinkNest RX2 11 yX4_init "SlackMarket") U ∧ va_Nw (.methodLinkNest RX2 20 yX0_init "SlackMarket") U ∧ va_Nw (.methodLinkNest RX1 17 yX2_init "SlackMarket") U ∧ va_Nw (.methodLinkNest RX5 36 yX3_init "SlackMarket") U ∧ va_AO "SlackMarket$Market" U
theorem Nst.warm {s U : State} (hW : s.WarmedH U.vm) (h : Nst s) : Nst U := ⟨va_Nw.warmM hW h.1, va_Nw.warmM hW h.2.1, va_Nw.warmM hW h.2.2.1, va_Nw.warmM hW h.2.2.2.1, va_Nw.warmM hW h.2.2.2.2.1, va_AO.moved hW.alike h.2.2.2.2.2⟩
theorem Nst.blind {U : State} {g : JFrame} {mk : MethodId} {a : Array Value} (h : Nst U) : Nst (U.calling g mk a) := ⟨va_Nw.same rfl rfl h.1, va_Nw.same rfl rfl h.2.1, va_Nw.same rfl rfl h.2.2.1, va_Nw.same rfl rfl h.2.2.2.1, va_Nw.same rfl rfl h.2.2.2.2.1, va_AO.moved (u := U) (U := U.calling g mk a) (Vm.Alike.refl U.vm) h.2.2.2.2.2⟩
section NEWA
variable {p : Program} {l : Launch} {e : Env} {R : Room} {s : State} {m : MethodId} {args : Array Value} {below : List Frame} {meth : Method} {c : Code} {H : Heap} {locs : List Loc} {cells slots : Nat} {Q : State → Prop} {cc : ByteArray} {pc : Nat} {ls : Array Slot} {rest : List Value} {V : VT} {A : Nat → Prop} {ws : va_W} {H0 : Heap}
theorem x_newI (hx : p.tables.exec = Jvm.exec) (hb : c.code = cc) (hts : ∀ w ∈ lw_gd, w.before args s = true) (hK : va_K (vD V) vwCl (vT V) s) (hP : va_P (vD V) vwCl ws H) (hD : va_D A ws) (hS : va_S A H0 H locs) (hA : ∀ q, H0.size ≤ q → A q) {n : Int32} (N : Nat) (hn : ¬ n < 0) (hN : n.toNatClampNeg = N) (hbytes : N * componentBytes .int ≤ 536870912) (hcells : cells + 1 ≤ R.cells) (hslots : slots + N ≤ R.slots) (hdg : decode cc pc = .ok (.newarray .int, 2))
    (kk : ∀ (q : Nat) (H1 : Heap), va_P (vD V) vwCl (ws ++ [(q, .inl (vI V, N, .inl (fun _ => 0)))]) H1 → va_D A (ws ++ [(q, .inl (vI V, N, .inl (fun _ => 0)))]) → va_S A H0 H1 locs → W p l e R s m args below meth c H1 locs (cells + 1) (slots + N) Q (F0 m (pc + 2) ls (.ref q :: rest))) : W p l e R s m args below meth c H locs cells slots Q (F0 m pc ls (.int n :: rest)) := by
  refine va_newa (atype := .int) (ty := .int) (a0 := (N, .inl (fun _ => 0))) hx hb (hts _ wd_137) rfl hK hP hD hS hA (fun cA => rfl) hn hN hbytes hcells hslots hdg (fun q cA H1 hK1 hP1 hD1 hS1 => ?_)
  have e1 : s.vm.findClass ("[" ++ (FieldType.int).toString) = some cA := (hK1.2 4 (cA, .int) rfl).2
  have e2 : s.vm.findClass ("[" ++ (FieldType.int).toString) = some (vI V) := (hK.2 0 (vI V, .int) rfl).2
  have e3 : cA = vI V := Option.some.inj (e1.symm.trans e2)
  subst e3
  exact kk q H1 hP1 hD1 hS1
theorem x_newZ (hx : p.tables.exec = Jvm.exec) (hb : c.code = cc) (hts : ∀ w ∈ lw_gd, w.before args s = true) (hK : va_K (vD V) vwCl (vT V) s) (hP : va_P (vD V) vwCl ws H) (hD : va_D A ws) (hS : va_S A H0 H locs) (hA : ∀ q, H0.size ≤ q → A q) {n : Int32} (N : Nat) (hn : ¬ n < 0) (hN : n.toNatClampNeg = N) (hbytes : N * componentBytes .boolean ≤ 536870912) (hcells : cells + 1 ≤ R.cells) (hslots : slots + N ≤ R.slots) (hdg : decode cc pc = .ok (.newarray .boolean, 2))
    (kk : ∀ (q : Nat) (H1 : Heap), va_P (vD V) vwCl (ws ++ [(q, .inl (vZ V, N, .inl (fun _ => 0)))]) H1 → va_D A (ws ++ [(q, .inl (vZ V, N, .inl (fun _ => 0)))]) → va_S A H0 H1 locs → W p l e R s m args below meth c H1 locs (cells + 1) (slots + N) Q (F0 m (pc + 2) ls (.ref q :: rest))) : W p l e R s m args below meth c H locs cells slots Q (F0 m pc ls (.int n :: rest)) := by
  refine va_newa (atype := .boolean) (ty := .boolean) (a0 := (N, .inl (fun _ => 0))) hx hb (hts _ wd_246) rfl hK hP hD hS hA (fun cA => rfl) hn hN hbytes hcells hslots hdg (fun q cA H1 hK1 hP1 hD1 hS1 => ?_)
  have e1 : s.vm.findClass ("[" ++ (FieldType.boolean).toString) = some cA := (hK1.2 4 (cA, .boolean) rfl).2
  have e2 : s.vm.findClass ("[" ++ (FieldType.boolean).toString) = some (vZ V) := (hK.2 1 (vZ V, .boolean) rfl).2
  have e3 : cA = vZ V := Option.some.inj (e1.symm.trans e2)
  subst e3
  exact kk q H1 hP1 hD1 hS1
theorem x_newC (hx : p.tables.exec = Jvm.exec) (hb : c.code = cc) (hts : ∀ w ∈ lw_gd, w.before args s = true) (hK : va_K (vD V) vwCl (vT V) s) (hP : va_P (vD V) vwCl ws H) (hD : va_D A ws) (hS : va_S A H0 H locs) (hA : ∀ q, H0.size ≤ q → A q) {n : Int32} (N : Nat) (hn : ¬ n < 0) (hN : n.toNatClampNeg = N) (hbytes : N * componentBytes .char ≤ 536870912) (hcells : cells + 1 ≤ R.cells) (hslots : slots + N ≤ R.slots) (hdg : decode cc pc = .ok (.newarray .char, 2))
    (kk : ∀ (q : Nat) (H1 : Heap), va_P (vD V) vwCl (ws ++ [(q, .inl (vC V, N, .inl (fun _ => 0)))]) H1 → va_D A (ws ++ [(q, .inl (vC V, N, .inl (fun _ => 0)))]) → va_S A H0 H1 locs → W p l e R s m args below meth c H1 locs (cells + 1) (slots + N) Q (F0 m (pc + 2) ls (.ref q :: rest))) : W p l e R s m args below meth c H locs cells slots Q (F0 m pc ls (.int n :: rest)) := by
  refine va_newa (atype := .char) (ty := .char) (a0 := (N, .inl (fun _ => 0))) hx hb (hts _ wd_247) rfl hK hP hD hS hA (fun cA => rfl) hn hN hbytes hcells hslots hdg (fun q cA H1 hK1 hP1 hD1 hS1 => ?_)
  have e1 : s.vm.findClass ("[" ++ (FieldType.char).toString) = some cA := (hK1.2 4 (cA, .char) rfl).2
  have e2 : s.vm.findClass ("[" ++ (FieldType.char).toString) = some (vC V) := (hK.2 2 (vC V, .char) rfl).2
  have e3 : cA = vC V := Option.some.inj (e1.symm.trans e2)
  subst e3
  exact kk q H1 hP1 hD1 hS1
end NEWA
theorem dX4_init_0 : decode cX4_init 0 = .ok (.aload_n 0, 1) := by decide +kernel
theorem dX4_init_1 : decode cX4_init 1 = .ok (.invokespecial 3, 3) := by decide +kernel
theorem dX4_init_4 : decode cX4_init 4 = .ok (.aload_n 0, 1) := by decide +kernel
theorem dX4_init_5 : decode cX4_init 5 = .ok (.bipush 24, 2) := by decide +kernel
theorem dX4_init_7 : decode cX4_init 7 = .ok (.newarray .int, 2) := by decide +kernel
theorem dX4_init_9 : decode cX4_init 9 = .ok (.putfield 9, 3) := by decide +kernel
theorem dX4_init_12 : decode cX4_init 12 = .ok (.aload_n 0, 1) := by decide +kernel
theorem dX4_init_13 : decode cX4_init 13 = .ok (.bipush 24, 2) := by decide +kernel
theorem dX4_init_15 : decode cX4_init 15 = .ok (.newarray .int, 2) := by decide +kernel
theorem dX4_init_17 : decode cX4_init 17 = .ok (.putfield 15, 3) := by decide +kernel
theorem dX4_init_20 : decode cX4_init 20 = .ok (.aload_n 0, 1) := by decide +kernel
theorem dX4_init_21 : decode cX4_init 21 = .ok (.bipush 24, 2) := by decide +kernel
theorem dX4_init_23 : decode cX4_init 23 = .ok (.newarray .int, 2) := by decide +kernel
theorem dX4_init_25 : decode cX4_init 25 = .ok (.putfield 18, 3) := by decide +kernel
theorem dX4_init_28 : decode cX4_init 28 = .ok (.aload_n 0, 1) := by decide +kernel
theorem dX4_init_29 : decode cX4_init 29 = .ok (.bipush 24, 2) := by decide +kernel
theorem dX4_init_31 : decode cX4_init 31 = .ok (.newarray .int, 2) := by decide +kernel
theorem dX4_init_33 : decode cX4_init 33 = .ok (.putfield 21, 3) := by decide +kernel
theorem dX4_init_36 : decode cX4_init 36 = .ok (.aload_n 0, 1) := by decide +kernel
theorem dX4_init_37 : decode cX4_init 37 = .ok (.bipush 24, 2) := by decide +kernel
theorem dX4_init_39 : decode cX4_init 39 = .ok (.newarray .int, 2) := by decide +kernel
theorem dX4_init_41 : decode cX4_init 41 = .ok (.putfield 24, 3) := by decide +kernel
theorem dX4_init_44 : decode cX4_init 44 = .ok (.aload_n 0, 1) := by decide +kernel
theorem dX4_init_45 : decode cX4_init 45 = .ok (.bipush 96, 2) := by decide +kernel
theorem dX4_init_47 : decode cX4_init 47 = .ok (.newarray .int, 2) := by decide +kernel
theorem dX4_init_49 : decode cX4_init 49 = .ok (.putfield 27, 3) := by decide +kernel
theorem dX4_init_52 : decode cX4_init 52 = .ok (.aload_n 0, 1) := by decide +kernel
theorem dX4_init_53 : decode cX4_init 53 = .ok (.iconst 4, 1) := by decide +kernel
theorem dX4_init_54 : decode cX4_init 54 = .ok (.newarray .int, 2) := by decide +kernel
theorem dX4_init_56 : decode cX4_init 56 = .ok (.putfield 30, 3) := by decide +kernel
theorem dX4_init_59 : decode cX4_init 59 = .ok (.aload_n 0, 1) := by decide +kernel
theorem dX4_init_60 : decode cX4_init 60 = .ok (.iconst 4, 1) := by decide +kernel
theorem dX4_init_61 : decode cX4_init 61 = .ok (.newarray .int, 2) := by decide +kernel
theorem dX4_init_63 : decode cX4_init 63 = .ok (.putfield 33, 3) := by decide +kernel
theorem dX4_init_66 : decode cX4_init 66 = .ok (.aload_n 0, 1) := by decide +kernel
theorem dX4_init_67 : decode cX4_init 67 = .ok (.bipush 24, 2) := by decide +kernel
theorem dX4_init_69 : decode cX4_init 69 = .ok (.newarray .int, 2) := by decide +kernel
theorem dX4_init_71 : decode cX4_init 71 = .ok (.putfield 36, 3) := by decide +kernel
theorem dX4_init_74 : decode cX4_init 74 = .ok (.return_, 1) := by decide +kernel
set_option maxHeartbeats 4000000 in
set_option maxRecDepth 100000 in
theorem cX4_init_new (l : Launch) (V : VT) (h0 sz : Nat) : Met l yX4_init (Cond.code yX4_init cX4_init 1 none :: lw_gd) ({ frames := 1, cells := 9, slots := 248, locals := 12 } : Room) (va_Pc [.ref h0] (fun U => U.heap.size = sz ∧ va_P (vD V) vwCl [(h0, .inr (4, [.int 0, .null, .null, .null, .null, .null, .null, .null, .null, .null]))] U.heap ∧ va_K (vD V) vwCl (vT V) U ∧ va_D (fun _ => True) [(h0, .inr (4, [.int 0, .null, .null, .null, .null, .null, .null, .null, .null, .null]))])) (va_Qv (fun a : Nat → Nat => a 1 = h0) (fun a t => va_P (vD V) vwCl (planW V a) t.heap ∧ va_K (vD V) vwCl (vT V) t ∧ va_D (va_A [(h0, .inr (4, [.int 0, .null, .null, .null, .null, .null, .null, .null, .null, .null]))] sz) (planW V a)) (va_A [(h0, .inr (4, [.int 0, .null, .null, .null, .null, .null, .null, .null, .null, .null]))] sz)) 9 248 (va_A [(h0, .inr (4, [.int 0, .null, .null, .null, .null, .null, .null, .null, .null, .null]))] sz) := by
  refine Met.ofW (cc := cX4_init) (maxL := 1) (ret := none) (by decide) rfl ?_
  intro p e s m args below meth c s₁ B hml hv
  obtain ⟨rfl, hsz, hP, hK, hD0⟩ := hv
  have hx := B.exec
  have hb := B.bytes
  have hr := B.returns
  have hts0 := atoms_spec (ws := Cond.code yX4_init cX4_init 1 none :: lw_gd) B.pre
  have hts : ∀ w ∈ lw_gd, w.before #[Value.ref h0] s = true := fun w hw => hts0 w (List.mem_cons_of_mem _ hw)
  have hown : s.vm.findClass RX4 = some m.cls := findClass_of_methodNamed B.named
  have hlocks := B.notSynchronized
  have hin : meth.name = "<init>" := (name_of_methodNamed B.named B.method).1
  subst hsz
  have hD := hD0.self (sz := s.heap.size)
  generalize hAe : va_A [(h0, .inr (4, [.int 0, .null, .null, .null, .null, .null, .null, .null, .null, .null]))] s.heap.size = A at hD ⊢
  have hA : ∀ q : Nat, s.heap.size ≤ q → A q := fun q h => by rw [← hAe]; exact Or.inr h
  have hS : va_S A s.heap s.heap [] := va_S.rf
  have hl := lv_entry ([.ref h0]) (n := 1) (Nat.le_of_ble_eq_true rfl)
  rw [lg_entry_eq]
  generalize (lg_sl ([.ref h0]) ++ List.replicate (1 - (lg_sl ([.ref h0])).length) Slot.unset).toArray = ls at hl ⊢
  have hl : lv_has ls 1 [(0, .ref h0)] := hl
  refine lv_aload_n hx hb dX4_init_0 rfl (lv_at hl 0 rfl) ?_
  refine W.objInit hx hb hown (hts _ wd_95) (hts _ wd_82) (hts _ wd_83) rfl (by rw [hml]; exact hl.1) rfl dX4_init_1 (Nat.le_of_ble_eq_true rfl) (Nat.le_of_ble_eq_true rfl) ?_
  refine W.eq (g2 := F0 m 4 ls []) rfl ?_
  refine lv_aload_n hx hb dX4_init_4 rfl (lv_at hl 0 rfl) ?_
  refine lv_bipush (v := (24 : Int32)) hx hb dX4_init_5 (by decide) ?_
  refine x_newI (N := 24) hx hb hts hK hP hD hS hA (by decide) rfl (Nat.le_of_ble_eq_true rfl) (Nat.le_of_ble_eq_true rfl) (Nat.le_of_ble_eq_true rfl) dX4_init_7 (fun q1 H hP hD hS => ?_)
  have hP : va_P (vD V) vwCl [(h0, .inr (4, [.int 0, .null, .null, .null, .null, .null, .null, .null, .null, .null])), (q1, .inl (vI V, 24, .inl (fun _ => 0)))] H := hP
  have hD : va_D A [(h0, .inr (4, [.int 0, .null, .null, .null, .null, .null, .null, .null, .null, .null])), (q1, .inl (vI V, 24, .inl (fun _ => 0)))] := hD
  refine va_putF (D := vD V) (ci := 4) (v := .ref q1) (ty := .array .int) (C := RX4) (T := TX4) (N := 10) hx hb hts gd_X4 tyX4 tyX4_ok nmX4 hown hK hP hD hS 0 rfl rfl 1 (by decide) (hts _ wd_99) (fun _ h9 => h9) rfl hin rfl (by decide +kernel) rfl rfl (Nat.le_of_ble_eq_true rfl) dX4_init_9 (fun H locs hP hD hS => ?_)
  have hP : va_P (vD V) vwCl [(h0, .inr (4, [.int 0, .ref q1, .null, .null, .null, .null, .null, .null, .null, .null])), (q1, .inl (vI V, 24, .inl (fun _ => 0)))] H := hP
  have hD : va_D A [(h0, .inr (4, [.int 0, .ref q1, .null, .null, .null, .null, .null, .null, .null, .null])), (q1, .inl (vI V, 24, .inl (fun _ => 0)))] := hD
  refine lv_aload_n hx hb dX4_init_12 rfl (lv_at hl 0 rfl) ?_
  refine lv_bipush (v := (24 : Int32)) hx hb dX4_init_13 (by decide) ?_
  refine x_newI (N := 24) hx hb hts hK hP hD hS hA (by decide) rfl (Nat.le_of_ble_eq_true rfl) (Nat.le_of_ble_eq_true rfl) (Nat.le_of_ble_eq_true rfl) dX4_init_15 (fun q2 H hP hD hS => ?_)
  have hP : va_P (vD V) vwCl [(h0, .inr (4, [.int 0, .ref q1, .null, .null, .null, .null, .null, .null, .null, .null])), (q1, .inl (vI V, 24, .inl (fun _ => 0))), (q2, .inl (vI V, 24, .inl (fun _ => 0)))] H := hP
  have hD : va_D A [(h0, .inr (4, [.int 0, .ref q1, .null, .null, .null, .null, .null, .null, .null, .null])), (q1, .inl (vI V, 24, .inl (fun _ => 0))), (q2, .inl (vI V, 24, .inl (fun _ => 0)))] := hD
  refine va_putF (D := vD V) (ci := 4) (v := .ref q2) (ty := .array .int) (C := RX4) (T := TX4) (N := 10) hx hb hts gd_X4 tyX4 tyX4_ok nmX4 hown hK hP hD hS 0 rfl rfl 2 (by decide) (hts _ wd_101) (fun _ h9 => h9) rfl hin rfl (by decide +kernel) rfl rfl (Nat.le_of_ble_eq_true rfl) dX4_init_17 (fun H locs hP hD hS => ?_)
  have hP : va_P (vD V) vwCl [(h0, .inr (4, [.int 0, .ref q1, .ref q2, .null, .null, .null, .null, .null, .null, .null])), (q1, .inl (vI V, 24, .inl (fun _ => 0))), (q2, .inl (vI V, 24, .inl (fun _ => 0)))] H := hP
  have hD : va_D A [(h0, .inr (4, [.int 0, .ref q1, .ref q2, .null, .null, .null, .null, .null, .null, .null])), (q1, .inl (vI V, 24, .inl (fun _ => 0))), (q2, .inl (vI V, 24, .inl (fun _ => 0)))] := hD
  refine lv_aload_n hx hb dX4_init_20 rfl (lv_at hl 0 rfl) ?_
  refine lv_bipush (v := (24 : Int32)) hx hb dX4_init_21 (by decide) ?_
  refine x_newI (N := 24) hx hb hts hK hP hD hS hA (by decide) rfl (Nat.le_of_ble_eq_true rfl) (Nat.le_of_ble_eq_true rfl) (Nat.le_of_ble_eq_true rfl) dX4_init_23 (fun q3 H hP hD hS => ?_)
  have hP : va_P (vD V) vwCl [(h0, .inr (4, [.int 0, .ref q1, .ref q2, .null, .null, .null, .null, .null, .null, .null])), (q1, .inl (vI V, 24, .inl (fun _ => 0))), (q2, .inl (vI V, 24, .inl (fun _ => 0))), (q3, .inl (vI V, 24, .inl (fun _ => 0)))] H := hP
  have hD : va_D A [(h0, .inr (4, [.int 0, .ref q1, .ref q2, .null, .null, .null, .null, .null, .null, .null])), (q1, .inl (vI V, 24, .inl (fun _ => 0))), (q2, .inl (vI V, 24, .inl (fun _ => 0))), (q3, .inl (vI V, 24, .inl (fun _ => 0)))] := hD
  refine va_putF (D := vD V) (ci := 4) (v := .ref q3) (ty := .array .int) (C := RX4) (T := TX4) (N := 10) hx hb hts gd_X4 tyX4 tyX4_ok nmX4 hown hK hP hD hS 0 rfl rfl 3 (by decide) (hts _ wd_103) (fun _ h9 => h9) rfl hin rfl (by decide +kernel) rfl rfl (Nat.le_of_ble_eq_true rfl) dX4_init_25 (fun H locs hP hD hS => ?_)
  have hP : va_P (vD V) vwCl [(h0, .inr (4, [.int 0, .ref q1, .ref q2, .ref q3, .null, .null, .null, .null, .null, .null])), (q1, .inl (vI V, 24, .inl (fun _ => 0))), (q2, .inl (vI V, 24, .inl (fun _ => 0))), (q3, .inl (vI V, 24, .inl (fun _ => 0)))] H := hP
  have hD : va_D A [(h0, .inr (4, [.int 0, .ref q1, .ref q2, .ref q3, .null, .null, .null, .null, .null, .null])), (q1, .inl (vI V, 24, .inl (fun _ => 0))), (q2, .inl (vI V, 24, .inl (fun _ => 0))), (q3, .inl (vI V, 24, .inl (fun _ => 0)))] := hD
  refine lv_aload_n hx hb dX4_init_28 rfl (lv_at hl 0 rfl) ?_
  refine lv_bipush (v := (24 : Int32)) hx hb dX4_init_29 (by decide) ?_
  refine x_newI (N := 24) hx hb hts hK hP hD hS hA (by decide) rfl (Nat.le_of_ble_eq_true rfl) (Nat.le_of_ble_eq_true rfl) (Nat.le_of_ble_eq_true rfl) dX4_init_31 (fun q4 H hP hD hS => ?_)
  have hP : va_P (vD V) vwCl [(h0, .inr (4, [.int 0, .ref q1, .ref q2, .ref q3, .null, .null, .null, .null, .null, .null])), (q1, .inl (vI V, 24, .inl (fun _ => 0))), (q2, .inl (vI V, 24, .inl (fun _ => 0))), (q3, .inl (vI V, 24, .inl (fun _ => 0))), (q4, .inl (vI V, 24, .inl (fun _ => 0)))] H := hP
  have hD : va_D A [(h0, .inr (4, [.int 0, .ref q1, .ref q2, .ref q3, .null, .null, .null, .null, .null, .null])), (q1, .inl (vI V, 24, .inl (fun _ => 0))), (q2, .inl (vI V, 24, .inl (fun _ => 0))), (q3, .inl (vI V, 24, .inl (fun _ => 0))), (q4, .inl (vI V, 24, .inl (fun _ => 0)))] := hD
  refine va_putF (D := vD V) (ci := 4) (v := .ref q4) (ty := .array .int) (C := RX4) (T := TX4) (N := 10) hx hb hts gd_X4 tyX4 tyX4_ok nmX4 hown hK hP hD hS 0 rfl rfl 4 (by decide) (hts _ wd_105) (fun _ h9 => h9) rfl hin rfl (by decide +kernel) rfl rfl (Nat.le_of_ble_eq_true rfl) dX4_init_33 (fun H locs hP hD hS => ?_)
  have hP : va_P (vD V) vwCl [(h0, .inr (4, [.int 0, .ref q1, .ref q2, .ref q3, .ref q4, .null, .null, .null, .null, .null])), (q1, .inl (vI V, 24, .inl (fun _ => 0))), (q2, .inl (vI V, 24, .inl (fun _ => 0))), (q3, .inl (vI V, 24, .inl (fun _ => 0))), (q4, .inl (vI V, 24, .inl (fun _ => 0)))] H := hP
  have hD : va_D A [(h0, .inr (4, [.int 0, .ref q1, .ref q2, .ref q3, .ref q4, .null, .null, .null, .null, .null])), (q1, .inl (vI V, 24, .inl (fun _ => 0))), (q2, .inl (vI V, 24, .inl (fun _ => 0))), (q3, .inl (vI V, 24, .inl (fun _ => 0))), (q4, .inl (vI V, 24, .inl (fun _ => 0)))] := hD
  refine lv_aload_n hx hb dX4_init_36 rfl (lv_at hl 0 rfl) ?_
  refine lv_bipush (v := (24 : Int32)) hx hb dX4_init_37 (by decide) ?_
  refine x_newI (N := 24) hx hb hts hK hP hD hS hA (by decide) rfl (Nat.le_of_ble_eq_true rfl) (Nat.le_of_ble_eq_true rfl) (Nat.le_of_ble_eq_true rfl) dX4_init_39 (fun q5 H hP hD hS => ?_)
  have hP : va_P (vD V) vwCl [(h0, .inr (4, [.int 0, .ref q1, .ref q2, .ref q3, .ref q4, .null, .null, .null, .null, .null])), (q1, .inl (vI V, 24, .inl (fun _ => 0))), (q2, .inl (vI V, 24, .inl (fun _ => 0))), (q3, .inl (vI V, 24, .inl (fun _ => 0))), (q4, .inl (vI V, 24, .inl (fun _ => 0))), (q5, .inl (vI V, 24, .inl (fun _ => 0)))] H := hP
  have hD : va_D A [(h0, .inr (4, [.int 0, .ref q1, .ref q2, .ref q3, .ref q4, .null, .null, .null, .null, .null])), (q1, .inl (vI V, 24, .inl (fun _ => 0))), (q2, .inl (vI V, 24, .inl (fun _ => 0))), (q3, .inl (vI V, 24, .inl (fun _ => 0))), (q4, .inl (vI V, 24, .inl (fun _ => 0))), (q5, .inl (vI V, 24, .inl (fun _ => 0)))] := hD
  refine va_putF (D := vD V) (ci := 4) (v := .ref q5) (ty := .array .int) (C := RX4) (T := TX4) (N := 10) hx hb hts gd_X4 tyX4 tyX4_ok nmX4 hown hK hP hD hS 0 rfl rfl 5 (by decide) (hts _ wd_107) (fun _ h9 => h9) rfl hin rfl (by decide +kernel) rfl rfl (Nat.le_of_ble_eq_true rfl) dX4_init_41 (fun H locs hP hD hS => ?_)
  have hP : va_P (vD V) vwCl [(h0, .inr (4, [.int 0, .ref q1, .ref q2, .ref q3, .ref q4, .ref q5, .null, .null, .null, .null])), (q1, .inl (vI V, 24, .inl (fun _ => 0))), (q2, .inl (vI V, 24, .inl (fun _ => 0))), (q3, .inl (vI V, 24, .inl (fun _ => 0))), (q4, .inl (vI V, 24, .inl (fun _ => 0))), (q5, .inl (vI V, 24, .inl (fun _ => 0)))] H := hP
  have hD : va_D A [(h0, .inr (4, [.int 0, .ref q1, .ref q2, .ref q3, .ref q4, .ref q5, .null, .null, .null, .null])), (q1, .inl (vI V, 24, .inl (fun _ => 0))), (q2, .inl (vI V, 24, .inl (fun _ => 0))), (q3, .inl (vI V, 24, .inl (fun _ => 0))), (q4, .inl (vI V, 24, .inl (fun _ => 0))), (q5, .inl (vI V, 24, .inl (fun _ => 0)))] := hD
  refine lv_aload_n hx hb dX4_init_44 rfl (lv_at hl 0 rfl) ?_
  refine lv_bipush (v := (96 : Int32)) hx hb dX4_init_45 (by decide) ?_
  refine x_newI (N := 96) hx hb hts hK hP hD hS hA (by decide) rfl (Nat.le_of_ble_eq_true rfl) (Nat.le_of_ble_eq_true rfl) (Nat.le_of_ble_eq_true rfl) dX4_init_47 (fun q6 H hP hD hS => ?_)
  have hP : va_P (vD V) vwCl [(h0, .inr (4, [.int 0, .ref q1, .ref q2, .ref q3, .ref q4, .ref q5, .null, .null, .null, .null])), (q1, .inl (vI V, 24, .inl (fun _ => 0))), (q2, .inl (vI V, 24, .inl (fun _ => 0))), (q3, .inl (vI V, 24, .inl (fun _ => 0))), (q4, .inl (vI V, 24, .inl (fun _ => 0))), (q5, .inl (vI V, 24, .inl (fun _ => 0))), (q6, .inl (vI V, 96, .inl (fun _ => 0)))] H := hP
  have hD : va_D A [(h0, .inr (4, [.int 0, .ref q1, .ref q2, .ref q3, .ref q4, .ref q5, .null, .null, .null, .null])), (q1, .inl (vI V, 24, .inl (fun _ => 0))), (q2, .inl (vI V, 24, .inl (fun _ => 0))), (q3, .inl (vI V, 24, .inl (fun _ => 0))), (q4, .inl (vI V, 24, .inl (fun _ => 0))), (q5, .inl (vI V, 24, .inl (fun _ => 0))), (q6, .inl (vI V, 96, .inl (fun _ => 0)))] := hD
  refine va_putF (D := vD V) (ci := 4) (v := .ref q6) (ty := .array .int) (C := RX4) (T := TX4) (N := 10) hx hb hts gd_X4 tyX4 tyX4_ok nmX4 hown hK hP hD hS 0 rfl rfl 6 (by decide) (hts _ wd_109) (fun _ h9 => h9) rfl hin rfl (by decide +kernel) rfl rfl (Nat.le_of_ble_eq_true rfl) dX4_init_49 (fun H locs hP hD hS => ?_)
  have hP : va_P (vD V) vwCl [(h0, .inr (4, [.int 0, .ref q1, .ref q2, .ref q3, .ref q4, .ref q5, .ref q6, .null, .null, .null])), (q1, .inl (vI V, 24, .inl (fun _ => 0))), (q2, .inl (vI V, 24, .inl (fun _ => 0))), (q3, .inl (vI V, 24, .inl (fun _ => 0))), (q4, .inl (vI V, 24, .inl (fun _ => 0))), (q5, .inl (vI V, 24, .inl (fun _ => 0))), (q6, .inl (vI V, 96, .inl (fun _ => 0)))] H := hP
  have hD : va_D A [(h0, .inr (4, [.int 0, .ref q1, .ref q2, .ref q3, .ref q4, .ref q5, .ref q6, .null, .null, .null])), (q1, .inl (vI V, 24, .inl (fun _ => 0))), (q2, .inl (vI V, 24, .inl (fun _ => 0))), (q3, .inl (vI V, 24, .inl (fun _ => 0))), (q4, .inl (vI V, 24, .inl (fun _ => 0))), (q5, .inl (vI V, 24, .inl (fun _ => 0))), (q6, .inl (vI V, 96, .inl (fun _ => 0)))] := hD
  refine lv_aload_n hx hb dX4_init_52 rfl (lv_at hl 0 rfl) ?_
  refine lv_iconst (v := (4 : Int32)) hx hb dX4_init_53 (by decide) ?_
  refine x_newI (N := 4) hx hb hts hK hP hD hS hA (by decide) rfl (Nat.le_of_ble_eq_true rfl) (Nat.le_of_ble_eq_true rfl) (Nat.le_of_ble_eq_true rfl) dX4_init_54 (fun q7 H hP hD hS => ?_)
  have hP : va_P (vD V) vwCl [(h0, .inr (4, [.int 0, .ref q1, .ref q2, .ref q3, .ref q4, .ref q5, .ref q6, .null, .null, .null])), (q1, .inl (vI V, 24, .inl (fun _ => 0))), (q2, .inl (vI V, 24, .inl (fun _ => 0))), (q3, .inl (vI V, 24, .inl (fun _ => 0))), (q4, .inl (vI V, 24, .inl (fun _ => 0))), (q5, .inl (vI V, 24, .inl (fun _ => 0))), (q6, .inl (vI V, 96, .inl (fun _ => 0))), (q7, .inl (vI V, 4, .inl (fun _ => 0)))] H := hP
  have hD : va_D A [(h0, .inr (4, [.int 0, .ref q1, .ref q2, .ref q3, .ref q4, .ref q5, .ref q6, .null, .null, .null])), (q1, .inl (vI V, 24, .inl (fun _ => 0))), (q2, .inl (vI V, 24, .inl (fun _ => 0))), (q3, .inl (vI V, 24, .inl (fun _ => 0))), (q4, .inl (vI V, 24, .inl (fun _ => 0))), (q5, .inl (vI V, 24, .inl (fun _ => 0))), (q6, .inl (vI V, 96, .inl (fun _ => 0))), (q7, .inl (vI V, 4, .inl (fun _ => 0)))] := hD
  refine va_putF (D := vD V) (ci := 4) (v := .ref q7) (ty := .array .int) (C := RX4) (T := TX4) (N := 10) hx hb hts gd_X4 tyX4 tyX4_ok nmX4 hown hK hP hD hS 0 rfl rfl 7 (by decide) (hts _ wd_110) (fun _ h9 => h9) rfl hin rfl (by decide +kernel) rfl rfl (Nat.le_of_ble_eq_true rfl) dX4_init_56 (fun H locs hP hD hS => ?_)
  have hP : va_P (vD V) vwCl [(h0, .inr (4, [.int 0, .ref q1, .ref q2, .ref q3, .ref q4, .ref q5, .ref q6, .ref q7, .null, .null])), (q1, .inl (vI V, 24, .inl (fun _ => 0))), (q2, .inl (vI V, 24, .inl (fun _ => 0))), (q3, .inl (vI V, 24, .inl (fun _ => 0))), (q4, .inl (vI V, 24, .inl (fun _ => 0))), (q5, .inl (vI V, 24, .inl (fun _ => 0))), (q6, .inl (vI V, 96, .inl (fun _ => 0))), (q7, .inl (vI V, 4, .inl (fun _ => 0)))] H := hP
  have hD : va_D A [(h0, .inr (4, [.int 0, .ref q1, .ref q2, .ref q3, .ref q4, .ref q5, .ref q6, .ref q7, .null, .null])), (q1, .inl (vI V, 24, .inl (fun _ => 0))), (q2, .inl (vI V, 24, .inl (fun _ => 0))), (q3, .inl (vI V, 24, .inl (fun _ => 0))), (q4, .inl (vI V, 24, .inl (fun _ => 0))), (q5, .inl (vI V, 24, .inl (fun _ => 0))), (q6, .inl (vI V, 96, .inl (fun _ => 0))), (q7, .inl (vI V, 4, .inl (fun _ => 0)))] := hD
  refine lv_aload_n hx hb dX4_init_59 rfl (lv_at hl 0 rfl) ?_
  refine lv_iconst (v := (4 : Int32)) hx hb dX4_init_60 (by decide) ?_
  refine x_newI (N := 4) hx hb hts hK hP hD hS hA (by decide) rfl (Nat.le_of_ble_eq_true rfl) (Nat.le_of_ble_eq_true rfl) (Nat.le_of_ble_eq_true rfl) dX4_init_61 (fun q8 H hP hD hS => ?_)
  have hP : va_P (vD V) vwCl [(h0, .inr (4, [.int 0, .ref q1, .ref q2, .ref q3, .ref q4, .ref q5, .ref q6, .ref q7, .null, .null])), (q1, .inl (vI V, 24, .inl (fun _ => 0))), (q2, .inl (vI V, 24, .inl (fun _ => 0))), (q3, .inl (vI V, 24, .inl (fun _ => 0))), (q4, .inl (vI V, 24, .inl (fun _ => 0))), (q5, .inl (vI V, 24, .inl (fun _ => 0))), (q6, .inl (vI V, 96, .inl (fun _ => 0))), (q7, .inl (vI V, 4, .inl (fun _ => 0))), (q8, .inl (vI V, 4, .inl (fun _ => 0)))] H := hP
  have hD : va_D A [(h0, .inr (4, [.int 0, .ref q1, .ref q2, .ref q3, .ref q4, .ref q5, .ref q6, .ref q7, .null, .null])), (q1, .inl (vI V, 24, .inl (fun _ => 0))), (q2, .inl (vI V, 24, .inl (fun _ => 0))), (q3, .inl (vI V, 24, .inl (fun _ => 0))), (q4, .inl (vI V, 24, .inl (fun _ => 0))), (q5, .inl (vI V, 24, .inl (fun _ => 0))), (q6, .inl (vI V, 96, .inl (fun _ => 0))), (q7, .inl (vI V, 4, .inl (fun _ => 0))), (q8, .inl (vI V, 4, .inl (fun _ => 0)))] := hD
  refine va_putF (D := vD V) (ci := 4) (v := .ref q8) (ty := .array .int) (C := RX4) (T := TX4) (N := 10) hx hb hts gd_X4 tyX4 tyX4_ok nmX4 hown hK hP hD hS 0 rfl rfl 8 (by decide) (hts _ wd_112) (fun _ h9 => h9) rfl hin rfl (by decide +kernel) rfl rfl (Nat.le_of_ble_eq_true rfl) dX4_init_63 (fun H locs hP hD hS => ?_)
  have hP : va_P (vD V) vwCl [(h0, .inr (4, [.int 0, .ref q1, .ref q2, .ref q3, .ref q4, .ref q5, .ref q6, .ref q7, .ref q8, .null])), (q1, .inl (vI V, 24, .inl (fun _ => 0))), (q2, .inl (vI V, 24, .inl (fun _ => 0))), (q3, .inl (vI V, 24, .inl (fun _ => 0))), (q4, .inl (vI V, 24, .inl (fun _ => 0))), (q5, .inl (vI V, 24, .inl (fun _ => 0))), (q6, .inl (vI V, 96, .inl (fun _ => 0))), (q7, .inl (vI V, 4, .inl (fun _ => 0))), (q8, .inl (vI V, 4, .inl (fun _ => 0)))] H := hP
  have hD : va_D A [(h0, .inr (4, [.int 0, .ref q1, .ref q2, .ref q3, .ref q4, .ref q5, .ref q6, .ref q7, .ref q8, .null])), (q1, .inl (vI V, 24, .inl (fun _ => 0))), (q2, .inl (vI V, 24, .inl (fun _ => 0))), (q3, .inl (vI V, 24, .inl (fun _ => 0))), (q4, .inl (vI V, 24, .inl (fun _ => 0))), (q5, .inl (vI V, 24, .inl (fun _ => 0))), (q6, .inl (vI V, 96, .inl (fun _ => 0))), (q7, .inl (vI V, 4, .inl (fun _ => 0))), (q8, .inl (vI V, 4, .inl (fun _ => 0)))] := hD
  refine lv_aload_n hx hb dX4_init_66 rfl (lv_at hl 0 rfl) ?_
  refine lv_bipush (v := (24 : Int32)) hx hb dX4_init_67 (by decide) ?_
  refine x_newI (N := 24) hx hb hts hK hP hD hS hA (by decide) rfl (Nat.le_of_ble_eq_true rfl) (Nat.le_of_ble_eq_true rfl) (Nat.le_of_ble_eq_true rfl) dX4_init_69 (fun q9 H hP hD hS => ?_)
  have hP : va_P (vD V) vwCl [(h0, .inr (4, [.int 0, .ref q1, .ref q2, .ref q3, .ref q4, .ref q5, .ref q6, .ref q7, .ref q8, .null])), (q1, .inl (vI V, 24, .inl (fun _ => 0))), (q2, .inl (vI V, 24, .inl (fun _ => 0))), (q3, .inl (vI V, 24, .inl (fun _ => 0))), (q4, .inl (vI V, 24, .inl (fun _ => 0))), (q5, .inl (vI V, 24, .inl (fun _ => 0))), (q6, .inl (vI V, 96, .inl (fun _ => 0))), (q7, .inl (vI V, 4, .inl (fun _ => 0))), (q8, .inl (vI V, 4, .inl (fun _ => 0))), (q9, .inl (vI V, 24, .inl (fun _ => 0)))] H := hP
  have hD : va_D A [(h0, .inr (4, [.int 0, .ref q1, .ref q2, .ref q3, .ref q4, .ref q5, .ref q6, .ref q7, .ref q8, .null])), (q1, .inl (vI V, 24, .inl (fun _ => 0))), (q2, .inl (vI V, 24, .inl (fun _ => 0))), (q3, .inl (vI V, 24, .inl (fun _ => 0))), (q4, .inl (vI V, 24, .inl (fun _ => 0))), (q5, .inl (vI V, 24, .inl (fun _ => 0))), (q6, .inl (vI V, 96, .inl (fun _ => 0))), (q7, .inl (vI V, 4, .inl (fun _ => 0))), (q8, .inl (vI V, 4, .inl (fun _ => 0))), (q9, .inl (vI V, 24, .inl (fun _ => 0)))] := hD
  refine va_putF (D := vD V) (ci := 4) (v := .ref q9) (ty := .array .int) (C := RX4) (T := TX4) (N := 10) hx hb hts gd_X4 tyX4 tyX4_ok nmX4 hown hK hP hD hS 0 rfl rfl 9 (by decide) (hts _ wd_113) (fun _ h9 => h9) rfl hin rfl (by decide +kernel) rfl rfl (Nat.le_of_ble_eq_true rfl) dX4_init_71 (fun H locs hP hD hS => ?_)
  have hP : va_P (vD V) vwCl [(h0, .inr (4, [.int 0, .ref q1, .ref q2, .ref q3, .ref q4, .ref q5, .ref q6, .ref q7, .ref q8, .ref q9])), (q1, .inl (vI V, 24, .inl (fun _ => 0))), (q2, .inl (vI V, 24, .inl (fun _ => 0))), (q3, .inl (vI V, 24, .inl (fun _ => 0))), (q4, .inl (vI V, 24, .inl (fun _ => 0))), (q5, .inl (vI V, 24, .inl (fun _ => 0))), (q6, .inl (vI V, 96, .inl (fun _ => 0))), (q7, .inl (vI V, 4, .inl (fun _ => 0))), (q8, .inl (vI V, 4, .inl (fun _ => 0))), (q9, .inl (vI V, 24, .inl (fun _ => 0)))] H := hP
  have hD : va_D A [(h0, .inr (4, [.int 0, .ref q1, .ref q2, .ref q3, .ref q4, .ref q5, .ref q6, .ref q7, .ref q8, .ref q9])), (q1, .inl (vI V, 24, .inl (fun _ => 0))), (q2, .inl (vI V, 24, .inl (fun _ => 0))), (q3, .inl (vI V, 24, .inl (fun _ => 0))), (q4, .inl (vI V, 24, .inl (fun _ => 0))), (q5, .inl (vI V, 24, .inl (fun _ => 0))), (q6, .inl (vI V, 96, .inl (fun _ => 0))), (q7, .inl (vI V, 4, .inl (fun _ => 0))), (q8, .inl (vI V, 4, .inl (fun _ => 0))), (q9, .inl (vI V, 24, .inl (fun _ => 0)))] := hD
  refine W.widen (k := 9) (n := 248) (Nat.le_of_ble_eq_true rfl) (Nat.le_of_ble_eq_true rfl) ?_
  have hP9 := hP.sub (ws' := planW V (fun o => match o with | 1 => h0 | 3 => q1 | 4 => q2 | 5 => q3 | 6 => q4 | 7 => q5 | 8 => q6 | 9 => q7 | 10 => q8 | 11 => q9 | _ => 0)) [0, 1, 2, 3, 4, 5, 6, 7, 8, 9] rfl
  have hD9 := hD.sub (ws' := planW V (fun o => match o with | 1 => h0 | 3 => q1 | 4 => q2 | 5 => q3 | 6 => q4 | 7 => q5 | 8 => q6 | 9 => q7 | 10 => q8 | 11 => q9 | _ => 0)) [0, 1, 2, 3, 4, 5, 6, 7, 8, 9] (by decide) rfl
  exact W.vret hx hb hr (fun t ht hW => ⟨⟨(fun o => match o with | 1 => h0 | 3 => q1 | 4 => q2 | 5 => q3 | 6 => q4 | 7 => q5 | 8 => q6 | 9 => q7 | 10 => q8 | 11 => q9 | _ => 0), rfl, rfl, by rw [ht]; exact hP9, va_K.moved hW.alike hK, hD9⟩, hS.F ht⟩) hS.2.2 dX4_init_74
theorem dX0_init_0 : decode cX0_init 0 = .ok (.aload_n 0, 1) := by decide +kernel
theorem dX0_init_1 : decode cX0_init 1 = .ok (.invokespecial 3, 3) := by decide +kernel
theorem dX0_init_4 : decode cX0_init 4 = .ok (.aload_n 0, 1) := by decide +kernel
theorem dX0_init_5 : decode cX0_init 5 = .ok (.bipush 40, 2) := by decide +kernel
theorem dX0_init_7 : decode cX0_init 7 = .ok (.newarray .int, 2) := by decide +kernel
theorem dX0_init_9 : decode cX0_init 9 = .ok (.putfield 9, 3) := by decide +kernel
theorem dX0_init_12 : decode cX0_init 12 = .ok (.aload_n 0, 1) := by decide +kernel
theorem dX0_init_13 : decode cX0_init 13 = .ok (.bipush 40, 2) := by decide +kernel
theorem dX0_init_15 : decode cX0_init 15 = .ok (.newarray .int, 2) := by decide +kernel
theorem dX0_init_17 : decode cX0_init 17 = .ok (.putfield 15, 3) := by decide +kernel
theorem dX0_init_20 : decode cX0_init 20 = .ok (.aload_n 0, 1) := by decide +kernel
theorem dX0_init_21 : decode cX0_init 21 = .ok (.bipush 40, 2) := by decide +kernel
theorem dX0_init_23 : decode cX0_init 23 = .ok (.newarray .int, 2) := by decide +kernel
theorem dX0_init_25 : decode cX0_init 25 = .ok (.putfield 18, 3) := by decide +kernel
theorem dX0_init_28 : decode cX0_init 28 = .ok (.aload_n 0, 1) := by decide +kernel
theorem dX0_init_29 : decode cX0_init 29 = .ok (.bipush 40, 2) := by decide +kernel
theorem dX0_init_31 : decode cX0_init 31 = .ok (.newarray .int, 2) := by decide +kernel
theorem dX0_init_33 : decode cX0_init 33 = .ok (.putfield 21, 3) := by decide +kernel
theorem dX0_init_36 : decode cX0_init 36 = .ok (.return_, 1) := by decide +kernel
set_option maxHeartbeats 4000000 in
set_option maxRecDepth 100000 in
theorem cX0_init_new (l : Launch) (V : VT) (h0 sz : Nat) : Met l yX0_init (Cond.code yX0_init cX0_init 1 none :: lw_gd) ({ frames := 1, cells := 4, slots := 160, locals := 12 } : Room) (va_Pc [.ref h0] (fun U => U.heap.size = sz ∧ va_P (vD V) vwCl [(h0, .inr (0, [.int 0, .null, .null, .null, .null]))] U.heap ∧ va_K (vD V) vwCl (vT V) U ∧ va_D (fun _ => True) [(h0, .inr (0, [.int 0, .null, .null, .null, .null]))])) (va_Qv (fun a : Nat → Nat => a 2 = h0) (fun a t => va_P (vD V) vwCl (contW V a) t.heap ∧ va_K (vD V) vwCl (vT V) t ∧ va_D (va_A [(h0, .inr (0, [.int 0, .null, .null, .null, .null]))] sz) (contW V a)) (va_A [(h0, .inr (0, [.int 0, .null, .null, .null, .null]))] sz)) 4 160 (va_A [(h0, .inr (0, [.int 0, .null, .null, .null, .null]))] sz) := by
  refine Met.ofW (cc := cX0_init) (maxL := 1) (ret := none) (by decide) rfl ?_
  intro p e s m args below meth c s₁ B hml hv
  obtain ⟨rfl, hsz, hP, hK, hD0⟩ := hv
  have hx := B.exec
  have hb := B.bytes
  have hr := B.returns
  have hts0 := atoms_spec (ws := Cond.code yX0_init cX0_init 1 none :: lw_gd) B.pre
  have hts : ∀ w ∈ lw_gd, w.before #[Value.ref h0] s = true := fun w hw => hts0 w (List.mem_cons_of_mem _ hw)
  have hown : s.vm.findClass RX0 = some m.cls := findClass_of_methodNamed B.named
  have hlocks := B.notSynchronized
  have hin : meth.name = "<init>" := (name_of_methodNamed B.named B.method).1
  subst hsz
  have hD := hD0.self (sz := s.heap.size)
  generalize hAe : va_A [(h0, .inr (0, [.int 0, .null, .null, .null, .null]))] s.heap.size = A at hD ⊢
  have hA : ∀ q : Nat, s.heap.size ≤ q → A q := fun q h => by rw [← hAe]; exact Or.inr h
  have hS : va_S A s.heap s.heap [] := va_S.rf
  have hl := lv_entry ([.ref h0]) (n := 1) (Nat.le_of_ble_eq_true rfl)
  rw [lg_entry_eq]
  generalize (lg_sl ([.ref h0]) ++ List.replicate (1 - (lg_sl ([.ref h0])).length) Slot.unset).toArray = ls at hl ⊢
  have hl : lv_has ls 1 [(0, .ref h0)] := hl
  refine lv_aload_n hx hb dX0_init_0 rfl (lv_at hl 0 rfl) ?_
  refine W.objInit hx hb hown (hts _ wd_143) (hts _ wd_82) (hts _ wd_83) rfl (by rw [hml]; exact hl.1) rfl dX0_init_1 (Nat.le_of_ble_eq_true rfl) (Nat.le_of_ble_eq_true rfl) ?_
  refine W.eq (g2 := F0 m 4 ls []) rfl ?_
  refine lv_aload_n hx hb dX0_init_4 rfl (lv_at hl 0 rfl) ?_
  refine lv_bipush (v := (40 : Int32)) hx hb dX0_init_5 (by decide) ?_
  refine x_newI (N := 40) hx hb hts hK hP hD hS hA (by decide) rfl (Nat.le_of_ble_eq_true rfl) (Nat.le_of_ble_eq_true rfl) (Nat.le_of_ble_eq_true rfl) dX0_init_7 (fun q1 H hP hD hS => ?_)
  have hP : va_P (vD V) vwCl [(h0, .inr (0, [.int 0, .null, .null, .null, .null])), (q1, .inl (vI V, 40, .inl (fun _ => 0)))] H := hP
  have hD : va_D A [(h0, .inr (0, [.int 0, .null, .null, .null, .null])), (q1, .inl (vI V, 40, .inl (fun _ => 0)))] := hD
  refine va_putF (D := vD V) (ci := 0) (v := .ref q1) (ty := .array .int) (C := RX0) (T := TX0) (N := 5) hx hb hts gd_X0 tyX0 tyX0_ok nmX0 hown hK hP hD hS 0 rfl rfl 1 (by decide) (hts _ wd_147) (fun _ h9 => h9) rfl hin rfl (by decide +kernel) rfl rfl (Nat.le_of_ble_eq_true rfl) dX0_init_9 (fun H locs hP hD hS => ?_)
  have hP : va_P (vD V) vwCl [(h0, .inr (0, [.int 0, .ref q1, .null, .null, .null])), (q1, .inl (vI V, 40, .inl (fun _ => 0)))] H := hP
  have hD : va_D A [(h0, .inr (0, [.int 0, .ref q1, .null, .null, .null])), (q1, .inl (vI V, 40, .inl (fun _ => 0)))] := hD
  refine lv_aload_n hx hb dX0_init_12 rfl (lv_at hl 0 rfl) ?_
  refine lv_bipush (v := (40 : Int32)) hx hb dX0_init_13 (by decide) ?_
  refine x_newI (N := 40) hx hb hts hK hP hD hS hA (by decide) rfl (Nat.le_of_ble_eq_true rfl) (Nat.le_of_ble_eq_true rfl) (Nat.le_of_ble_eq_true rfl) dX0_init_15 (fun q2 H hP hD hS => ?_)
  have hP : va_P (vD V) vwCl [(h0, .inr (0, [.int 0, .ref q1, .null, .null, .null])), (q1, .inl (vI V, 40, .inl (fun _ => 0))), (q2, .inl (vI V, 40, .inl (fun _ => 0)))] H := hP
  have hD : va_D A [(h0, .inr (0, [.int 0, .ref q1, .null, .null, .null])), (q1, .inl (vI V, 40, .inl (fun _ => 0))), (q2, .inl (vI V, 40, .inl (fun _ => 0)))] := hD
  refine va_putF (D := vD V) (ci := 0) (v := .ref q2) (ty := .array .int) (C := RX0) (T := TX0) (N := 5) hx hb hts gd_X0 tyX0 tyX0_ok nmX0 hown hK hP hD hS 0 rfl rfl 2 (by decide) (hts _ wd_149) (fun _ h9 => h9) rfl hin rfl (by decide +kernel) rfl rfl (Nat.le_of_ble_eq_true rfl) dX0_init_17 (fun H locs hP hD hS => ?_)
  have hP : va_P (vD V) vwCl [(h0, .inr (0, [.int 0, .ref q1, .ref q2, .null, .null])), (q1, .inl (vI V, 40, .inl (fun _ => 0))), (q2, .inl (vI V, 40, .inl (fun _ => 0)))] H := hP
  have hD : va_D A [(h0, .inr (0, [.int 0, .ref q1, .ref q2, .null, .null])), (q1, .inl (vI V, 40, .inl (fun _ => 0))), (q2, .inl (vI V, 40, .inl (fun _ => 0)))] := hD
  refine lv_aload_n hx hb dX0_init_20 rfl (lv_at hl 0 rfl) ?_
  refine lv_bipush (v := (40 : Int32)) hx hb dX0_init_21 (by decide) ?_
  refine x_newI (N := 40) hx hb hts hK hP hD hS hA (by decide) rfl (Nat.le_of_ble_eq_true rfl) (Nat.le_of_ble_eq_true rfl) (Nat.le_of_ble_eq_true rfl) dX0_init_23 (fun q3 H hP hD hS => ?_)
  have hP : va_P (vD V) vwCl [(h0, .inr (0, [.int 0, .ref q1, .ref q2, .null, .null])), (q1, .inl (vI V, 40, .inl (fun _ => 0))), (q2, .inl (vI V, 40, .inl (fun _ => 0))), (q3, .inl (vI V, 40, .inl (fun _ => 0)))] H := hP
  have hD : va_D A [(h0, .inr (0, [.int 0, .ref q1, .ref q2, .null, .null])), (q1, .inl (vI V, 40, .inl (fun _ => 0))), (q2, .inl (vI V, 40, .inl (fun _ => 0))), (q3, .inl (vI V, 40, .inl (fun _ => 0)))] := hD
  refine va_putF (D := vD V) (ci := 0) (v := .ref q3) (ty := .array .int) (C := RX0) (T := TX0) (N := 5) hx hb hts gd_X0 tyX0 tyX0_ok nmX0 hown hK hP hD hS 0 rfl rfl 3 (by decide) (hts _ wd_151) (fun _ h9 => h9) rfl hin rfl (by decide +kernel) rfl rfl (Nat.le_of_ble_eq_true rfl) dX0_init_25 (fun H locs hP hD hS => ?_)
  have hP : va_P (vD V) vwCl [(h0, .inr (0, [.int 0, .ref q1, .ref q2, .ref q3, .null])), (q1, .inl (vI V, 40, .inl (fun _ => 0))), (q2, .inl (vI V, 40, .inl (fun _ => 0))), (q3, .inl (vI V, 40, .inl (fun _ => 0)))] H := hP
  have hD : va_D A [(h0, .inr (0, [.int 0, .ref q1, .ref q2, .ref q3, .null])), (q1, .inl (vI V, 40, .inl (fun _ => 0))), (q2, .inl (vI V, 40, .inl (fun _ => 0))), (q3, .inl (vI V, 40, .inl (fun _ => 0)))] := hD
  refine lv_aload_n hx hb dX0_init_28 rfl (lv_at hl 0 rfl) ?_
  refine lv_bipush (v := (40 : Int32)) hx hb dX0_init_29 (by decide) ?_
  refine x_newI (N := 40) hx hb hts hK hP hD hS hA (by decide) rfl (Nat.le_of_ble_eq_true rfl) (Nat.le_of_ble_eq_true rfl) (Nat.le_of_ble_eq_true rfl) dX0_init_31 (fun q4 H hP hD hS => ?_)
  have hP : va_P (vD V) vwCl [(h0, .inr (0, [.int 0, .ref q1, .ref q2, .ref q3, .null])), (q1, .inl (vI V, 40, .inl (fun _ => 0))), (q2, .inl (vI V, 40, .inl (fun _ => 0))), (q3, .inl (vI V, 40, .inl (fun _ => 0))), (q4, .inl (vI V, 40, .inl (fun _ => 0)))] H := hP
  have hD : va_D A [(h0, .inr (0, [.int 0, .ref q1, .ref q2, .ref q3, .null])), (q1, .inl (vI V, 40, .inl (fun _ => 0))), (q2, .inl (vI V, 40, .inl (fun _ => 0))), (q3, .inl (vI V, 40, .inl (fun _ => 0))), (q4, .inl (vI V, 40, .inl (fun _ => 0)))] := hD
  refine va_putF (D := vD V) (ci := 0) (v := .ref q4) (ty := .array .int) (C := RX0) (T := TX0) (N := 5) hx hb hts gd_X0 tyX0 tyX0_ok nmX0 hown hK hP hD hS 0 rfl rfl 4 (by decide) (hts _ wd_153) (fun _ h9 => h9) rfl hin rfl (by decide +kernel) rfl rfl (Nat.le_of_ble_eq_true rfl) dX0_init_33 (fun H locs hP hD hS => ?_)
  have hP : va_P (vD V) vwCl [(h0, .inr (0, [.int 0, .ref q1, .ref q2, .ref q3, .ref q4])), (q1, .inl (vI V, 40, .inl (fun _ => 0))), (q2, .inl (vI V, 40, .inl (fun _ => 0))), (q3, .inl (vI V, 40, .inl (fun _ => 0))), (q4, .inl (vI V, 40, .inl (fun _ => 0)))] H := hP
  have hD : va_D A [(h0, .inr (0, [.int 0, .ref q1, .ref q2, .ref q3, .ref q4])), (q1, .inl (vI V, 40, .inl (fun _ => 0))), (q2, .inl (vI V, 40, .inl (fun _ => 0))), (q3, .inl (vI V, 40, .inl (fun _ => 0))), (q4, .inl (vI V, 40, .inl (fun _ => 0)))] := hD
  refine W.widen (k := 4) (n := 160) (Nat.le_of_ble_eq_true rfl) (Nat.le_of_ble_eq_true rfl) ?_
  have hP9 := hP.sub (ws' := contW V (fun o => match o with | 2 => h0 | 12 => q1 | 13 => q2 | 14 => q3 | 15 => q4 | _ => 0)) [0, 1, 2, 3, 4] rfl
  have hD9 := hD.sub (ws' := contW V (fun o => match o with | 2 => h0 | 12 => q1 | 13 => q2 | 14 => q3 | 15 => q4 | _ => 0)) [0, 1, 2, 3, 4] (by decide) rfl
  exact W.vret hx hb hr (fun t ht hW => ⟨⟨(fun o => match o with | 2 => h0 | 12 => q1 | 13 => q2 | 14 => q3 | 15 => q4 | _ => 0), rfl, rfl, by rw [ht]; exact hP9, va_K.moved hW.alike hK, hD9⟩, hS.F ht⟩) hS.2.2 dX0_init_36
theorem dX3_init_0 : decode cX3_init 0 = .ok (.aload_n 0, 1) := by decide +kernel
theorem dX3_init_1 : decode cX3_init 1 = .ok (.invokespecial 3, 3) := by decide +kernel
theorem dX3_init_4 : decode cX3_init 4 = .ok (.aload_n 0, 1) := by decide +kernel
theorem dX3_init_5 : decode cX3_init 5 = .ok (.bipush 80, 2) := by decide +kernel
theorem dX3_init_7 : decode cX3_init 7 = .ok (.newarray .char, 2) := by decide +kernel
theorem dX3_init_9 : decode cX3_init 9 = .ok (.putfield 9, 3) := by decide +kernel
theorem dX3_init_12 : decode cX3_init 12 = .ok (.aload_n 0, 1) := by decide +kernel
theorem dX3_init_13 : decode cX3_init 13 = .ok (.iconst 5, 1) := by decide +kernel
theorem dX3_init_14 : decode cX3_init 14 = .ok (.newarray .int, 2) := by decide +kernel
theorem dX3_init_16 : decode cX3_init 16 = .ok (.putfield 15, 3) := by decide +kernel
theorem dX3_init_19 : decode cX3_init 19 = .ok (.return_, 1) := by decide +kernel
set_option maxHeartbeats 4000000 in
set_option maxRecDepth 100000 in
theorem cX3_init_new (l : Launch) (V : VT) (h0 sz : Nat) : Met l yX3_init (Cond.code yX3_init cX3_init 1 none :: lw_gd) ({ frames := 1, cells := 2, slots := 85, locals := 12 } : Room) (va_Pc [.ref h0] (fun U => U.heap.size = sz ∧ va_P (vD V) vwCl [(h0, .inr (3, [.null, .int 0, .int 0, .int 0, .null, .int 0]))] U.heap ∧ va_K (vD V) vwCl (vT V) U ∧ va_D (fun _ => True) [(h0, .inr (3, [.null, .int 0, .int 0, .int 0, .null, .int 0]))])) (va_Qv (fun a : Nat → Nat => a 5 = h0) (fun a t => va_P (vD V) vwCl (padW V a) t.heap ∧ va_K (vD V) vwCl (vT V) t ∧ va_D (va_A [(h0, .inr (3, [.null, .int 0, .int 0, .int 0, .null, .int 0]))] sz) (padW V a)) (va_A [(h0, .inr (3, [.null, .int 0, .int 0, .int 0, .null, .int 0]))] sz)) 2 85 (va_A [(h0, .inr (3, [.null, .int 0, .int 0, .int 0, .null, .int 0]))] sz) := by
  refine Met.ofW (cc := cX3_init) (maxL := 1) (ret := none) (by decide) rfl ?_
  intro p e s m args below meth c s₁ B hml hv
  obtain ⟨rfl, hsz, hP, hK, hD0⟩ := hv
  have hx := B.exec
  have hb := B.bytes
  have hr := B.returns
  have hts0 := atoms_spec (ws := Cond.code yX3_init cX3_init 1 none :: lw_gd) B.pre
  have hts : ∀ w ∈ lw_gd, w.before #[Value.ref h0] s = true := fun w hw => hts0 w (List.mem_cons_of_mem _ hw)
  have hown : s.vm.findClass RX3 = some m.cls := findClass_of_methodNamed B.named
  have hlocks := B.notSynchronized
  have hin : meth.name = "<init>" := (name_of_methodNamed B.named B.method).1
  subst hsz
  have hD := hD0.self (sz := s.heap.size)
  generalize hAe : va_A [(h0, .inr (3, [.null, .int 0, .int 0, .int 0, .null, .int 0]))] s.heap.size = A at hD ⊢
  have hA : ∀ q : Nat, s.heap.size ≤ q → A q := fun q h => by rw [← hAe]; exact Or.inr h
  have hS : va_S A s.heap s.heap [] := va_S.rf
  have hl := lv_entry ([.ref h0]) (n := 1) (Nat.le_of_ble_eq_true rfl)
  rw [lg_entry_eq]
  generalize (lg_sl ([.ref h0]) ++ List.replicate (1 - (lg_sl ([.ref h0])).length) Slot.unset).toArray = ls at hl ⊢
  have hl : lv_has ls 1 [(0, .ref h0)] := hl
  refine lv_aload_n hx hb dX3_init_0 rfl (lv_at hl 0 rfl) ?_
  refine W.objInit hx hb hown (hts _ wd_223) (hts _ wd_82) (hts _ wd_83) rfl (by rw [hml]; exact hl.1) rfl dX3_init_1 (Nat.le_of_ble_eq_true rfl) (Nat.le_of_ble_eq_true rfl) ?_
  refine W.eq (g2 := F0 m 4 ls []) rfl ?_
  refine lv_aload_n hx hb dX3_init_4 rfl (lv_at hl 0 rfl) ?_
  refine lv_bipush (v := (80 : Int32)) hx hb dX3_init_5 (by decide) ?_
  refine x_newC (N := 80) hx hb hts hK hP hD hS hA (by decide) rfl (Nat.le_of_ble_eq_true rfl) (Nat.le_of_ble_eq_true rfl) (Nat.le_of_ble_eq_true rfl) dX3_init_7 (fun q1 H hP hD hS => ?_)
  have hP : va_P (vD V) vwCl [(h0, .inr (3, [.null, .int 0, .int 0, .int 0, .null, .int 0])), (q1, .inl (vC V, 80, .inl (fun _ => 0)))] H := hP
  have hD : va_D A [(h0, .inr (3, [.null, .int 0, .int 0, .int 0, .null, .int 0])), (q1, .inl (vC V, 80, .inl (fun _ => 0)))] := hD
  refine va_putF (D := vD V) (ci := 3) (v := .ref q1) (ty := .array .char) (C := RX3) (T := TX3) (N := 6) hx hb hts gd_X3 tyX3 tyX3_ok nmX3 hown hK hP hD hS 0 rfl rfl 0 (by decide) (hts _ wd_224) (fun _ h9 => h9) rfl hin rfl (by decide +kernel) rfl rfl (Nat.le_of_ble_eq_true rfl) dX3_init_9 (fun H locs hP hD hS => ?_)
  have hP : va_P (vD V) vwCl [(h0, .inr (3, [.ref q1, .int 0, .int 0, .int 0, .null, .int 0])), (q1, .inl (vC V, 80, .inl (fun _ => 0)))] H := hP
  have hD : va_D A [(h0, .inr (3, [.ref q1, .int 0, .int 0, .int 0, .null, .int 0])), (q1, .inl (vC V, 80, .inl (fun _ => 0)))] := hD
  refine lv_aload_n hx hb dX3_init_12 rfl (lv_at hl 0 rfl) ?_
  refine lv_iconst (v := (5 : Int32)) hx hb dX3_init_13 (by decide) ?_
  refine x_newI (N := 5) hx hb hts hK hP hD hS hA (by decide) rfl (Nat.le_of_ble_eq_true rfl) (Nat.le_of_ble_eq_true rfl) (Nat.le_of_ble_eq_true rfl) dX3_init_14 (fun q2 H hP hD hS => ?_)
  have hP : va_P (vD V) vwCl [(h0, .inr (3, [.ref q1, .int 0, .int 0, .int 0, .null, .int 0])), (q1, .inl (vC V, 80, .inl (fun _ => 0))), (q2, .inl (vI V, 5, .inl (fun _ => 0)))] H := hP
  have hD : va_D A [(h0, .inr (3, [.ref q1, .int 0, .int 0, .int 0, .null, .int 0])), (q1, .inl (vC V, 80, .inl (fun _ => 0))), (q2, .inl (vI V, 5, .inl (fun _ => 0)))] := hD
  refine va_putF (D := vD V) (ci := 3) (v := .ref q2) (ty := .array .int) (C := RX3) (T := TX3) (N := 6) hx hb hts gd_X3 tyX3 tyX3_ok nmX3 hown hK hP hD hS 0 rfl rfl 4 (by decide) (hts _ wd_230) (fun _ h9 => h9) rfl hin rfl (by decide +kernel) rfl rfl (Nat.le_of_ble_eq_true rfl) dX3_init_16 (fun H locs hP hD hS => ?_)
  have hP : va_P (vD V) vwCl [(h0, .inr (3, [.ref q1, .int 0, .int 0, .int 0, .ref q2, .int 0])), (q1, .inl (vC V, 80, .inl (fun _ => 0))), (q2, .inl (vI V, 5, .inl (fun _ => 0)))] H := hP
  have hD : va_D A [(h0, .inr (3, [.ref q1, .int 0, .int 0, .int 0, .ref q2, .int 0])), (q1, .inl (vC V, 80, .inl (fun _ => 0))), (q2, .inl (vI V, 5, .inl (fun _ => 0)))] := hD
  refine W.widen (k := 2) (n := 85) (Nat.le_of_ble_eq_true rfl) (Nat.le_of_ble_eq_true rfl) ?_
  have hP9 := hP.sub (ws' := padW V (fun o => match o with | 5 => h0 | 6 => q1 | 7 => q2 | _ => 0)) [0, 1, 2] rfl
  have hD9 := hD.sub (ws' := padW V (fun o => match o with | 5 => h0 | 6 => q1 | 7 => q2 | _ => 0)) [0, 1, 2] (by decide) rfl
  exact W.vret hx hb hr (fun t ht hW => ⟨⟨(fun o => match o with | 5 => h0 | 6 => q1 | 7 => q2 | _ => 0), rfl, rfl, by rw [ht]; exact hP9, va_K.moved hW.alike hK, hD9⟩, hS.F ht⟩) hS.2.2 dX3_init_19
theorem dX6_init_0 : decode cX6_init 0 = .ok (.aload_n 0, 1) := by decide +kernel
theorem dX6_init_1 : decode cX6_init 1 = .ok (.invokespecial 1, 3) := by decide +kernel
theorem dX6_init_4 : decode cX6_init 4 = .ok (.aload_n 0, 1) := by decide +kernel
theorem dX6_init_5 : decode cX6_init 5 = .ok (.sipush 356, 3) := by decide +kernel
theorem dX6_init_8 : decode cX6_init 8 = .ok (.newarray .int, 2) := by decide +kernel
theorem dX6_init_10 : decode cX6_init 10 = .ok (.putfield 7, 3) := by decide +kernel
theorem dX6_init_13 : decode cX6_init 13 = .ok (.aload_n 0, 1) := by decide +kernel
theorem dX6_init_14 : decode cX6_init 14 = .ok (.sipush 2136, 3) := by decide +kernel
theorem dX6_init_17 : decode cX6_init 17 = .ok (.newarray .int, 2) := by decide +kernel
theorem dX6_init_19 : decode cX6_init 19 = .ok (.putfield 13, 3) := by decide +kernel
theorem dX6_init_22 : decode cX6_init 22 = .ok (.aload_n 0, 1) := by decide +kernel
theorem dX6_init_23 : decode cX6_init 23 = .ok (.sipush 712, 3) := by decide +kernel
theorem dX6_init_26 : decode cX6_init 26 = .ok (.newarray .int, 2) := by decide +kernel
theorem dX6_init_28 : decode cX6_init 28 = .ok (.putfield 16, 3) := by decide +kernel
theorem dX6_init_31 : decode cX6_init 31 = .ok (.aload_n 0, 1) := by decide +kernel
theorem dX6_init_32 : decode cX6_init 32 = .ok (.iconst 2, 1) := by decide +kernel
theorem dX6_init_33 : decode cX6_init 33 = .ok (.newarray .boolean, 2) := by decide +kernel
theorem dX6_init_35 : decode cX6_init 35 = .ok (.putfield 19, 3) := by decide +kernel
theorem dX6_init_38 : decode cX6_init 38 = .ok (.aload_n 0, 1) := by decide +kernel
theorem dX6_init_39 : decode cX6_init 39 = .ok (.sipush 356, 3) := by decide +kernel
theorem dX6_init_42 : decode cX6_init 42 = .ok (.newarray .int, 2) := by decide +kernel
theorem dX6_init_44 : decode cX6_init 44 = .ok (.putfield 23, 3) := by decide +kernel
theorem dX6_init_47 : decode cX6_init 47 = .ok (.aload_n 0, 1) := by decide +kernel
theorem dX6_init_48 : decode cX6_init 48 = .ok (.bipush 80, 2) := by decide +kernel
theorem dX6_init_50 : decode cX6_init 50 = .ok (.newarray .char, 2) := by decide +kernel
theorem dX6_init_52 : decode cX6_init 52 = .ok (.putfield 26, 3) := by decide +kernel
theorem dX6_init_55 : decode cX6_init 55 = .ok (.aload_n 0, 1) := by decide +kernel
theorem dX6_init_56 : decode cX6_init 56 = .ok (.bipush 24, 2) := by decide +kernel
theorem dX6_init_58 : decode cX6_init 58 = .ok (.newarray .int, 2) := by decide +kernel
theorem dX6_init_60 : decode cX6_init 60 = .ok (.putfield 30, 3) := by decide +kernel
theorem dX6_init_63 : decode cX6_init 63 = .ok (.aload_n 0, 1) := by decide +kernel
theorem dX6_init_64 : decode cX6_init 64 = .ok (.bipush 24, 2) := by decide +kernel
theorem dX6_init_66 : decode cX6_init 66 = .ok (.newarray .int, 2) := by decide +kernel
theorem dX6_init_68 : decode cX6_init 68 = .ok (.putfield 33, 3) := by decide +kernel
theorem dX6_init_71 : decode cX6_init 71 = .ok (.aload_n 0, 1) := by decide +kernel
theorem dX6_init_72 : decode cX6_init 72 = .ok (.bipush (-6), 2) := by decide +kernel
theorem dX6_init_74 : decode cX6_init 74 = .ok (.putfield 36, 3) := by decide +kernel
theorem dX6_init_77 : decode cX6_init 77 = .ok (.aload_n 0, 1) := by decide +kernel
theorem dX6_init_78 : decode cX6_init 78 = .ok (.bipush 24, 2) := by decide +kernel
theorem dX6_init_80 : decode cX6_init 80 = .ok (.newarray .int, 2) := by decide +kernel
theorem dX6_init_82 : decode cX6_init 82 = .ok (.putfield 40, 3) := by decide +kernel
theorem dX6_init_85 : decode cX6_init 85 = .ok (.aload_n 0, 1) := by decide +kernel
theorem dX6_init_86 : decode cX6_init 86 = .ok (.bipush 24, 2) := by decide +kernel
theorem dX6_init_88 : decode cX6_init 88 = .ok (.newarray .int, 2) := by decide +kernel
theorem dX6_init_90 : decode cX6_init 90 = .ok (.putfield 43, 3) := by decide +kernel
theorem dX6_init_93 : decode cX6_init 93 = .ok (.aload_n 0, 1) := by decide +kernel
theorem dX6_init_94 : decode cX6_init 94 = .ok (.sipush 252, 3) := by decide +kernel
theorem dX6_init_97 : decode cX6_init 97 = .ok (.newarray .int, 2) := by decide +kernel
theorem dX6_init_99 : decode cX6_init 99 = .ok (.putfield 46, 3) := by decide +kernel
theorem dX6_init_102 : decode cX6_init 102 = .ok (.aload_n 0, 1) := by decide +kernel
theorem dX6_init_103 : decode cX6_init 103 = .ok (.getfield 7, 3) := by decide +kernel
theorem dX6_init_106 : decode cX6_init 106 = .ok (.iconst 1, 1) := by decide +kernel
theorem dX6_init_107 : decode cX6_init 107 = .ok (.bipush 50, 2) := by decide +kernel
theorem dX6_init_109 : decode cX6_init 109 = .ok (.iastore, 1) := by decide +kernel
theorem dX6_init_110 : decode cX6_init 110 = .ok (.aload_n 0, 1) := by decide +kernel
theorem dX6_init_111 : decode cX6_init 111 = .ok (.getfield 7, 3) := by decide +kernel
theorem dX6_init_114 : decode cX6_init 114 = .ok (.iconst 2, 1) := by decide +kernel
theorem dX6_init_115 : decode cX6_init 115 = .ok (.iconst 2, 1) := by decide +kernel
theorem dX6_init_116 : decode cX6_init 116 = .ok (.iastore, 1) := by decide +kernel
theorem dX6_init_117 : decode cX6_init 117 = .ok (.return_, 1) := by decide +kernel
set_option maxHeartbeats 4000000 in
set_option maxRecDepth 100000 in
theorem cX6_init_new (l : Launch) (V : VT) (h0 sz : Nat) : Met l yX6_init (Cond.code yX6_init cX6_init 1 none :: lw_gd) ({ frames := 1, cells := 11, slots := 3990, locals := 12 } : Room) (va_Pc [.ref h0] (fun U => U.heap.size = sz ∧ va_P (vD V) vwCl [(h0, .inr (6, [.null, .null, .null, .null, .null, .int 0, .int 0, .null, .int 0, .null, .null, .int 0, .int 0, .null, .null, .null, .int 0, .int 0, .int 0]))] U.heap ∧ va_K (vD V) vwCl (vT V) U ∧ va_D (fun _ => True) [(h0, .inr (6, [.null, .null, .null, .null, .null, .int 0, .int 0, .null, .int 0, .null, .null, .int 0, .int 0, .null, .null, .null, .int 0, .int 0, .int 0]))])) (va_Qv (fun a : Nat → Nat => a 0 = h0) (fun a t => va_P (vD V) vwCl (modW V a) t.heap ∧ va_K (vD V) vwCl (vT V) t ∧ va_D (va_A [(h0, .inr (6, [.null, .null, .null, .null, .null, .int 0, .int 0, .null, .int 0, .null, .null, .int 0, .int 0, .null, .null, .null, .int 0, .int 0, .int 0]))] sz) (modW V a)) (va_A [(h0, .inr (6, [.null, .null, .null, .null, .null, .int 0, .int 0, .null, .int 0, .null, .null, .int 0, .int 0, .null, .null, .null, .int 0, .int 0, .int 0]))] sz)) 11 3990 (va_A [(h0, .inr (6, [.null, .null, .null, .null, .null, .int 0, .int 0, .null, .int 0, .null, .null, .int 0, .int 0, .null, .null, .null, .int 0, .int 0, .int 0]))] sz) := by
  refine Met.ofW (cc := cX6_init) (maxL := 1) (ret := none) (by decide) rfl ?_
  intro p e s m args below meth c s₁ B hml hv
  obtain ⟨rfl, hsz, hP, hK, hD0⟩ := hv
  have hx := B.exec
  have hb := B.bytes
  have hr := B.returns
  have hts0 := atoms_spec (ws := Cond.code yX6_init cX6_init 1 none :: lw_gd) B.pre
  have hts : ∀ w ∈ lw_gd, w.before #[Value.ref h0] s = true := fun w hw => hts0 w (List.mem_cons_of_mem _ hw)
  have hown : s.vm.findClass RX6 = some m.cls := findClass_of_methodNamed B.named
  have hlocks := B.notSynchronized
  have hin : meth.name = "<init>" := (name_of_methodNamed B.named B.method).1
  subst hsz
  have hD := hD0.self (sz := s.heap.size)
  generalize hAe : va_A [(h0, .inr (6, [.null, .null, .null, .null, .null, .int 0, .int 0, .null, .int 0, .null, .null, .int 0, .int 0, .null, .null, .null, .int 0, .int 0, .int 0]))] s.heap.size = A at hD ⊢
  have hA : ∀ q : Nat, s.heap.size ≤ q → A q := fun q h => by rw [← hAe]; exact Or.inr h
  have hS : va_S A s.heap s.heap [] := va_S.rf
  have hl := lv_entry ([.ref h0]) (n := 1) (Nat.le_of_ble_eq_true rfl)
  rw [lg_entry_eq]
  generalize (lg_sl ([.ref h0]) ++ List.replicate (1 - (lg_sl ([.ref h0])).length) Slot.unset).toArray = ls at hl ⊢
  have hl : lv_has ls 1 [(0, .ref h0)] := hl
  refine lv_aload_n hx hb dX6_init_0 rfl (lv_at hl 0 rfl) ?_
  refine W.objInit hx hb hown (hts _ wd_713) (hts _ wd_82) (hts _ wd_83) rfl (by rw [hml]; exact hl.1) rfl dX6_init_1 (Nat.le_of_ble_eq_true rfl) (Nat.le_of_ble_eq_true rfl) ?_
  refine W.eq (g2 := F0 m 4 ls []) rfl ?_
  refine lv_aload_n hx hb dX6_init_4 rfl (lv_at hl 0 rfl) ?_
  refine lv_sipush (v := (356 : Int32)) hx hb dX6_init_5 (by decide) ?_
  refine x_newI (N := 356) hx hb hts hK hP hD hS hA (by decide) rfl (Nat.le_of_ble_eq_true rfl) (Nat.le_of_ble_eq_true rfl) (Nat.le_of_ble_eq_true rfl) dX6_init_8 (fun q1 H hP hD hS => ?_)
  have hP : va_P (vD V) vwCl [(h0, .inr (6, [.null, .null, .null, .null, .null, .int 0, .int 0, .null, .int 0, .null, .null, .int 0, .int 0, .null, .null, .null, .int 0, .int 0, .int 0])), (q1, .inl (vI V, 356, .inl (fun _ => 0)))] H := hP
  have hD : va_D A [(h0, .inr (6, [.null, .null, .null, .null, .null, .int 0, .int 0, .null, .int 0, .null, .null, .int 0, .int 0, .null, .null, .null, .int 0, .int 0, .int 0])), (q1, .inl (vI V, 356, .inl (fun _ => 0)))] := hD
  refine va_putF (D := vD V) (ci := 6) (v := .ref q1) (ty := .array .int) (C := RX6) (T := TX6) (N := 19) hx hb hts gd_X6 tyX6 tyX6_ok nmX6 hown hK hP hD hS 0 rfl rfl 0 (by decide) (hts _ wd_714) (fun _ h9 => h9) rfl hin rfl (by decide +kernel) rfl rfl (Nat.le_of_ble_eq_true rfl) dX6_init_10 (fun H locs hP hD hS => ?_)
  have hP : va_P (vD V) vwCl [(h0, .inr (6, [.ref q1, .null, .null, .null, .null, .int 0, .int 0, .null, .int 0, .null, .null, .int 0, .int 0, .null, .null, .null, .int 0, .int 0, .int 0])), (q1, .inl (vI V, 356, .inl (fun _ => 0)))] H := hP
  have hD : va_D A [(h0, .inr (6, [.ref q1, .null, .null, .null, .null, .int 0, .int 0, .null, .int 0, .null, .null, .int 0, .int 0, .null, .null, .null, .int 0, .int 0, .int 0])), (q1, .inl (vI V, 356, .inl (fun _ => 0)))] := hD
  refine lv_aload_n hx hb dX6_init_13 rfl (lv_at hl 0 rfl) ?_
  refine lv_sipush (v := (2136 : Int32)) hx hb dX6_init_14 (by decide) ?_
  refine x_newI (N := 2136) hx hb hts hK hP hD hS hA (by decide) rfl (Nat.le_of_ble_eq_true rfl) (Nat.le_of_ble_eq_true rfl) (Nat.le_of_ble_eq_true rfl) dX6_init_17 (fun q2 H hP hD hS => ?_)
  have hP : va_P (vD V) vwCl [(h0, .inr (6, [.ref q1, .null, .null, .null, .null, .int 0, .int 0, .null, .int 0, .null, .null, .int 0, .int 0, .null, .null, .null, .int 0, .int 0, .int 0])), (q1, .inl (vI V, 356, .inl (fun _ => 0))), (q2, .inl (vI V, 2136, .inl (fun _ => 0)))] H := hP
  have hD : va_D A [(h0, .inr (6, [.ref q1, .null, .null, .null, .null, .int 0, .int 0, .null, .int 0, .null, .null, .int 0, .int 0, .null, .null, .null, .int 0, .int 0, .int 0])), (q1, .inl (vI V, 356, .inl (fun _ => 0))), (q2, .inl (vI V, 2136, .inl (fun _ => 0)))] := hD
  refine va_putF (D := vD V) (ci := 6) (v := .ref q2) (ty := .array .int) (C := RX6) (T := TX6) (N := 19) hx hb hts gd_X6 tyX6 tyX6_ok nmX6 hown hK hP hD hS 0 rfl rfl 1 (by decide) (hts _ wd_715) (fun _ h9 => h9) rfl hin rfl (by decide +kernel) rfl rfl (Nat.le_of_ble_eq_true rfl) dX6_init_19 (fun H locs hP hD hS => ?_)
  have hP : va_P (vD V) vwCl [(h0, .inr (6, [.ref q1, .ref q2, .null, .null, .null, .int 0, .int 0, .null, .int 0, .null, .null, .int 0, .int 0, .null, .null, .null, .int 0, .int 0, .int 0])), (q1, .inl (vI V, 356, .inl (fun _ => 0))), (q2, .inl (vI V, 2136, .inl (fun _ => 0)))] H := hP
  have hD : va_D A [(h0, .inr (6, [.ref q1, .ref q2, .null, .null, .null, .int 0, .int 0, .null, .int 0, .null, .null, .int 0, .int 0, .null, .null, .null, .int 0, .int 0, .int 0])), (q1, .inl (vI V, 356, .inl (fun _ => 0))), (q2, .inl (vI V, 2136, .inl (fun _ => 0)))] := hD
  refine lv_aload_n hx hb dX6_init_22 rfl (lv_at hl 0 rfl) ?_
  refine lv_sipush (v := (712 : Int32)) hx hb dX6_init_23 (by decide) ?_
  refine x_newI (N := 712) hx hb hts hK hP hD hS hA (by decide) rfl (Nat.le_of_ble_eq_true rfl) (Nat.le_of_ble_eq_true rfl) (Nat.le_of_ble_eq_true rfl) dX6_init_26 (fun q3 H hP hD hS => ?_)
  have hP : va_P (vD V) vwCl [(h0, .inr (6, [.ref q1, .ref q2, .null, .null, .null, .int 0, .int 0, .null, .int 0, .null, .null, .int 0, .int 0, .null, .null, .null, .int 0, .int 0, .int 0])), (q1, .inl (vI V, 356, .inl (fun _ => 0))), (q2, .inl (vI V, 2136, .inl (fun _ => 0))), (q3, .inl (vI V, 712, .inl (fun _ => 0)))] H := hP
  have hD : va_D A [(h0, .inr (6, [.ref q1, .ref q2, .null, .null, .null, .int 0, .int 0, .null, .int 0, .null, .null, .int 0, .int 0, .null, .null, .null, .int 0, .int 0, .int 0])), (q1, .inl (vI V, 356, .inl (fun _ => 0))), (q2, .inl (vI V, 2136, .inl (fun _ => 0))), (q3, .inl (vI V, 712, .inl (fun _ => 0)))] := hD
  refine va_putF (D := vD V) (ci := 6) (v := .ref q3) (ty := .array .int) (C := RX6) (T := TX6) (N := 19) hx hb hts gd_X6 tyX6 tyX6_ok nmX6 hown hK hP hD hS 0 rfl rfl 2 (by decide) (hts _ wd_716) (fun _ h9 => h9) rfl hin rfl (by decide +kernel) rfl rfl (Nat.le_of_ble_eq_true rfl) dX6_init_28 (fun H locs hP hD hS => ?_)
  have hP : va_P (vD V) vwCl [(h0, .inr (6, [.ref q1, .ref q2, .ref q3, .null, .null, .int 0, .int 0, .null, .int 0, .null, .null, .int 0, .int 0, .null, .null, .null, .int 0, .int 0, .int 0])), (q1, .inl (vI V, 356, .inl (fun _ => 0))), (q2, .inl (vI V, 2136, .inl (fun _ => 0))), (q3, .inl (vI V, 712, .inl (fun _ => 0)))] H := hP
  have hD : va_D A [(h0, .inr (6, [.ref q1, .ref q2, .ref q3, .null, .null, .int 0, .int 0, .null, .int 0, .null, .null, .int 0, .int 0, .null, .null, .null, .int 0, .int 0, .int 0])), (q1, .inl (vI V, 356, .inl (fun _ => 0))), (q2, .inl (vI V, 2136, .inl (fun _ => 0))), (q3, .inl (vI V, 712, .inl (fun _ => 0)))] := hD
  refine lv_aload_n hx hb dX6_init_31 rfl (lv_at hl 0 rfl) ?_
  refine lv_iconst (v := (2 : Int32)) hx hb dX6_init_32 (by decide) ?_
  refine x_newZ (N := 2) hx hb hts hK hP hD hS hA (by decide) rfl (Nat.le_of_ble_eq_true rfl) (Nat.le_of_ble_eq_true rfl) (Nat.le_of_ble_eq_true rfl) dX6_init_33 (fun q4 H hP hD hS => ?_)
  have hP : va_P (vD V) vwCl [(h0, .inr (6, [.ref q1, .ref q2, .ref q3, .null, .null, .int 0, .int 0, .null, .int 0, .null, .null, .int 0, .int 0, .null, .null, .null, .int 0, .int 0, .int 0])), (q1, .inl (vI V, 356, .inl (fun _ => 0))), (q2, .inl (vI V, 2136, .inl (fun _ => 0))), (q3, .inl (vI V, 712, .inl (fun _ => 0))), (q4, .inl (vZ V, 2, .inl (fun _ => 0)))] H := hP
  have hD : va_D A [(h0, .inr (6, [.ref q1, .ref q2, .ref q3, .null, .null, .int 0, .int 0, .null, .int 0, .null, .null, .int 0, .int 0, .null, .null, .null, .int 0, .int 0, .int 0])), (q1, .inl (vI V, 356, .inl (fun _ => 0))), (q2, .inl (vI V, 2136, .inl (fun _ => 0))), (q3, .inl (vI V, 712, .inl (fun _ => 0))), (q4, .inl (vZ V, 2, .inl (fun _ => 0)))] := hD
  refine va_putF (D := vD V) (ci := 6) (v := .ref q4) (ty := .array .boolean) (C := RX6) (T := TX6) (N := 19) hx hb hts gd_X6 tyX6 tyX6_ok nmX6 hown hK hP hD hS 0 rfl rfl 3 (by decide) (hts _ wd_717) (fun _ h9 => h9) rfl hin rfl (by decide +kernel) rfl rfl (Nat.le_of_ble_eq_true rfl) dX6_init_35 (fun H locs hP hD hS => ?_)
  have hP : va_P (vD V) vwCl [(h0, .inr (6, [.ref q1, .ref q2, .ref q3, .ref q4, .null, .int 0, .int 0, .null, .int 0, .null, .null, .int 0, .int 0, .null, .null, .null, .int 0, .int 0, .int 0])), (q1, .inl (vI V, 356, .inl (fun _ => 0))), (q2, .inl (vI V, 2136, .inl (fun _ => 0))), (q3, .inl (vI V, 712, .inl (fun _ => 0))), (q4, .inl (vZ V, 2, .inl (fun _ => 0)))] H := hP
  have hD : va_D A [(h0, .inr (6, [.ref q1, .ref q2, .ref q3, .ref q4, .null, .int 0, .int 0, .null, .int 0, .null, .null, .int 0, .int 0, .null, .null, .null, .int 0, .int 0, .int 0])), (q1, .inl (vI V, 356, .inl (fun _ => 0))), (q2, .inl (vI V, 2136, .inl (fun _ => 0))), (q3, .inl (vI V, 712, .inl (fun _ => 0))), (q4, .inl (vZ V, 2, .inl (fun _ => 0)))] := hD
  refine lv_aload_n hx hb dX6_init_38 rfl (lv_at hl 0 rfl) ?_
  refine lv_sipush (v := (356 : Int32)) hx hb dX6_init_39 (by decide) ?_
  refine x_newI (N := 356) hx hb hts hK hP hD hS hA (by decide) rfl (Nat.le_of_ble_eq_true rfl) (Nat.le_of_ble_eq_true rfl) (Nat.le_of_ble_eq_true rfl) dX6_init_42 (fun q5 H hP hD hS => ?_)
  have hP : va_P (vD V) vwCl [(h0, .inr (6, [.ref q1, .ref q2, .ref q3, .ref q4, .null, .int 0, .int 0, .null, .int 0, .null, .null, .int 0, .int 0, .null, .null, .null, .int 0, .int 0, .int 0])), (q1, .inl (vI V, 356, .inl (fun _ => 0))), (q2, .inl (vI V, 2136, .inl (fun _ => 0))), (q3, .inl (vI V, 712, .inl (fun _ => 0))), (q4, .inl (vZ V, 2, .inl (fun _ => 0))), (q5, .inl (vI V, 356, .inl (fun _ => 0)))] H := hP
  have hD : va_D A [(h0, .inr (6, [.ref q1, .ref q2, .ref q3, .ref q4, .null, .int 0, .int 0, .null, .int 0, .null, .null, .int 0, .int 0, .null, .null, .null, .int 0, .int 0, .int 0])), (q1, .inl (vI V, 356, .inl (fun _ => 0))), (q2, .inl (vI V, 2136, .inl (fun _ => 0))), (q3, .inl (vI V, 712, .inl (fun _ => 0))), (q4, .inl (vZ V, 2, .inl (fun _ => 0))), (q5, .inl (vI V, 356, .inl (fun _ => 0)))] := hD
  refine va_putF (D := vD V) (ci := 6) (v := .ref q5) (ty := .array .int) (C := RX6) (T := TX6) (N := 19) hx hb hts gd_X6 tyX6 tyX6_ok nmX6 hown hK hP hD hS 0 rfl rfl 4 (by decide) (hts _ wd_718) (fun _ h9 => h9) rfl hin rfl (by decide +kernel) rfl rfl (Nat.le_of_ble_eq_true rfl) dX6_init_44 (fun H locs hP hD hS => ?_)
  have hP : va_P (vD V) vwCl [(h0, .inr (6, [.ref q1, .ref q2, .ref q3, .ref q4, .ref q5, .int 0, .int 0, .null, .int 0, .null, .null, .int 0, .int 0, .null, .null, .null, .int 0, .int 0, .int 0])), (q1, .inl (vI V, 356, .inl (fun _ => 0))), (q2, .inl (vI V, 2136, .inl (fun _ => 0))), (q3, .inl (vI V, 712, .inl (fun _ => 0))), (q4, .inl (vZ V, 2, .inl (fun _ => 0))), (q5, .inl (vI V, 356, .inl (fun _ => 0)))] H := hP
  have hD : va_D A [(h0, .inr (6, [.ref q1, .ref q2, .ref q3, .ref q4, .ref q5, .int 0, .int 0, .null, .int 0, .null, .null, .int 0, .int 0, .null, .null, .null, .int 0, .int 0, .int 0])), (q1, .inl (vI V, 356, .inl (fun _ => 0))), (q2, .inl (vI V, 2136, .inl (fun _ => 0))), (q3, .inl (vI V, 712, .inl (fun _ => 0))), (q4, .inl (vZ V, 2, .inl (fun _ => 0))), (q5, .inl (vI V, 356, .inl (fun _ => 0)))] := hD
  refine lv_aload_n hx hb dX6_init_47 rfl (lv_at hl 0 rfl) ?_
  refine lv_bipush (v := (80 : Int32)) hx hb dX6_init_48 (by decide) ?_
  refine x_newC (N := 80) hx hb hts hK hP hD hS hA (by decide) rfl (Nat.le_of_ble_eq_true rfl) (Nat.le_of_ble_eq_true rfl) (Nat.le_of_ble_eq_true rfl) dX6_init_50 (fun q6 H hP hD hS => ?_)
  have hP : va_P (vD V) vwCl [(h0, .inr (6, [.ref q1, .ref q2, .ref q3, .ref q4, .ref q5, .int 0, .int 0, .null, .int 0, .null, .null, .int 0, .int 0, .null, .null, .null, .int 0, .int 0, .int 0])), (q1, .inl (vI V, 356, .inl (fun _ => 0))), (q2, .inl (vI V, 2136, .inl (fun _ => 0))), (q3, .inl (vI V, 712, .inl (fun _ => 0))), (q4, .inl (vZ V, 2, .inl (fun _ => 0))), (q5, .inl (vI V, 356, .inl (fun _ => 0))), (q6, .inl (vC V, 80, .inl (fun _ => 0)))] H := hP
  have hD : va_D A [(h0, .inr (6, [.ref q1, .ref q2, .ref q3, .ref q4, .ref q5, .int 0, .int 0, .null, .int 0, .null, .null, .int 0, .int 0, .null, .null, .null, .int 0, .int 0, .int 0])), (q1, .inl (vI V, 356, .inl (fun _ => 0))), (q2, .inl (vI V, 2136, .inl (fun _ => 0))), (q3, .inl (vI V, 712, .inl (fun _ => 0))), (q4, .inl (vZ V, 2, .inl (fun _ => 0))), (q5, .inl (vI V, 356, .inl (fun _ => 0))), (q6, .inl (vC V, 80, .inl (fun _ => 0)))] := hD
  refine va_putF (D := vD V) (ci := 6) (v := .ref q6) (ty := .array .char) (C := RX6) (T := TX6) (N := 19) hx hb hts gd_X6 tyX6 tyX6_ok nmX6 hown hK hP hD hS 0 rfl rfl 7 (by decide) (hts _ wd_721) (fun _ h9 => h9) rfl hin rfl (by decide +kernel) rfl rfl (Nat.le_of_ble_eq_true rfl) dX6_init_52 (fun H locs hP hD hS => ?_)
  have hP : va_P (vD V) vwCl [(h0, .inr (6, [.ref q1, .ref q2, .ref q3, .ref q4, .ref q5, .int 0, .int 0, .ref q6, .int 0, .null, .null, .int 0, .int 0, .null, .null, .null, .int 0, .int 0, .int 0])), (q1, .inl (vI V, 356, .inl (fun _ => 0))), (q2, .inl (vI V, 2136, .inl (fun _ => 0))), (q3, .inl (vI V, 712, .inl (fun _ => 0))), (q4, .inl (vZ V, 2, .inl (fun _ => 0))), (q5, .inl (vI V, 356, .inl (fun _ => 0))), (q6, .inl (vC V, 80, .inl (fun _ => 0)))] H := hP
  have hD : va_D A [(h0, .inr (6, [.ref q1, .ref q2, .ref q3, .ref q4, .ref q5, .int 0, .int 0, .ref q6, .int 0, .null, .null, .int 0, .int 0, .null, .null, .null, .int 0, .int 0, .int 0])), (q1, .inl (vI V, 356, .inl (fun _ => 0))), (q2, .inl (vI V, 2136, .inl (fun _ => 0))), (q3, .inl (vI V, 712, .inl (fun _ => 0))), (q4, .inl (vZ V, 2, .inl (fun _ => 0))), (q5, .inl (vI V, 356, .inl (fun _ => 0))), (q6, .inl (vC V, 80, .inl (fun _ => 0)))] := hD
  refine lv_aload_n hx hb dX6_init_55 rfl (lv_at hl 0 rfl) ?_
  refine lv_bipush (v := (24 : Int32)) hx hb dX6_init_56 (by decide) ?_
  refine x_newI (N := 24) hx hb hts hK hP hD hS hA (by decide) rfl (Nat.le_of_ble_eq_true rfl) (Nat.le_of_ble_eq_true rfl) (Nat.le_of_ble_eq_true rfl) dX6_init_58 (fun q7 H hP hD hS => ?_)
  have hP : va_P (vD V) vwCl [(h0, .inr (6, [.ref q1, .ref q2, .ref q3, .ref q4, .ref q5, .int 0, .int 0, .ref q6, .int 0, .null, .null, .int 0, .int 0, .null, .null, .null, .int 0, .int 0, .int 0])), (q1, .inl (vI V, 356, .inl (fun _ => 0))), (q2, .inl (vI V, 2136, .inl (fun _ => 0))), (q3, .inl (vI V, 712, .inl (fun _ => 0))), (q4, .inl (vZ V, 2, .inl (fun _ => 0))), (q5, .inl (vI V, 356, .inl (fun _ => 0))), (q6, .inl (vC V, 80, .inl (fun _ => 0))), (q7, .inl (vI V, 24, .inl (fun _ => 0)))] H := hP
  have hD : va_D A [(h0, .inr (6, [.ref q1, .ref q2, .ref q3, .ref q4, .ref q5, .int 0, .int 0, .ref q6, .int 0, .null, .null, .int 0, .int 0, .null, .null, .null, .int 0, .int 0, .int 0])), (q1, .inl (vI V, 356, .inl (fun _ => 0))), (q2, .inl (vI V, 2136, .inl (fun _ => 0))), (q3, .inl (vI V, 712, .inl (fun _ => 0))), (q4, .inl (vZ V, 2, .inl (fun _ => 0))), (q5, .inl (vI V, 356, .inl (fun _ => 0))), (q6, .inl (vC V, 80, .inl (fun _ => 0))), (q7, .inl (vI V, 24, .inl (fun _ => 0)))] := hD
  refine va_putF (D := vD V) (ci := 6) (v := .ref q7) (ty := .array .int) (C := RX6) (T := TX6) (N := 19) hx hb hts gd_X6 tyX6 tyX6_ok nmX6 hown hK hP hD hS 0 rfl rfl 9 (by decide) (hts _ wd_723) (fun _ h9 => h9) rfl hin rfl (by decide +kernel) rfl rfl (Nat.le_of_ble_eq_true rfl) dX6_init_60 (fun H locs hP hD hS => ?_)
  have hP : va_P (vD V) vwCl [(h0, .inr (6, [.ref q1, .ref q2, .ref q3, .ref q4, .ref q5, .int 0, .int 0, .ref q6, .int 0, .ref q7, .null, .int 0, .int 0, .null, .null, .null, .int 0, .int 0, .int 0])), (q1, .inl (vI V, 356, .inl (fun _ => 0))), (q2, .inl (vI V, 2136, .inl (fun _ => 0))), (q3, .inl (vI V, 712, .inl (fun _ => 0))), (q4, .inl (vZ V, 2, .inl (fun _ => 0))), (q5, .inl (vI V, 356, .inl (fun _ => 0))), (q6, .inl (vC V, 80, .inl (fun _ => 0))), (q7, .inl (vI V, 24, .inl (fun _ => 0)))] H := hP
  have hD : va_D A [(h0, .inr (6, [.ref q1, .ref q2, .ref q3, .ref q4, .ref q5, .int 0, .int 0, .ref q6, .int 0, .ref q7, .null, .int 0, .int 0, .null, .null, .null, .int 0, .int 0, .int 0])), (q1, .inl (vI V, 356, .inl (fun _ => 0))), (q2, .inl (vI V, 2136, .inl (fun _ => 0))), (q3, .inl (vI V, 712, .inl (fun _ => 0))), (q4, .inl (vZ V, 2, .inl (fun _ => 0))), (q5, .inl (vI V, 356, .inl (fun _ => 0))), (q6, .inl (vC V, 80, .inl (fun _ => 0))), (q7, .inl (vI V, 24, .inl (fun _ => 0)))] := hD
  refine lv_aload_n hx hb dX6_init_63 rfl (lv_at hl 0 rfl) ?_
  refine lv_bipush (v := (24 : Int32)) hx hb dX6_init_64 (by decide) ?_
  refine x_newI (N := 24) hx hb hts hK hP hD hS hA (by decide) rfl (Nat.le_of_ble_eq_true rfl) (Nat.le_of_ble_eq_true rfl) (Nat.le_of_ble_eq_true rfl) dX6_init_66 (fun q8 H hP hD hS => ?_)
  have hP : va_P (vD V) vwCl [(h0, .inr (6, [.ref q1, .ref q2, .ref q3, .ref q4, .ref q5, .int 0, .int 0, .ref q6, .int 0, .ref q7, .null, .int 0, .int 0, .null, .null, .null, .int 0, .int 0, .int 0])), (q1, .inl (vI V, 356, .inl (fun _ => 0))), (q2, .inl (vI V, 2136, .inl (fun _ => 0))), (q3, .inl (vI V, 712, .inl (fun _ => 0))), (q4, .inl (vZ V, 2, .inl (fun _ => 0))), (q5, .inl (vI V, 356, .inl (fun _ => 0))), (q6, .inl (vC V, 80, .inl (fun _ => 0))), (q7, .inl (vI V, 24, .inl (fun _ => 0))), (q8, .inl (vI V, 24, .inl (fun _ => 0)))] H := hP
  have hD : va_D A [(h0, .inr (6, [.ref q1, .ref q2, .ref q3, .ref q4, .ref q5, .int 0, .int 0, .ref q6, .int 0, .ref q7, .null, .int 0, .int 0, .null, .null, .null, .int 0, .int 0, .int 0])), (q1, .inl (vI V, 356, .inl (fun _ => 0))), (q2, .inl (vI V, 2136, .inl (fun _ => 0))), (q3, .inl (vI V, 712, .inl (fun _ => 0))), (q4, .inl (vZ V, 2, .inl (fun _ => 0))), (q5, .inl (vI V, 356, .inl (fun _ => 0))), (q6, .inl (vC V, 80, .inl (fun _ => 0))), (q7, .inl (vI V, 24, .inl (fun _ => 0))), (q8, .inl (vI V, 24, .inl (fun _ => 0)))] := hD
  refine va_putF (D := vD V) (ci := 6) (v := .ref q8) (ty := .array .int) (C := RX6) (T := TX6) (N := 19) hx hb hts gd_X6 tyX6 tyX6_ok nmX6 hown hK hP hD hS 0 rfl rfl 10 (by decide) (hts _ wd_724) (fun _ h9 => h9) rfl hin rfl (by decide +kernel) rfl rfl (Nat.le_of_ble_eq_true rfl) dX6_init_68 (fun H locs hP hD hS => ?_)
  have hP : va_P (vD V) vwCl [(h0, .inr (6, [.ref q1, .ref q2, .ref q3, .ref q4, .ref q5, .int 0, .int 0, .ref q6, .int 0, .ref q7, .ref q8, .int 0, .int 0, .null, .null, .null, .int 0, .int 0, .int 0])), (q1, .inl (vI V, 356, .inl (fun _ => 0))), (q2, .inl (vI V, 2136, .inl (fun _ => 0))), (q3, .inl (vI V, 712, .inl (fun _ => 0))), (q4, .inl (vZ V, 2, .inl (fun _ => 0))), (q5, .inl (vI V, 356, .inl (fun _ => 0))), (q6, .inl (vC V, 80, .inl (fun _ => 0))), (q7, .inl (vI V, 24, .inl (fun _ => 0))), (q8, .inl (vI V, 24, .inl (fun _ => 0)))] H := hP
  have hD : va_D A [(h0, .inr (6, [.ref q1, .ref q2, .ref q3, .ref q4, .ref q5, .int 0, .int 0, .ref q6, .int 0, .ref q7, .ref q8, .int 0, .int 0, .null, .null, .null, .int 0, .int 0, .int 0])), (q1, .inl (vI V, 356, .inl (fun _ => 0))), (q2, .inl (vI V, 2136, .inl (fun _ => 0))), (q3, .inl (vI V, 712, .inl (fun _ => 0))), (q4, .inl (vZ V, 2, .inl (fun _ => 0))), (q5, .inl (vI V, 356, .inl (fun _ => 0))), (q6, .inl (vC V, 80, .inl (fun _ => 0))), (q7, .inl (vI V, 24, .inl (fun _ => 0))), (q8, .inl (vI V, 24, .inl (fun _ => 0)))] := hD
  refine lv_aload_n hx hb dX6_init_71 rfl (lv_at hl 0 rfl) ?_
  refine lv_bipush (v := (-6 : Int32)) hx hb dX6_init_72 (by decide) ?_
  refine va_put (D := vD V) (ci := 6) (v := .int (-6 : Int32)) (ty := .int) (C := RX6) (T := TX6) (N := 19) hx hb hts gd_X6 tyX6 tyX6_ok nmX6 hown hK hP hD hS 0 rfl rfl 11 (by decide) (hts _ wd_725) (fun _ h9 => h9) rfl (by decide +kernel) rfl rfl (Nat.le_of_ble_eq_true rfl) dX6_init_74 (fun H locs hP hD hS => ?_)
  have hP : va_P (vD V) vwCl [(h0, .inr (6, [.ref q1, .ref q2, .ref q3, .ref q4, .ref q5, .int 0, .int 0, .ref q6, .int 0, .ref q7, .ref q8, .int (-6 : Int32), .int 0, .null, .null, .null, .int 0, .int 0, .int 0])), (q1, .inl (vI V, 356, .inl (fun _ => 0))), (q2, .inl (vI V, 2136, .inl (fun _ => 0))), (q3, .inl (vI V, 712, .inl (fun _ => 0))), (q4, .inl (vZ V, 2, .inl (fun _ => 0))), (q5, .inl (vI V, 356, .inl (fun _ => 0))), (q6, .inl (vC V, 80, .inl (fun _ => 0))), (q7, .inl (vI V, 24, .inl (fun _ => 0))), (q8, .inl (vI V, 24, .inl (fun _ => 0)))] H := hP
  have hD : va_D A [(h0, .inr (6, [.ref q1, .ref q2, .ref q3, .ref q4, .ref q5, .int 0, .int 0, .ref q6, .int 0, .ref q7, .ref q8, .int (-6 : Int32), .int 0, .null, .null, .null, .int 0, .int 0, .int 0])), (q1, .inl (vI V, 356, .inl (fun _ => 0))), (q2, .inl (vI V, 2136, .inl (fun _ => 0))), (q3, .inl (vI V, 712, .inl (fun _ => 0))), (q4, .inl (vZ V, 2, .inl (fun _ => 0))), (q5, .inl (vI V, 356, .inl (fun _ => 0))), (q6, .inl (vC V, 80, .inl (fun _ => 0))), (q7, .inl (vI V, 24, .inl (fun _ => 0))), (q8, .inl (vI V, 24, .inl (fun _ => 0)))] := hD
  refine lv_aload_n hx hb dX6_init_77 rfl (lv_at hl 0 rfl) ?_
  refine lv_bipush (v := (24 : Int32)) hx hb dX6_init_78 (by decide) ?_
  refine x_newI (N := 24) hx hb hts hK hP hD hS hA (by decide) rfl (Nat.le_of_ble_eq_true rfl) (Nat.le_of_ble_eq_true rfl) (Nat.le_of_ble_eq_true rfl) dX6_init_80 (fun q9 H hP hD hS => ?_)
  have hP : va_P (vD V) vwCl [(h0, .inr (6, [.ref q1, .ref q2, .ref q3, .ref q4, .ref q5, .int 0, .int 0, .ref q6, .int 0, .ref q7, .ref q8, .int (-6 : Int32), .int 0, .null, .null, .null, .int 0, .int 0, .int 0])), (q1, .inl (vI V, 356, .inl (fun _ => 0))), (q2, .inl (vI V, 2136, .inl (fun _ => 0))), (q3, .inl (vI V, 712, .inl (fun _ => 0))), (q4, .inl (vZ V, 2, .inl (fun _ => 0))), (q5, .inl (vI V, 356, .inl (fun _ => 0))), (q6, .inl (vC V, 80, .inl (fun _ => 0))), (q7, .inl (vI V, 24, .inl (fun _ => 0))), (q8, .inl (vI V, 24, .inl (fun _ => 0))), (q9, .inl (vI V, 24, .inl (fun _ => 0)))] H := hP
  have hD : va_D A [(h0, .inr (6, [.ref q1, .ref q2, .ref q3, .ref q4, .ref q5, .int 0, .int 0, .ref q6, .int 0, .ref q7, .ref q8, .int (-6 : Int32), .int 0, .null, .null, .null, .int 0, .int 0, .int 0])), (q1, .inl (vI V, 356, .inl (fun _ => 0))), (q2, .inl (vI V, 2136, .inl (fun _ => 0))), (q3, .inl (vI V, 712, .inl (fun _ => 0))), (q4, .inl (vZ V, 2, .inl (fun _ => 0))), (q5, .inl (vI V, 356, .inl (fun _ => 0))), (q6, .inl (vC V, 80, .inl (fun _ => 0))), (q7, .inl (vI V, 24, .inl (fun _ => 0))), (q8, .inl (vI V, 24, .inl (fun _ => 0))), (q9, .inl (vI V, 24, .inl (fun _ => 0)))] := hD
  refine va_putF (D := vD V) (ci := 6) (v := .ref q9) (ty := .array .int) (C := RX6) (T := TX6) (N := 19) hx hb hts gd_X6 tyX6 tyX6_ok nmX6 hown hK hP hD hS 0 rfl rfl 13 (by decide) (hts _ wd_727) (fun _ h9 => h9) rfl hin rfl (by decide +kernel) rfl rfl (Nat.le_of_ble_eq_true rfl) dX6_init_82 (fun H locs hP hD hS => ?_)
  have hP : va_P (vD V) vwCl [(h0, .inr (6, [.ref q1, .ref q2, .ref q3, .ref q4, .ref q5, .int 0, .int 0, .ref q6, .int 0, .ref q7, .ref q8, .int (-6 : Int32), .int 0, .ref q9, .null, .null, .int 0, .int 0, .int 0])), (q1, .inl (vI V, 356, .inl (fun _ => 0))), (q2, .inl (vI V, 2136, .inl (fun _ => 0))), (q3, .inl (vI V, 712, .inl (fun _ => 0))), (q4, .inl (vZ V, 2, .inl (fun _ => 0))), (q5, .inl (vI V, 356, .inl (fun _ => 0))), (q6, .inl (vC V, 80, .inl (fun _ => 0))), (q7, .inl (vI V, 24, .inl (fun _ => 0))), (q8, .inl (vI V, 24, .inl (fun _ => 0))), (q9, .inl (vI V, 24, .inl (fun _ => 0)))] H := hP
  have hD : va_D A [(h0, .inr (6, [.ref q1, .ref q2, .ref q3, .ref q4, .ref q5, .int 0, .int 0, .ref q6, .int 0, .ref q7, .ref q8, .int (-6 : Int32), .int 0, .ref q9, .null, .null, .int 0, .int 0, .int 0])), (q1, .inl (vI V, 356, .inl (fun _ => 0))), (q2, .inl (vI V, 2136, .inl (fun _ => 0))), (q3, .inl (vI V, 712, .inl (fun _ => 0))), (q4, .inl (vZ V, 2, .inl (fun _ => 0))), (q5, .inl (vI V, 356, .inl (fun _ => 0))), (q6, .inl (vC V, 80, .inl (fun _ => 0))), (q7, .inl (vI V, 24, .inl (fun _ => 0))), (q8, .inl (vI V, 24, .inl (fun _ => 0))), (q9, .inl (vI V, 24, .inl (fun _ => 0)))] := hD
  refine lv_aload_n hx hb dX6_init_85 rfl (lv_at hl 0 rfl) ?_
  refine lv_bipush (v := (24 : Int32)) hx hb dX6_init_86 (by decide) ?_
  refine x_newI (N := 24) hx hb hts hK hP hD hS hA (by decide) rfl (Nat.le_of_ble_eq_true rfl) (Nat.le_of_ble_eq_true rfl) (Nat.le_of_ble_eq_true rfl) dX6_init_88 (fun q10 H hP hD hS => ?_)
  have hP : va_P (vD V) vwCl [(h0, .inr (6, [.ref q1, .ref q2, .ref q3, .ref q4, .ref q5, .int 0, .int 0, .ref q6, .int 0, .ref q7, .ref q8, .int (-6 : Int32), .int 0, .ref q9, .null, .null, .int 0, .int 0, .int 0])), (q1, .inl (vI V, 356, .inl (fun _ => 0))), (q2, .inl (vI V, 2136, .inl (fun _ => 0))), (q3, .inl (vI V, 712, .inl (fun _ => 0))), (q4, .inl (vZ V, 2, .inl (fun _ => 0))), (q5, .inl (vI V, 356, .inl (fun _ => 0))), (q6, .inl (vC V, 80, .inl (fun _ => 0))), (q7, .inl (vI V, 24, .inl (fun _ => 0))), (q8, .inl (vI V, 24, .inl (fun _ => 0))), (q9, .inl (vI V, 24, .inl (fun _ => 0))), (q10, .inl (vI V, 24, .inl (fun _ => 0)))] H := hP
  have hD : va_D A [(h0, .inr (6, [.ref q1, .ref q2, .ref q3, .ref q4, .ref q5, .int 0, .int 0, .ref q6, .int 0, .ref q7, .ref q8, .int (-6 : Int32), .int 0, .ref q9, .null, .null, .int 0, .int 0, .int 0])), (q1, .inl (vI V, 356, .inl (fun _ => 0))), (q2, .inl (vI V, 2136, .inl (fun _ => 0))), (q3, .inl (vI V, 712, .inl (fun _ => 0))), (q4, .inl (vZ V, 2, .inl (fun _ => 0))), (q5, .inl (vI V, 356, .inl (fun _ => 0))), (q6, .inl (vC V, 80, .inl (fun _ => 0))), (q7, .inl (vI V, 24, .inl (fun _ => 0))), (q8, .inl (vI V, 24, .inl (fun _ => 0))), (q9, .inl (vI V, 24, .inl (fun _ => 0))), (q10, .inl (vI V, 24, .inl (fun _ => 0)))] := hD
  refine va_putF (D := vD V) (ci := 6) (v := .ref q10) (ty := .array .int) (C := RX6) (T := TX6) (N := 19) hx hb hts gd_X6 tyX6 tyX6_ok nmX6 hown hK hP hD hS 0 rfl rfl 14 (by decide) (hts _ wd_728) (fun _ h9 => h9) rfl hin rfl (by decide +kernel) rfl rfl (Nat.le_of_ble_eq_true rfl) dX6_init_90 (fun H locs hP hD hS => ?_)
  have hP : va_P (vD V) vwCl [(h0, .inr (6, [.ref q1, .ref q2, .ref q3, .ref q4, .ref q5, .int 0, .int 0, .ref q6, .int 0, .ref q7, .ref q8, .int (-6 : Int32), .int 0, .ref q9, .ref q10, .null, .int 0, .int 0, .int 0])), (q1, .inl (vI V, 356, .inl (fun _ => 0))), (q2, .inl (vI V, 2136, .inl (fun _ => 0))), (q3, .inl (vI V, 712, .inl (fun _ => 0))), (q4, .inl (vZ V, 2, .inl (fun _ => 0))), (q5, .inl (vI V, 356, .inl (fun _ => 0))), (q6, .inl (vC V, 80, .inl (fun _ => 0))), (q7, .inl (vI V, 24, .inl (fun _ => 0))), (q8, .inl (vI V, 24, .inl (fun _ => 0))), (q9, .inl (vI V, 24, .inl (fun _ => 0))), (q10, .inl (vI V, 24, .inl (fun _ => 0)))] H := hP
  have hD : va_D A [(h0, .inr (6, [.ref q1, .ref q2, .ref q3, .ref q4, .ref q5, .int 0, .int 0, .ref q6, .int 0, .ref q7, .ref q8, .int (-6 : Int32), .int 0, .ref q9, .ref q10, .null, .int 0, .int 0, .int 0])), (q1, .inl (vI V, 356, .inl (fun _ => 0))), (q2, .inl (vI V, 2136, .inl (fun _ => 0))), (q3, .inl (vI V, 712, .inl (fun _ => 0))), (q4, .inl (vZ V, 2, .inl (fun _ => 0))), (q5, .inl (vI V, 356, .inl (fun _ => 0))), (q6, .inl (vC V, 80, .inl (fun _ => 0))), (q7, .inl (vI V, 24, .inl (fun _ => 0))), (q8, .inl (vI V, 24, .inl (fun _ => 0))), (q9, .inl (vI V, 24, .inl (fun _ => 0))), (q10, .inl (vI V, 24, .inl (fun _ => 0)))] := hD
  refine lv_aload_n hx hb dX6_init_93 rfl (lv_at hl 0 rfl) ?_
  refine lv_sipush (v := (252 : Int32)) hx hb dX6_init_94 (by decide) ?_
  refine x_newI (N := 252) hx hb hts hK hP hD hS hA (by decide) rfl (Nat.le_of_ble_eq_true rfl) (Nat.le_of_ble_eq_true rfl) (Nat.le_of_ble_eq_true rfl) dX6_init_97 (fun q11 H hP hD hS => ?_)
  have hP : va_P (vD V) vwCl [(h0, .inr (6, [.ref q1, .ref q2, .ref q3, .ref q4, .ref q5, .int 0, .int 0, .ref q6, .int 0, .ref q7, .ref q8, .int (-6 : Int32), .int 0, .ref q9, .ref q10, .null, .int 0, .int 0, .int 0])), (q1, .inl (vI V, 356, .inl (fun _ => 0))), (q2, .inl (vI V, 2136, .inl (fun _ => 0))), (q3, .inl (vI V, 712, .inl (fun _ => 0))), (q4, .inl (vZ V, 2, .inl (fun _ => 0))), (q5, .inl (vI V, 356, .inl (fun _ => 0))), (q6, .inl (vC V, 80, .inl (fun _ => 0))), (q7, .inl (vI V, 24, .inl (fun _ => 0))), (q8, .inl (vI V, 24, .inl (fun _ => 0))), (q9, .inl (vI V, 24, .inl (fun _ => 0))), (q10, .inl (vI V, 24, .inl (fun _ => 0))), (q11, .inl (vI V, 252, .inl (fun _ => 0)))] H := hP
  have hD : va_D A [(h0, .inr (6, [.ref q1, .ref q2, .ref q3, .ref q4, .ref q5, .int 0, .int 0, .ref q6, .int 0, .ref q7, .ref q8, .int (-6 : Int32), .int 0, .ref q9, .ref q10, .null, .int 0, .int 0, .int 0])), (q1, .inl (vI V, 356, .inl (fun _ => 0))), (q2, .inl (vI V, 2136, .inl (fun _ => 0))), (q3, .inl (vI V, 712, .inl (fun _ => 0))), (q4, .inl (vZ V, 2, .inl (fun _ => 0))), (q5, .inl (vI V, 356, .inl (fun _ => 0))), (q6, .inl (vC V, 80, .inl (fun _ => 0))), (q7, .inl (vI V, 24, .inl (fun _ => 0))), (q8, .inl (vI V, 24, .inl (fun _ => 0))), (q9, .inl (vI V, 24, .inl (fun _ => 0))), (q10, .inl (vI V, 24, .inl (fun _ => 0))), (q11, .inl (vI V, 252, .inl (fun _ => 0)))] := hD
  refine va_putF (D := vD V) (ci := 6) (v := .ref q11) (ty := .array .int) (C := RX6) (T := TX6) (N := 19) hx hb hts gd_X6 tyX6 tyX6_ok nmX6 hown hK hP hD hS 0 rfl rfl 15 (by decide) (hts _ wd_729) (fun _ h9 => h9) rfl hin rfl (by decide +kernel) rfl rfl (Nat.le_of_ble_eq_true rfl) dX6_init_99 (fun H locs hP hD hS => ?_)
  have hP : va_P (vD V) vwCl [(h0, .inr (6, [.ref q1, .ref q2, .ref q3, .ref q4, .ref q5, .int 0, .int 0, .ref q6, .int 0, .ref q7, .ref q8, .int (-6 : Int32), .int 0, .ref q9, .ref q10, .ref q11, .int 0, .int 0, .int 0])), (q1, .inl (vI V, 356, .inl (fun _ => 0))), (q2, .inl (vI V, 2136, .inl (fun _ => 0))), (q3, .inl (vI V, 712, .inl (fun _ => 0))), (q4, .inl (vZ V, 2, .inl (fun _ => 0))), (q5, .inl (vI V, 356, .inl (fun _ => 0))), (q6, .inl (vC V, 80, .inl (fun _ => 0))), (q7, .inl (vI V, 24, .inl (fun _ => 0))), (q8, .inl (vI V, 24, .inl (fun _ => 0))), (q9, .inl (vI V, 24, .inl (fun _ => 0))), (q10, .inl (vI V, 24, .inl (fun _ => 0))), (q11, .inl (vI V, 252, .inl (fun _ => 0)))] H := hP
  have hD : va_D A [(h0, .inr (6, [.ref q1, .ref q2, .ref q3, .ref q4, .ref q5, .int 0, .int 0, .ref q6, .int 0, .ref q7, .ref q8, .int (-6 : Int32), .int 0, .ref q9, .ref q10, .ref q11, .int 0, .int 0, .int 0])), (q1, .inl (vI V, 356, .inl (fun _ => 0))), (q2, .inl (vI V, 2136, .inl (fun _ => 0))), (q3, .inl (vI V, 712, .inl (fun _ => 0))), (q4, .inl (vZ V, 2, .inl (fun _ => 0))), (q5, .inl (vI V, 356, .inl (fun _ => 0))), (q6, .inl (vC V, 80, .inl (fun _ => 0))), (q7, .inl (vI V, 24, .inl (fun _ => 0))), (q8, .inl (vI V, 24, .inl (fun _ => 0))), (q9, .inl (vI V, 24, .inl (fun _ => 0))), (q10, .inl (vI V, 24, .inl (fun _ => 0))), (q11, .inl (vI V, 252, .inl (fun _ => 0)))] := hD
  refine lv_aload_n hx hb dX6_init_102 rfl (lv_at hl 0 rfl) ?_
  refine va_get (D := vD V) (ci := 6) (v := .ref q1) (C := RX6) (T := TX6) (N := 19) hx hb hts gd_X6 hown hK hP 0 rfl rfl 0 (by decide) (hts _ wd_714) (fun _ h9 => h9) rfl dX6_init_103 ?_
  refine lv_iconst (v := (1 : Int32)) hx hb dX6_init_106 (by decide) ?_
  refine lv_bipush (v := (50 : Int32)) hx hb dX6_init_107 (by decide) ?_
  refine va_iast (D := vD V) (cl := vwCl) (tys := vT V) hx hb hK hP hD hS 1 0 rfl rfl (vp_in_nI (n := 1) (by decide) (by decide)) dX6_init_109 (fun H locs hP hD hS => ?_)
  have hP : va_P (vD V) vwCl [(h0, .inr (6, [.ref q1, .ref q2, .ref q3, .ref q4, .ref q5, .int 0, .int 0, .ref q6, .int 0, .ref q7, .ref q8, .int (-6 : Int32), .int 0, .ref q9, .ref q10, .ref q11, .int 0, .int 0, .int 0])), (q1, .inl (vI V, 356, .inl (upd (fun _ => 0) 1 (50 : Int32)))), (q2, .inl (vI V, 2136, .inl (fun _ => 0))), (q3, .inl (vI V, 712, .inl (fun _ => 0))), (q4, .inl (vZ V, 2, .inl (fun _ => 0))), (q5, .inl (vI V, 356, .inl (fun _ => 0))), (q6, .inl (vC V, 80, .inl (fun _ => 0))), (q7, .inl (vI V, 24, .inl (fun _ => 0))), (q8, .inl (vI V, 24, .inl (fun _ => 0))), (q9, .inl (vI V, 24, .inl (fun _ => 0))), (q10, .inl (vI V, 24, .inl (fun _ => 0))), (q11, .inl (vI V, 252, .inl (fun _ => 0)))] H := hP
  have hD : va_D A [(h0, .inr (6, [.ref q1, .ref q2, .ref q3, .ref q4, .ref q5, .int 0, .int 0, .ref q6, .int 0, .ref q7, .ref q8, .int (-6 : Int32), .int 0, .ref q9, .ref q10, .ref q11, .int 0, .int 0, .int 0])), (q1, .inl (vI V, 356, .inl (upd (fun _ => 0) 1 (50 : Int32)))), (q2, .inl (vI V, 2136, .inl (fun _ => 0))), (q3, .inl (vI V, 712, .inl (fun _ => 0))), (q4, .inl (vZ V, 2, .inl (fun _ => 0))), (q5, .inl (vI V, 356, .inl (fun _ => 0))), (q6, .inl (vC V, 80, .inl (fun _ => 0))), (q7, .inl (vI V, 24, .inl (fun _ => 0))), (q8, .inl (vI V, 24, .inl (fun _ => 0))), (q9, .inl (vI V, 24, .inl (fun _ => 0))), (q10, .inl (vI V, 24, .inl (fun _ => 0))), (q11, .inl (vI V, 252, .inl (fun _ => 0)))] := hD
  refine lv_aload_n hx hb dX6_init_110 rfl (lv_at hl 0 rfl) ?_
  refine va_get (D := vD V) (ci := 6) (v := .ref q1) (C := RX6) (T := TX6) (N := 19) hx hb hts gd_X6 hown hK hP 0 rfl rfl 0 (by decide) (hts _ wd_714) (fun _ h9 => h9) rfl dX6_init_111 ?_
  refine lv_iconst (v := (2 : Int32)) hx hb dX6_init_114 (by decide) ?_
  refine lv_iconst (v := (2 : Int32)) hx hb dX6_init_115 (by decide) ?_
  refine va_iast (D := vD V) (cl := vwCl) (tys := vT V) hx hb hK hP hD hS 1 0 rfl rfl (vp_in_nI (n := 2) (by decide) (by decide)) dX6_init_116 (fun H locs hP hD hS => ?_)
  have hP : va_P (vD V) vwCl [(h0, .inr (6, [.ref q1, .ref q2, .ref q3, .ref q4, .ref q5, .int 0, .int 0, .ref q6, .int 0, .ref q7, .ref q8, .int (-6 : Int32), .int 0, .ref q9, .ref q10, .ref q11, .int 0, .int 0, .int 0])), (q1, .inl (vI V, 356, .inl (upd (upd (fun _ => 0) 1 (50 : Int32)) 2 (2 : Int32)))), (q2, .inl (vI V, 2136, .inl (fun _ => 0))), (q3, .inl (vI V, 712, .inl (fun _ => 0))), (q4, .inl (vZ V, 2, .inl (fun _ => 0))), (q5, .inl (vI V, 356, .inl (fun _ => 0))), (q6, .inl (vC V, 80, .inl (fun _ => 0))), (q7, .inl (vI V, 24, .inl (fun _ => 0))), (q8, .inl (vI V, 24, .inl (fun _ => 0))), (q9, .inl (vI V, 24, .inl (fun _ => 0))), (q10, .inl (vI V, 24, .inl (fun _ => 0))), (q11, .inl (vI V, 252, .inl (fun _ => 0)))] H := hP
  have hD : va_D A [(h0, .inr (6, [.ref q1, .ref q2, .ref q3, .ref q4, .ref q5, .int 0, .int 0, .ref q6, .int 0, .ref q7, .ref q8, .int (-6 : Int32), .int 0, .ref q9, .ref q10, .ref q11, .int 0, .int 0, .int 0])), (q1, .inl (vI V, 356, .inl (upd (upd (fun _ => 0) 1 (50 : Int32)) 2 (2 : Int32)))), (q2, .inl (vI V, 2136, .inl (fun _ => 0))), (q3, .inl (vI V, 712, .inl (fun _ => 0))), (q4, .inl (vZ V, 2, .inl (fun _ => 0))), (q5, .inl (vI V, 356, .inl (fun _ => 0))), (q6, .inl (vC V, 80, .inl (fun _ => 0))), (q7, .inl (vI V, 24, .inl (fun _ => 0))), (q8, .inl (vI V, 24, .inl (fun _ => 0))), (q9, .inl (vI V, 24, .inl (fun _ => 0))), (q10, .inl (vI V, 24, .inl (fun _ => 0))), (q11, .inl (vI V, 252, .inl (fun _ => 0)))] := hD
  refine W.widen (k := 11) (n := 3990) (Nat.le_of_ble_eq_true rfl) (Nat.le_of_ble_eq_true rfl) ?_
  have hP9 := hP.sub (ws' := modW V (fun o => match o with | 0 => h0 | 1 => q1 | 2 => q2 | 3 => q3 | 4 => q4 | 5 => q5 | 6 => q6 | 7 => q7 | 8 => q8 | 9 => q9 | 10 => q10 | 11 => q11 | _ => 0)) [0, 1, 2, 3, 4, 5, 6, 7, 8, 9, 10, 11] rfl
  have hD9 := hD.sub (ws' := modW V (fun o => match o with | 0 => h0 | 1 => q1 | 2 => q2 | 3 => q3 | 4 => q4 | 5 => q5 | 6 => q6 | 7 => q7 | 8 => q8 | 9 => q9 | 10 => q10 | 11 => q11 | _ => 0)) [0, 1, 2, 3, 4, 5, 6, 7, 8, 9, 10, 11] (by decide) rfl
  exact W.vret hx hb hr (fun t ht hW => ⟨⟨(fun o => match o with | 0 => h0 | 1 => q1 | 2 => q2 | 3 => q3 | 4 => q4 | 5 => q5 | 6 => q6 | 7 => q7 | 8 => q8 | 9 => q9 | 10 => q10 | 11 => q11 | _ => 0), rfl, rfl, by rw [ht]; exact hP9, va_K.moved hW.alike hK, hD9⟩, hS.F ht⟩) hS.2.2 dX6_init_117
