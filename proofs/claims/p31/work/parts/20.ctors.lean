/-! CONSTRUCTORS. What stands when they are through is the world of part 02 with its first memory -/
abbrev Va (V : VT) (a : Nat → Nat) : VT := (V.1, fun _ o => a o, V.2.2)
def mB0 : Blk := fun o => match o with
  | 0 => fun k => match k with
    | 2 => 50
    | 3 => 2
    | _ => 0
  | _ => fun _ => 0
def mX0 : Blk := fun _ _ => 0
def mZ0 : Blk := fun _ _ => 0
def planW (V : VT) (a : Nat → Nat) : va_W := [1, 3, 4, 5, 6, 7, 8, 9, 10, 11].map fun o => (a o, cellM (Va V a) 0 mB0 o)
def contW (V : VT) (a : Nat → Nat) : va_W := [2, 12, 13, 14, 15].map fun o => (a o, cellM (Va V a) 0 mB0 o)
def markW (V : VT) (a : Nat → Nat) : va_W := [0, 1, 2, 3, 4, 5, 6, 7, 8, 9, 10, 11, 12, 13, 14, 15, 16, 17, 18, 19, 20].map fun o => (a o, cellM (Va V a) 0 mB0 o)
def padW (V : VT) (a : Nat → Nat) : va_W := [5, 6, 7].map fun o => (a o, cellX (Va V a) mX0 o)
def modW (V : VT) (a : Nat → Nat) : va_W := [0].map fun o => (a o, cellZ (Va V a) mZ0 o)
/-- what the tables say beside the words that last: the links of the constructors of nest mates, the class Market[] -/
def Nst (U : State) : Prop := va_Nw (.methodLinkNest RX5 11 yX2_init "SlackMarket") U ∧ va_Nw (.methodLinkNest RX2 11 yX4_init "SlackMarket") U ∧ va_Nw (.methodLinkNest RX2 20 yX0_init "SlackMarket") U ∧ va_Nw (.methodLinkNest RX1 17 yX2_init "SlackMarket") U ∧ va_Nw (.methodLinkNest RX5 36 yX3_init "SlackMarket") U ∧ va_AO "SlackMarket$Market" U
theorem Nst.warm {s U : State} (hW : s.WarmedH U.vm) (h : Nst s) : Nst U := ⟨va_Nw.warmM hW h.1, va_Nw.warmM hW h.2.1, va_Nw.warmM hW h.2.2.1, va_Nw.warmM hW h.2.2.2.1, va_Nw.warmM hW h.2.2.2.2.1, va_AO.moved hW.alike h.2.2.2.2.2⟩
theorem Nst.blind {U : State} {g : JFrame} {mk : MethodId} {a : Array Value} (h : Nst U) : Nst (U.calling g mk a) := ⟨va_Nw.same rfl rfl h.1, va_Nw.same rfl rfl h.2.1, va_Nw.same rfl rfl h.2.2.1, va_Nw.same rfl rfl h.2.2.2.1, va_Nw.same rfl rfl h.2.2.2.2.1, va_AO.moved (u := U) (U := U.calling g mk a) (Vm.Alike.refl U.vm) h.2.2.2.2.2⟩
section NEWA
variable {p : Program} {l : Launch} {e : Env} {R : Room} {s : State} {m : MethodId} {args : Array Value} {below : List Frame} {meth : Method} {c : Code} {H : Heap} {locs : List Loc} {cells slots : Nat} {Q : State → Prop} {cc : ByteArray} {pc : Nat} {ls : Array Slot} {rest : List Value} {V : VT} {A : Nat → Prop} {ws : va_W} {H0 : Heap}
theorem x_newI (hx : p.tables.exec = Jvm.exec) (hb : c.code = cc) (hts : ∀ w ∈ lw_gd, w.before args s = true) (hK : va_K (vD V) vwCl (vT V) s) (hP : va_P (vD V) vwCl ws H) (hD : va_D A ws) (hS : va_S A H0 H locs) (hA : ∀ q, H0.size ≤ q → A q) {n : Int32} (N : Nat) (hn : ¬ n < 0) (hN : n.toNatClampNeg = N) (hbytes : N * componentBytes .int ≤ 536870912) (hcells : cells + 1 ≤ R.cells) (hslots : slots + N ≤ R.slots) (hdg : decode cc pc = .ok (.newarray .int, 2))
    (kk : ∀ (q : Nat) (H1 : Heap), va_P (vD V) vwCl (ws ++ [(q, .inl (vI V, N, .inl (fun _ => 0)))]) H1 → va_D A (ws ++ [(q, .inl (vI V, N, .inl (fun _ => 0)))]) → va_S A H0 H1 locs → W p l e R s m args below meth c H1 locs (cells + 1) (slots + N) Q (F0 m (pc + 2) ls (.ref q :: rest))) : W p l e R s m args below meth c H locs cells slots Q (F0 m pc ls (.int n :: rest)) := by
  refine va_newa (atype := .int) (ty := .int) (a0 := (N, .inl (fun _ => 0))) hx hb (hts _ wd_84) rfl hK hP hD hS hA (fun cA => rfl) hn hN hbytes hcells hslots hdg (fun q cA H1 hK1 hP1 hD1 hS1 => ?_)
  have e1 : s.vm.findClass ("[" ++ (FieldType.int).toString) = some cA := (hK1.2 4 (cA, .int) rfl).2
  have e2 : s.vm.findClass ("[" ++ (FieldType.int).toString) = some (vI V) := (hK.2 0 (vI V, .int) rfl).2
  have e3 : cA = vI V := Option.some.inj (e1.symm.trans e2)
  subst e3
  exact kk q H1 hP1 hD1 hS1
theorem x_newZ (hx : p.tables.exec = Jvm.exec) (hb : c.code = cc) (hts : ∀ w ∈ lw_gd, w.before args s = true) (hK : va_K (vD V) vwCl (vT V) s) (hP : va_P (vD V) vwCl ws H) (hD : va_D A ws) (hS : va_S A H0 H locs) (hA : ∀ q, H0.size ≤ q → A q) {n : Int32} (N : Nat) (hn : ¬ n < 0) (hN : n.toNatClampNeg = N) (hbytes : N * componentBytes .boolean ≤ 536870912) (hcells : cells + 1 ≤ R.cells) (hslots : slots + N ≤ R.slots) (hdg : decode cc pc = .ok (.newarray .boolean, 2))
    (kk : ∀ (q : Nat) (H1 : Heap), va_P (vD V) vwCl (ws ++ [(q, .inl (vZ V, N, .inl (fun _ => 0)))]) H1 → va_D A (ws ++ [(q, .inl (vZ V, N, .inl (fun _ => 0)))]) → va_S A H0 H1 locs → W p l e R s m args below meth c H1 locs (cells + 1) (slots + N) Q (F0 m (pc + 2) ls (.ref q :: rest))) : W p l e R s m args below meth c H locs cells slots Q (F0 m pc ls (.int n :: rest)) := by
  refine va_newa (atype := .boolean) (ty := .boolean) (a0 := (N, .inl (fun _ => 0))) hx hb (hts _ wd_187) rfl hK hP hD hS hA (fun cA => rfl) hn hN hbytes hcells hslots hdg (fun q cA H1 hK1 hP1 hD1 hS1 => ?_)
  have e1 : s.vm.findClass ("[" ++ (FieldType.boolean).toString) = some cA := (hK1.2 4 (cA, .boolean) rfl).2
  have e2 : s.vm.findClass ("[" ++ (FieldType.boolean).toString) = some (vZ V) := (hK.2 1 (vZ V, .boolean) rfl).2
  have e3 : cA = vZ V := Option.some.inj (e1.symm.trans e2)
  subst e3
  exact kk q H1 hP1 hD1 hS1
theorem x_newC (hx : p.tables.exec = Jvm.exec) (hb : c.code = cc) (hts : ∀ w ∈ lw_gd, w.before args s = true) (hK : va_K (vD V) vwCl (vT V) s) (hP : va_P (vD V) vwCl ws H) (hD : va_D A ws) (hS : va_S A H0 H locs) (hA : ∀ q, H0.size ≤ q → A q) {n : Int32} (N : Nat) (hn : ¬ n < 0) (hN : n.toNatClampNeg = N) (hbytes : N * componentBytes .char ≤ 536870912) (hcells : cells + 1 ≤ R.cells) (hslots : slots + N ≤ R.slots) (hdg : decode cc pc = .ok (.newarray .char, 2))
    (kk : ∀ (q : Nat) (H1 : Heap), va_P (vD V) vwCl (ws ++ [(q, .inl (vC V, N, .inl (fun _ => 0)))]) H1 → va_D A (ws ++ [(q, .inl (vC V, N, .inl (fun _ => 0)))]) → va_S A H0 H1 locs → W p l e R s m args below meth c H1 locs (cells + 1) (slots + N) Q (F0 m (pc + 2) ls (.ref q :: rest))) : W p l e R s m args below meth c H locs cells slots Q (F0 m pc ls (.int n :: rest)) := by
  refine va_newa (atype := .char) (ty := .char) (a0 := (N, .inl (fun _ => 0))) hx hb (hts _ wd_188) rfl hK hP hD hS hA (fun cA => rfl) hn hN hbytes hcells hslots hdg (fun q cA H1 hK1 hP1 hD1 hS1 => ?_)
  have e1 : s.vm.findClass ("[" ++ (FieldType.char).toString) = some cA := (hK1.2 4 (cA, .char) rfl).2
  have e2 : s.vm.findClass ("[" ++ (FieldType.char).toString) = some (vC V) := (hK.2 2 (vC V, .char) rfl).2
  have e3 : cA = vC V := Option.some.inj (e1.symm.trans e2)
  subst e3
  exact kk q H1 hP1 hD1 hS1
end NEWA
theorem dX4_init_0 : decode cX4_init 0 = .ok (.aload_n 0, 1) := by decide +kernel
theorem dX4_init_1 : decode cX4_init 1 = .ok (.invokespecial 3, 3) := by decide +kernel
theorem dX4_init_4 : decode cX4_init 4 = .ok (.aload_n 0, 1) := by decide +kernel
theorem dX4_init_5 : decode cX4_init 5 = .ok (.bipush 24, 2) := by decide +kernel
theorem dX4_init_7 : decode cX4_init 7 = .ok (.newarray .int, 2) := by decide +kernel
theorem dX4_init_9 : decode cX4_init 9 = .ok (.putfield 9, 3) := by decide +kernel
theorem dX4_init_12 : decode cX4_init 12 = .ok (.aload_n 0, 1) := by decide +kernel
theorem dX4_init_13 : decode cX4_init 13 = .ok (.bipush 24, 2) := by decide +kernel
theorem dX4_init_15 : decode cX4_init 15 = .ok (.newarray .int, 2) := by decide +kernel
theorem dX4_init_17 : decode cX4_init 17 = .ok (.putfield 15, 3) := by decide +kernel
theorem dX4_init_20 : decode cX4_init 20 = .ok (.aload_n 0, 1) := by decide +kernel
theorem dX4_init_21 : decode cX4_init 21 = .ok (.bipush 24, 2) := by decide +kernel
theorem dX4_init_23 : decode cX4_init 23 = .ok (.newarray .int, 2) := by decide +kernel
theorem dX4_init_25 : decode cX4_init 25 = .ok (.putfield 18, 3) := by decide +kernel
theorem dX4_init_28 : decode cX4_init 28 = .ok (.aload_n 0, 1) := by decide +kernel
theorem dX4_init_29 : decode cX4_init 29 = .ok (.bipush 24, 2) := by decide +kernel
theorem dX4_init_31 : decode cX4_init 31 = .ok (.newarray .int, 2) := by decide +kernel
theorem dX4_init_33 : decode cX4_init 33 = .ok (.putfield 21, 3) := by decide +kernel
theorem dX4_init_36 : decode cX4_init 36 = .ok (.aload_n 0, 1) := by decide +kernel
theorem dX4_init_37 : decode cX4_init 37 = .ok (.bipush 24, 2) := by decide +kernel
theorem dX4_init_39 : decode cX4_init 39 = .ok (.newarray .int, 2) := by decide +kernel
theorem dX4_init_41 : decode cX4_init 41 = .ok (.putfield 24, 3) := by decide +kernel
theorem dX4_init_44 : decode cX4_init 44 = .ok (.aload_n 0, 1) := by decide +kernel
theorem dX4_init_45 : decode cX4_init 45 = .ok (.bipush 96, 2) := by decide +kernel
theorem dX4_init_47 : decode cX4_init 47 = .ok (.newarray .int, 2) := by decide +kernel
theorem dX4_init_49 : decode cX4_init 49 = .ok (.putfield 27, 3) := by decide +kernel
theorem dX4_init_52 : decode cX4_init 52 = .ok (.aload_n 0, 1) := by decide +kernel
theorem dX4_init_53 : decode cX4_init 53 = .ok (.iconst 4, 1) := by decide +kernel
theorem dX4_init_54 : decode cX4_init 54 = .ok (.newarray .int, 2) := by decide +kernel
theorem dX4_init_56 : decode cX4_init 56 = .ok (.putfield 30, 3) := by decide +kernel
theorem dX4_init_59 : decode cX4_init 59 = .ok (.aload_n 0, 1) := by decide +kernel
theorem dX4_init_60 : decode cX4_init 60 = .ok (.iconst 4, 1) := by decide +kernel
theorem dX4_init_61 : decode cX4_init 61 = .ok (.newarray .int, 2) := by decide +kernel
theorem dX4_init_63 : decode cX4_init 63 = .ok (.putfield 33, 3) := by decide +kernel
theorem dX4_init_66 : decode cX4_init 66 = .ok (.aload_n 0, 1) := by decide +kernel
theorem dX4_init_67 : decode cX4_init 67 = .ok (.bipush 24, 2) := by decide +kernel
theorem dX4_init_69 : decode cX4_init 69 = .ok (.newarray .int, 2) := by decide +kernel
theorem dX4_init_71 : decode cX4_init 71 = .ok (.putfield 36, 3) := by decide +kernel
theorem dX4_init_74 : decode cX4_init 74 = .ok (.return_, 1) := by decide +kernel
set_option maxHeartbeats 4000000 in
set_option maxRecDepth 100000 in
theorem cX4_init_new (l : Launch) (V : VT) (h0 sz : Nat) : Met l yX4_init (Cond.code yX4_init cX4_init 1 none :: lw_gd) ({ frames := 1, cells := 9, slots := 248, locals := 12 } : Room) (va_Pc [.ref h0] (fun U => U.heap.size = sz ∧ va_P (vD V) vwCl [(h0, .inr (4, [.int 0, .null, .null, .null, .null, .null, .null, .null, .null, .null]))] U.heap ∧ va_K (vD V) vwCl (vT V) U ∧ va_D (fun _ => True) [(h0, .inr (4, [.int 0, .null, .null, .null, .null, .null, .null, .null, .null, .null]))])) (va_Qv (fun a : Nat → Nat => a 1 = h0) (fun a t => va_P (vD V) vwCl (planW V a) t.heap ∧ va_K (vD V) vwCl (vT V) t ∧ va_D (va_A [(h0, .inr (4, [.int 0, .null, .null, .null, .null, .null, .null, .null, .null, .null]))] sz) (planW V a)) (va_A [(h0, .inr (4, [.int 0, .null, .null, .null, .null, .null, .null, .null, .null, .null]))] sz)) 9 248 (va_A [(h0, .inr (4, [.int 0, .null, .null, .null, .null, .null, .null, .null, .null, .null]))] sz) := by
  refine Met.ofW (cc := cX4_init) (maxL := 1) (ret := none) (by decide) rfl ?_
  intro p e s m args below meth c s₁ B hml hv
  obtain ⟨rfl, hsz, hP, hK, hD0⟩ := hv
  have hx := B.exec
  have hb := B.bytes
  have hr := B.returns
  have hts0 := atoms_spec (ws := Cond.code yX4_init cX4_init 1 none :: lw_gd) B.pre
  have hts : ∀ w ∈ lw_gd, w.before #[Value.ref h0] s = true := fun w hw => hts0 w (List.mem_cons_of_mem _ hw)
  have hown : s.vm.findClass RX4 = some m.cls := findClass_of_methodNamed B.named
  have hlocks := B.notSynchronized
  have hin : meth.name = "<init>" := (name_of_methodNamed B.named B.method).1
  subst hsz
  have hD := hD0.self (sz := s.heap.size)
  generalize hAe : va_A [(h0, .inr (4, [.int 0, .null, .null, .null, .null, .null, .null, .null, .null, .null]))] s.heap.size = A at hD ⊢
  have hA : ∀ q : Nat, s.heap.size ≤ q → A q := fun q h => by rw [← hAe]; exact Or.inr h
  have hS : va_S A s.heap s.heap [] := va_S.rf
  have hl := lv_entry ([.ref h0]) (n := 1) (Nat.le_of_ble_eq_true rfl)
  rw [lg_entry_eq]
  generalize (lg_sl ([.ref h0]) ++ List.replicate (1 - (lg_sl ([.ref h0])).length) Slot.unset).toArray = ls at hl ⊢
  have hl : lv_has ls 1 [(0, .ref h0)] := hl
  refine lv_aload_n hx hb dX4_init_0 rfl (lv_at hl 0 rfl) ?_
  refine W.objInit hx hb hown (hts _ wd_43) (hts _ wd_30) (hts _ wd_31) rfl (by rw [hml]; exact hl.1) rfl dX4_init_1 (Nat.le_of_ble_eq_true rfl) (Nat.le_of_ble_eq_true rfl) ?_
  refine W.eq (g2 := F0 m 4 ls []) rfl ?_
  refine lv_aload_n hx hb dX4_init_4 rfl (lv_at hl 0 rfl) ?_
  refine lv_bipush (v := (24 : Int32)) hx hb dX4_init_5 (by decide) ?_
  refine x_newI (N := 24) hx hb hts hK hP hD hS hA (by decide) rfl (Nat.le_of_ble_eq_true rfl) (Nat.le_of_ble_eq_true rfl) (Nat.le_of_ble_eq_true rfl) dX4_init_7 (fun q1 H hP hD hS => ?_)
  have hP : va_P (vD V) vwCl [(h0, .inr (4, [.int 0, .null, .null, .null, .null, .null, .null, .null, .null, .null])), (q1, .inl (vI V, 24, .inl (fun _ => 0)))] H := hP
  have hD : va_D A [(h0, .inr (4, [.int 0, .null, .null, .null, .null, .null, .null, .null, .null, .null])), (q1, .inl (vI V, 24, .inl (fun _ => 0)))] := hD
  refine va_putF (D := vD V) (ci := 4) (v := .ref q1) (ty := .array .int) (C := RX4) (T := TX4) (N := 10) hx hb hts gd_X4 tyX4 tyX4_ok nmX4 hown hK hP hD hS 0 rfl rfl 1 (by decide) (hts _ wd_46) (fun _ h9 => h9) rfl hin rfl (by decide +kernel) rfl rfl (Nat.le_of_ble_eq_true rfl) dX4_init_9 (fun H locs hP hD hS => ?_)
  have hP : va_P (vD V) vwCl [(h0, .inr (4, [.int 0, .ref q1, .null, .null, .null, .null, .null, .null, .null, .null])), (q1, .inl (vI V, 24, .inl (fun _ => 0)))] H := hP
  have hD : va_D A [(h0, .inr (4, [.int 0, .ref q1, .null, .null, .null, .null, .null, .null, .null, .null])), (q1, .inl (vI V, 24, .inl (fun _ => 0)))] := hD
  refine lv_aload_n hx hb dX4_init_12 rfl (lv_at hl 0 rfl) ?_
  refine lv_bipush (v := (24 : Int32)) hx hb dX4_init_13 (by decide) ?_
  refine x_newI (N := 24) hx hb hts hK hP hD hS hA (by decide) rfl (Nat.le_of_ble_eq_true rfl) (Nat.le_of_ble_eq_true rfl) (Nat.le_of_ble_eq_true rfl) dX4_init_15 (fun q2 H hP hD hS => ?_)
  have hP : va_P (vD V) vwCl [(h0, .inr (4, [.int 0, .ref q1, .null, .null, .null, .null, .null, .null, .null, .null])), (q1, .inl (vI V, 24, .inl (fun _ => 0))), (q2, .inl (vI V, 24, .inl (fun _ => 0)))] H := hP
  have hD : va_D A [(h0, .inr (4, [.int 0, .ref q1, .null, .null, .null, .null, .null, .null, .null, .null])), (q1, .inl (vI V, 24, .inl (fun _ => 0))), (q2, .inl (vI V, 24, .inl (fun _ => 0)))] := hD
  refine va_putF (D := vD V) (ci := 4) (v := .ref q2) (ty := .array .int) (C := RX4) (T := TX4) (N := 10) hx hb hts gd_X4 tyX4 tyX4_ok nmX4 hown hK hP hD hS 0 rfl rfl 2 (by decide) (hts _ wd_48) (fun _ h9 => h9) rfl hin rfl (by decide +kernel) rfl rfl (Nat.le_of_ble_eq_true rfl) dX4_init_17 (fun H locs hP hD hS => ?_)
  have hP : va_P (vD V) vwCl [(h0, .inr (4, [.int 0, .ref q1, .ref q2, .null, .null, .null, .null, .null, .null, .null])), (q1, .inl (vI V, 24, .inl (fun _ => 0))), (q2, .inl (vI V, 24, .inl (fun _ => 0)))] H := hP
  have hD : va_D A [(h0, .inr (4, [.int 0, .ref q1, .ref q2, .null, .null, .null, .null, .null, .null, .null])), (q1, .inl (vI V, 24, .inl (fun _ => 0))), (q2, .inl (vI V, 24, .inl (fun _ => 0)))] := hD
  refine lv_aload_n hx hb dX4_init_20 rfl (lv_at hl 0 rfl) ?_
  refine lv_bipush (v := (24 : Int32)) hx hb dX4_init_21 (by decide) ?_
  refine x_newI (N := 24) hx hb hts hK hP hD hS hA (by decide) rfl (Nat.le_of_ble_eq_true rfl) (Nat.le_of_ble_eq_true rfl) (Nat.le_of_ble_eq_true rfl) dX4_init_23 (fun q3 H hP hD hS => ?_)
  have hP : va_P (vD V) vwCl [(h0, .inr (4, [.int 0, .ref q1, .ref q2, .null, .null, .null, .null, .null, .null, .null])), (q1, .inl (vI V, 24, .inl (fun _ => 0))), (q2, .inl (vI V, 24, .inl (fun _ => 0))), (q3, .inl (vI V, 24, .inl (fun _ => 0)))] H := hP
  have hD : va_D A [(h0, .inr (4, [.int 0, .ref q1, .ref q2, .null, .null, .null, .null, .null, .null, .null])), (q1, .inl (vI V, 24, .inl (fun _ => 0))), (q2, .inl (vI V, 24, .inl (fun _ => 0))), (q3, .inl (vI V, 24, .inl (fun _ => 0)))] := hD
  refine va_putF (D := vD V) (ci := 4) (v := .ref q3) (ty := .array .int) (C := RX4) (T := TX4) (N := 10) hx hb hts gd_X4 tyX4 tyX4_ok nmX4 hown hK hP hD hS 0 rfl rfl 3 (by decide) (hts _ wd_50) (fun _ h9 => h9) rfl hin rfl (by decide +kernel) rfl rfl (Nat.le_of_ble_eq_true rfl) dX4_init_25 (fun H locs hP hD hS => ?_)
  have hP : va_P (vD V) vwCl [(h0, .inr (4, [.int 0, .ref q1, .ref q2, .ref q3, .null, .null, .null, .null, .null, .null])), (q1, .inl (vI V, 24, .inl (fun _ => 0))), (q2, .inl (vI V, 24, .inl (fun _ => 0))), (q3, .inl (vI V, 24, .inl (fun _ => 0)))] H := hP
  have hD : va_D A [(h0, .inr (4, [.int 0, .ref q1, .ref q2, .ref q3, .null, .null, .null, .null, .null, .null])), (q1, .inl (vI V, 24, .inl (fun _ => 0))), (q2, .inl (vI V, 24, .inl (fun _ => 0))), (q3, .inl (vI V, 24, .inl (fun _ => 0)))] := hD
  refine lv_aload_n hx hb dX4_init_28 rfl (lv_at hl 0 rfl) ?_
  refine lv_bipush (v := (24 : Int32)) hx hb dX4_init_29 (by decide) ?_
  refine x_newI (N := 24) hx hb hts hK hP hD hS hA (by decide) rfl (Nat.le_of_ble_eq_true rfl) (Nat.le_of_ble_eq_true rfl) (Nat.le_of_ble_eq_true rfl) dX4_init_31 (fun q4 H hP hD hS => ?_)
  have hP : va_P (vD V) vwCl [(h0, .inr (4, [.int 0, .ref q1, .ref q2, .ref q3, .null, .null, .null, .null, .null, .null])), (q1, .inl (vI V, 24, .inl (fun _ => 0))), (q2, .inl (vI V, 24, .inl (fun _ => 0))), (q3, .inl (vI V, 24, .inl (fun _ => 0))), (q4, .inl (vI V, 24, .inl (fun _ => 0)))] H := hP
  have hD : va_D A [(h0, .inr (4, [.int 0, .ref q1, .ref q2, .ref q3, .null, .null, .null, .null, .null, .null])), (q1, .inl (vI V, 24, .inl (fun _ => 0))), (q2, .inl (vI V, 24, .inl (fun _ => 0))), (q3, .inl (vI V, 24, .inl (fun _ => 0))), (q4, .inl (vI V, 24, .inl (fun _ => 0)))] := hD
  refine va_putF (D := vD V) (ci := 4) (v := .ref q4) (ty := .array .int) (C := RX4) (T := TX4) (N := 10) hx hb hts gd_X4 tyX4 tyX4_ok nmX4 hown hK hP hD hS 0 rfl rfl 4 (by decide) (hts _ wd_52) (fun _ h9 => h9) rfl hin rfl (by decide +kernel) rfl rfl (Nat.le_of_ble_eq_true rfl) dX4_init_33 (fun H locs hP hD hS => ?_)
  have hP : va_P (vD V) vwCl [(h0, .inr (4, [.int 0, .ref q1, .ref q2, .ref q3, .ref q4, .null, .null, .null, .null, .null])), (q1, .inl (vI V, 24, .inl (fun _ => 0))), (q2, .inl (vI V, 24, .inl (fun _ => 0))), (q3, .inl (vI V, 24, .inl (fun _ => 0))), (q4, .inl (vI V, 24, .inl (fun _ => 0)))] H := hP
  have hD : va_D A [(h0, .inr (4, [.int 0, .ref q1, .ref q2, .ref q3, .ref q4, .null, .null, .null, .null, .null])), (q1, .inl (vI V, 24, .inl (fun _ => 0))), (q2, .inl (vI V, 24, .inl (fun _ => 0))), (q3, .inl (vI V, 24, .inl (fun _ => 0))), (q4, .inl (vI V, 24, .inl (fun _ => 0)))] := hD
  refine lv_aload_n hx hb dX4_init_36 rfl (lv_at hl 0 rfl) ?_
  refine lv_bipush (v := (24 : Int32)) hx hb dX4_init_37 (by decide) ?_
  refine x_newI (N := 24) hx hb hts hK hP hD hS hA (by decide) rfl (Nat.le_of_ble_eq_true rfl) (Nat.le_of_ble_eq_true rfl) (Nat.le_of_ble_eq_true rfl) dX4_init_39 (fun q5 H hP hD hS => ?_)
  have hP : va_P (vD V) vwCl [(h0, .inr (4, [.int 0, .ref q1, .ref q2, .ref q3, .ref q4, .null, .null, .null, .null, .null])), (q1, .inl (vI V, 24, .inl (fun _ => 0))), (q2, .inl (vI V, 24, .inl (fun _ => 0))), (q3, .inl (vI V, 24, .inl (fun _ => 0))), (q4, .inl (vI V, 24, .inl (fun _ => 0))), (q5, .inl (vI V, 24, .inl (fun _ => 0)))] H := hP
  have hD : va_D A [(h0, .inr (4, [.int 0, .ref q1, .ref q2, .ref q3, .ref q4, .null, .null, .null, .null, .null])), (q1, .inl (vI V, 24, .inl (fun _ => 0))), (q2, .inl (vI V, 24, .inl (fun _ => 0))), (q3, .inl (vI V, 24, .inl (fun _ => 0))), (q4, .inl (vI V, 24, .inl (fun _ => 0))), (q5, .inl (vI V, 24, .inl (fun _ => 0)))] := hD
  refine va_putF (D := vD V) (ci := 4) (v := .ref q5) (ty := .array .int) (C := RX4) (T := TX4) (N := 10) hx hb hts gd_X4 tyX4 tyX4_ok nmX4 hown hK hP hD hS 0 rfl rfl 5 (by decide) (hts _ wd_54) (fun _ h9 => h9) rfl hin rfl (by decide +kernel) rfl rfl (Nat.le_of_ble_eq_true rfl) dX4_init_41 (fun H locs hP hD hS => ?_)
  have hP : va_P (vD V) vwCl [(h0, .inr (4, [.int 0, .ref q1, .ref q2, .ref q3, .ref q4, .ref q5, .null, .null, .null, .null])), (q1, .inl (vI V, 24, .inl (fun _ => 0))), (q2, .inl (vI V, 24, .inl (fun _ => 0))), (q3, .inl (vI V, 24, .inl (fun _ => 0))), (q4, .inl (vI V, 24, .inl (fun _ => 0))), (q5, .inl (vI V, 24, .inl (fun _ => 0)))] H := hP
  have hD : va_D A [(h0, .inr (4, [.int 0, .ref q1, .ref q2, .ref q3, .ref q4, .ref q5, .null, .null, .null, .null])), (q1, .inl (vI V, 24, .inl (fun _ => 0))), (q2, .inl (vI V, 24, .inl (fun _ => 0))), (q3, .inl (vI V, 24, .inl (fun _ => 0))), (q4, .inl (vI V, 24, .inl (fun _ => 0))), (q5, .inl (vI V, 24, .inl (fun _ => 0)))] := hD
  refine lv_aload_n hx hb dX4_init_44 rfl (lv_at hl 0 rfl) ?_
  refine lv_bipush (v := (96 : Int32)) hx hb dX4_init_45 (by decide) ?_
  refine x_newI (N := 96) hx hb hts hK hP hD hS hA (by decide) rfl (Nat.le_of_ble_eq_true rfl) (Nat.le_of_ble_eq_true rfl) (Nat.le_of_ble_eq_true rfl) dX4_init_47 (fun q6 H hP hD hS => ?_)
  have hP : va_P (vD V) vwCl [(h0, .inr (4, [.int 0, .ref q1, .ref q2, .ref q3, .ref q4, .ref q5, .null, .null, .null, .null])), (q1, .inl (vI V, 24, .inl (fun _ => 0))), (q2, .inl (vI V, 24, .inl (fun _ => 0))), (q3, .inl (vI V, 24, .inl (fun _ => 0))), (q4, .inl (vI V, 24, .inl (fun _ => 0))), (q5, .inl (vI V, 24, .inl (fun _ => 0))), (q6, .inl (vI V, 96, .inl (fun _ => 0)))] H := hP
  have hD : va_D A [(h0, .inr (4, [.int 0, .ref q1, .ref q2, .ref q3, .ref q4, .ref q5, .null, .null, .null, .null])), (q1, .inl (vI V, 24, .inl (fun _ => 0))), (q2, .inl (vI V, 24, .inl (fun _ => 0))), (q3, .inl (vI V, 24, .inl (fun _ => 0))), (q4, .inl (vI V, 24, .inl (fun _ => 0))), (q5, .inl (vI V, 24, .inl (fun _ => 0))), (q6, .inl (vI V, 96, .inl (fun _ => 0)))] := hD
  refine va_putF (D := vD V) (ci := 4) (v := .ref q6) (ty := .array .int) (C := RX4) (T := TX4) (N := 10) hx hb hts gd_X4 tyX4 tyX4_ok nmX4 hown hK hP hD hS 0 rfl rfl 6 (by decide) (hts _ wd_56) (fun _ h9 => h9) rfl hin rfl (by decide +kernel) rfl rfl (Nat.le_of_ble_eq_true rfl) dX4_init_49 (fun H locs hP hD hS => ?_)
  have hP : va_P (vD V) vwCl [(h0, .inr (4, [.int 0, .ref q1, .ref q2, .ref q3, .ref q4, .ref q5, .ref q6, .null, .null, .null])), (q1, .inl (vI V, 24, .inl (fun _ => 0))), (q2, .inl (vI V, 24, .inl (fun _ => 0))), (q3, .inl (vI V, 24, .inl (fun _ => 0))), (q4, .inl (vI V, 24, .inl (fun _ => 0))), (q5, .inl (vI V, 24, .inl (fun _ => 0))), (q6, .inl (vI V, 96, .inl (fun _ => 0)))] H := hP
  have hD : va_D A [(h0, .inr (4, [.int 0, .ref q1, .ref q2, .ref q3, .ref q4, .ref q5, .ref q6, .null, .null, .null])), (q1, .inl (vI V, 24, .inl (fun _ => 0))), (q2, .inl (vI V, 24, .inl (fun _ => 0))), (q3, .inl (vI V, 24, .inl (fun _ => 0))), (q4, .inl (vI V, 24, .inl (fun _ => 0))), (q5, .inl (vI V, 24, .inl (fun _ => 0))), (q6, .inl (vI V, 96, .inl (fun _ => 0)))] := hD
  refine lv_aload_n hx hb dX4_init_52 rfl (lv_at hl 0 rfl) ?_
  refine lv_iconst (v := (4 : Int32)) hx hb dX4_init_53 (by decide) ?_
  refine x_newI (N := 4) hx hb hts hK hP hD hS hA (by decide) rfl (Nat.le_of_ble_eq_true rfl) (Nat.le_of_ble_eq_true rfl) (Nat.le_of_ble_eq_true rfl) dX4_init_54 (fun q7 H hP hD hS => ?_)
  have hP : va_P (vD V) vwCl [(h0, .inr (4, [.int 0, .ref q1, .ref q2, .ref q3, .ref q4, .ref q5, .ref q6, .null, .null, .null])), (q1, .inl (vI V, 24, .inl (fun _ => 0))), (q2, .inl (vI V, 24, .inl (fun _ => 0))), (q3, .inl (vI V, 24, .inl (fun _ => 0))), (q4, .inl (vI V, 24, .inl (fun _ => 0))), (q5, .inl (vI V, 24, .inl (fun _ => 0))), (q6, .inl (vI V, 96, .inl (fun _ => 0))), (q7, .inl (vI V, 4, .inl (fun _ => 0)))] H := hP
  have hD : va_D A [(h0, .inr (4, [.int 0, .ref q1, .ref q2, .ref q3, .ref q4, .ref q5, .ref q6, .null, .null, .null])), (q1, .inl (vI V, 24, .inl (fun _ => 0))), (q2, .inl (vI V, 24, .inl (fun _ => 0))), (q3, .inl (vI V, 24, .inl (fun _ => 0))), (q4, .inl (vI V, 24, .inl (fun _ => 0))), (q5, .inl (vI V, 24, .inl (fun _ => 0))), (q6, .inl (vI V, 96, .inl (fun _ => 0))), (q7, .inl (vI V, 4, .inl (fun _ => 0)))] := hD
  refine va_putF (D := vD V) (ci := 4) (v := .ref q7) (ty := .array .int) (C := RX4) (T := TX4) (N := 10) hx hb hts gd_X4 tyX4 tyX4_ok nmX4 hown hK hP hD hS 0 rfl rfl 7 (by decide) (hts _ wd_57) (fun _ h9 => h9) rfl hin rfl (by decide +kernel) rfl rfl (Nat.le_of_ble_eq_true rfl) dX4_init_56 (fun H locs hP hD hS => ?_)
  have hP : va_P (vD V) vwCl [(h0, .inr (4, [.int 0, .ref q1, .ref q2, .ref q3, .ref q4, .ref q5, .ref q6, .ref q7, .null, .null])), (q1, .inl (vI V, 24, .inl (fun _ => 0))), (q2, .inl (vI V, 24, .inl (fun _ => 0))), (q3, .inl (vI V, 24, .inl (fun _ => 0))), (q4, .inl (vI V, 24, .inl (fun _ => 0))), (q5, .inl (vI V, 24, .inl (fun _ => 0))), (q6, .inl (vI V, 96, .inl (fun _ => 0))), (q7, .inl (vI V, 4, .inl (fun _ => 0)))] H := hP
  have hD : va_D A [(h0, .inr (4, [.int 0, .ref q1, .ref q2, .ref q3, .ref q4, .ref q5, .ref q6, .ref q7, .null, .null])), (q1, .inl (vI V, 24, .inl (fun _ => 0))), (q2, .inl (vI V, 24, .inl (fun _ => 0))), (q3, .inl (vI V, 24, .inl (fun _ => 0))), (q4, .inl (vI V, 24, .inl (fun _ => 0))), (q5, .inl (vI V, 24, .inl (fun _ => 0))), (q6, .inl (vI V, 96, .inl (fun _ => 0))), (q7, .inl (vI V, 4, .inl (fun _ => 0)))] := hD
  refine lv_aload_n hx hb dX4_init_59 rfl (lv_at hl 0 rfl) ?_
  refine lv_iconst (v := (4 : Int32)) hx hb dX4_init_60 (by decide) ?_
  refine x_newI (N := 4) hx hb hts hK hP hD hS hA (by decide) rfl (Nat.le_of_ble_eq_true rfl) (Nat.le_of_ble_eq_true rfl) (Nat.le_of_ble_eq_true rfl) dX4_init_61 (fun q8 H hP hD hS => ?_)
  have hP : va_P (vD V) vwCl [(h0, .inr (4, [.int 0, .ref q1, .ref q2, .ref q3, .ref q4, .ref q5, .ref q6, .ref q7, .null, .null])), (q1, .inl (vI V, 24, .inl (fun _ => 0))), (q2, .inl (vI V, 24, .inl (fun _ => 0))), (q3, .inl (vI V, 24, .inl (fun _ => 0))), (q4, .inl (vI V, 24, .inl (fun _ => 0))), (q5, .inl (vI V, 24, .inl (fun _ => 0))), (q6, .inl (vI V, 96, .inl (fun _ => 0))), (q7, .inl (vI V, 4, .inl (fun _ => 0))), (q8, .inl (vI V, 4, .inl (fun _ => 0)))] H := hP
  have hD : va_D A [(h0, .inr (4, [.int 0, .ref q1, .ref q2, .ref q3, .ref q4, .ref q5, .ref q6, .ref q7, .null, .null])), (q1, .inl (vI V, 24, .inl (fun _ => 0))), (q2, .inl (vI V, 24, .inl (fun _ => 0))), (q3, .inl (vI V, 24, .inl (fun _ => 0))), (q4, .inl (vI V, 24, .inl (fun _ => 0))), (q5, .inl (vI V, 24, .inl (fun _ => 0))), (q6, .inl (vI V, 96, .inl (fun _ => 0))), (q7, .inl (vI V, 4, .inl (fun _ => 0))), (q8, .inl (vI V, 4, .inl (fun _ => 0)))] := hD
  refine va_putF (D := vD V) (ci := 4) (v := .ref q8) (ty := .array .int) (C := RX4) (T := TX4) (N := 10) hx hb hts gd_X4 tyX4 tyX4_ok nmX4 hown hK hP hD hS 0 rfl rfl 8 (by decide) (hts _ wd_59) (fun _ h9 => h9) rfl hin rfl (by decide +kernel) rfl rfl (Nat.le_of_ble_eq_true rfl) dX4_init_63 (fun H locs hP hD hS => ?_)
  have hP : va_P (vD V) vwCl [(h0, .inr (4, [.int 0, .ref q1, .ref q2, .ref q3, .ref q4, .ref q5, .ref q6, .ref q7, .ref q8, .null])), (q1, .inl (vI V, 24, .inl (fun _ => 0))), (q2, .inl (vI V, 24, .inl (fun _ => 0))), (q3, .inl (vI V, 24, .inl (fun _ => 0))), (q4, .inl (vI V, 24, .inl (fun _ => 0))), (q5, .inl (vI V, 24, .inl (fun _ => 0))), (q6, .inl (vI V, 96, .inl (fun _ => 0))), (q7, .inl (vI V, 4, .inl (fun _ => 0))), (q8, .inl (vI V, 4, .inl (fun _ => 0)))] H := hP
  have hD : va_D A [(h0, .inr (4, [.int 0, .ref q1, .ref q2, .ref q3, .ref q4, .ref q5, .ref q6, .ref q7, .ref q8, .null])), (q1, .inl (vI V, 24, .inl (fun _ => 0))), (q2, .inl (vI V, 24, .inl (fun _ => 0))), (q3, .inl (vI V, 24, .inl (fun _ => 0))), (q4, .inl (vI V, 24, .inl (fun _ => 0))), (q5, .inl (vI V, 24, .inl (fun _ => 0))), (q6, .inl (vI V, 96, .inl (fun _ => 0))), (q7, .inl (vI V, 4, .inl (fun _ => 0))), (q8, .inl (vI V, 4, .inl (fun _ => 0)))] := hD
  refine lv_aload_n hx hb dX4_init_66 rfl (lv_at hl 0 rfl) ?_
  refine lv_bipush (v := (24 : Int32)) hx hb dX4_init_67 (by decide) ?_
  refine x_newI (N := 24) hx hb hts hK hP hD hS hA (by decide) rfl (Nat.le_of_ble_eq_true rfl) (Nat.le_of_ble_eq_true rfl) (Nat.le_of_ble_eq_true rfl) dX4_init_69 (fun q9 H hP hD hS => ?_)
  have hP : va_P (vD V) vwCl [(h0, .inr (4, [.int 0, .ref q1, .ref q2, .ref q3, .ref q4, .ref q5, .ref q6, .ref q7, .ref q8, .null])), (q1, .inl (vI V, 24, .inl (fun _ => 0))), (q2, .inl (vI V, 24, .inl (fun _ => 0))), (q3, .inl (vI V, 24, .inl (fun _ => 0))), (q4, .inl (vI V, 24, .inl (fun _ => 0))), (q5, .inl (vI V, 24, .inl (fun _ => 0))), (q6, .inl (vI V, 96, .inl (fun _ => 0))), (q7, .inl (vI V, 4, .inl (fun _ => 0))), (q8, .inl (vI V, 4, .inl (fun _ => 0))), (q9, .inl (vI V, 24, .inl (fun _ => 0)))] H := hP
  have hD : va_D A [(h0, .inr (4, [.int 0, .ref q1, .ref q2, .ref q3, .ref q4, .ref q5, .ref q6, .ref q7, .ref q8, .null])), (q1, .inl (vI V, 24, .inl (fun _ => 0))), (q2, .inl (vI V, 24, .inl (fun _ => 0))), (q3, .inl (vI V, 24, .inl (fun _ => 0))), (q4, .inl (vI V, 24, .inl (fun _ => 0))), (q5, .inl (vI V, 24, .inl (fun _ => 0))), (q6, .inl (vI V, 96, .inl (fun _ => 0))), (q7, .inl (vI V, 4, .inl (fun _ => 0))), (q8, .inl (vI V, 4, .inl (fun _ => 0))), (q9, .inl (vI V, 24, .inl (fun _ => 0)))] := hD
  refine va_putF (D := vD V) (ci := 4) (v := .ref q9) (ty := .array .int) (C := RX4) (T := TX4) (N := 10) hx hb hts gd_X4 tyX4 tyX4_ok nmX4 hown hK hP hD hS 0 rfl rfl 9 (by decide) (hts _ wd_60) (fun _ h9 => h9) rfl hin rfl (by decide +kernel) rfl rfl (Nat.le_of_ble_eq_true rfl) dX4_init_71 (fun H locs hP hD hS => ?_)
  have hP : va_P (vD V) vwCl [(h0, .inr (4, [.int 0, .ref q1, .ref q2, .ref q3, .ref q4, .ref q5, .ref q6, .ref q7, .ref q8, .ref q9])), (q1, .inl (vI V, 24, .inl (fun _ => 0))), (q2, .inl (vI V, 24, .inl (fun _ => 0))), (q3, .inl (vI V, 24, .inl (fun _ => 0))), (q4, .inl (vI V, 24, .inl (fun _ => 0))), (q5, .inl (vI V, 24, .inl (fun _ => 0))), (q6, .inl (vI V, 96, .inl (fun _ => 0))), (q7, .inl (vI V, 4, .inl (fun _ => 0))), (q8, .inl (vI V, 4, .inl (fun _ => 0))), (q9, .inl (vI V, 24, .inl (fun _ => 0)))] H := hP
  have hD : va_D A [(h0, .inr (4, [.int 0, .ref q1, .ref q2, .ref q3, .ref q4, .ref q5, .ref q6, .ref q7, .ref q8, .ref q9])), (q1, .inl (vI V, 24, .inl (fun _ => 0))), (q2, .inl (vI V, 24, .inl (fun _ => 0))), (q3, .inl (vI V, 24, .inl (fun _ => 0))), (q4, .inl (vI V, 24, .inl (fun _ => 0))), (q5, .inl (vI V, 24, .inl (fun _ => 0))), (q6, .inl (vI V, 96, .inl (fun _ => 0))), (q7, .inl (vI V, 4, .inl (fun _ => 0))), (q8, .inl (vI V, 4, .inl (fun _ => 0))), (q9, .inl (vI V, 24, .inl (fun _ => 0)))] := hD
  refine W.widen (k := 9) (n := 248) (Nat.le_of_ble_eq_true rfl) (Nat.le_of_ble_eq_true rfl) ?_
  have hP9 := hP.sub (ws' := planW V (fun o => match o with | 1 => h0 | 3 => q1 | 4 => q2 | 5 => q3 | 6 => q4 | 7 => q5 | 8 => q6 | 9 => q7 | 10 => q8 | 11 => q9 | _ => 0)) [0, 1, 2, 3, 4, 5, 6, 7, 8, 9] rfl
  have hD9 := hD.sub (ws' := planW V (fun o => match o with | 1 => h0 | 3 => q1 | 4 => q2 | 5 => q3 | 6 => q4 | 7 => q5 | 8 => q6 | 9 => q7 | 10 => q8 | 11 => q9 | _ => 0)) [0, 1, 2, 3, 4, 5, 6, 7, 8, 9] (by decide) rfl
  exact W.vret hx hb hr (fun t ht hW => ⟨⟨(fun o => match o with | 1 => h0 | 3 => q1 | 4 => q2 | 5 => q3 | 6 => q4 | 7 => q5 | 8 => q6 | 9 => q7 | 10 => q8 | 11 => q9 | _ => 0), rfl, rfl, by rw [ht]; exact hP9, va_K.moved hW.alike hK, hD9⟩, hS.F ht⟩) hS.2.2 dX4_init_74
theorem dX0_init_0 : decode cX0_init 0 = .ok (.aload_n 0, 1) := by decide +kernel
theorem dX0_init_1 : decode cX0_init 1 = .ok (.invokespecial 3, 3) := by decide +kernel
theorem dX0_init_4 : decode cX0_init 4 = .ok (.aload_n 0, 1) := by decide +kernel
theorem dX0_init_5 : decode cX0_init 5 = .ok (.bipush 40, 2) := by decide +kernel
theorem dX0_init_7 : decode cX0_init 7 = .ok (.newarray .int, 2) := by decide +kernel
theorem dX0_init_9 : decode cX0_init 9 = .ok (.putfield 9, 3) := by decide +kernel
theorem dX0_init_12 : decode cX0_init 12 = .ok (.aload_n 0, 1) := by decide +kernel
theorem dX0_init_13 : decode cX0_init 13 = .ok (.bipush 40, 2) := by decide +kernel
theorem dX0_init_15 : decode cX0_init 15 = .ok (.newarray .int, 2) := by decide +kernel
theorem dX0_init_17 : decode cX0_init 17 = .ok (.putfield 15, 3) := by decide +kernel
theorem dX0_init_20 : decode cX0_init 20 = .ok (.aload_n 0, 1) := by decide +kernel
theorem dX0_init_21 : decode cX0_init 21 = .ok (.bipush 40, 2) := by decide +kernel
theorem dX0_init_23 : decode cX0_init 23 = .ok (.newarray .int, 2) := by decide +kernel
theorem dX0_init_25 : decode cX0_init 25 = .ok (.putfield 18, 3) := by decide +kernel
theorem dX0_init_28 : decode cX0_init 28 = .ok (.aload_n 0, 1) := by decide +kernel
theorem dX0_init_29 : decode cX0_init 29 = .ok (.bipush 40, 2) := by decide +kernel
theorem dX0_init_31 : decode cX0_init 31 = .ok (.newarray .int, 2) := by decide +kernel
theorem dX0_init_33 : decode cX0_init 33 = .ok (.putfield 21, 3) := by decide +kernel
theorem dX0_init_36 : decode cX0_init 36 = .ok (.return_, 1) := by decide +kernel
set_option maxHeartbeats 4000000 in
set_option maxRecDepth 100000 in
theorem cX0_init_new (l : Launch) (V : VT) (h0 sz : Nat) : Met l yX0_init (Cond.code yX0_init cX0_init 1 none :: lw_gd) ({ frames := 1, cells := 4, slots := 160, locals := 12 } : Room) (va_Pc [.ref h0] (fun U => U.heap.size = sz ∧ va_P (vD V) vwCl [(h0, .inr (0, [.int 0, .null, .null, .null, .null]))] U.heap ∧ va_K (vD V) vwCl (vT V) U ∧ va_D (fun _ => True) [(h0, .inr (0, [.int 0, .null, .null, .null, .null]))])) (va_Qv (fun a : Nat → Nat => a 2 = h0) (fun a t => va_P (vD V) vwCl (contW V a) t.heap ∧ va_K (vD V) vwCl (vT V) t ∧ va_D (va_A [(h0, .inr (0, [.int 0, .null, .null, .null, .null]))] sz) (contW V a)) (va_A [(h0, .inr (0, [.int 0, .null, .null, .null, .null]))] sz)) 4 160 (va_A [(h0, .inr (0, [.int 0, .null, .null, .null, .null]))] sz) := by
  refine Met.ofW (cc := cX0_init) (maxL := 1) (ret := none) (by decide) rfl ?_
  intro p e s m args below meth c s₁ B hml hv
  obtain ⟨rfl, hsz, hP, hK, hD0⟩ := hv
  have hx := B.exec
  have hb := B.bytes
  have hr := B.returns
  have hts0 := atoms_spec (ws := Cond.code yX0_init cX0_init 1 none :: lw_gd) B.pre
  have hts : ∀ w ∈ lw_gd, w.before #[Value.ref h0] s = true := fun w hw => hts0 w (List.mem_cons_of_mem _ hw)
  have hown : s.vm.findClass RX0 = some m.cls := findClass_of_methodNamed B.named
  have hlocks := B.notSynchronized
  have hin : meth.name = "<init>" := (name_of_methodNamed B.named B.method).1
  subst hsz
  have hD := hD0.self (sz := s.heap.size)
  generalize hAe : va_A [(h0, .inr (0, [.int 0, .null, .null, .null, .null]))] s.heap.size = A at hD ⊢
  have hA : ∀ q : Nat, s.heap.size ≤ q → A q := fun q h => by rw [← hAe]; exact Or.inr h
  have hS : va_S A s.heap s.heap [] := va_S.rf
  have hl := lv_entry ([.ref h0]) (n := 1) (Nat.le_of_ble_eq_true rfl)
  rw [lg_entry_eq]
  generalize (lg_sl ([.ref h0]) ++ List.replicate (1 - (lg_sl ([.ref h0])).length) Slot.unset).toArray = ls at hl ⊢
  have hl : lv_has ls 1 [(0, .ref h0)] := hl
  refine lv_aload_n hx hb dX0_init_0 rfl (lv_at hl 0 rfl) ?_
  refine W.objInit hx hb hown (hts _ wd_90) (hts _ wd_30) (hts _ wd_31) rfl (by rw [hml]; exact hl.1) rfl dX0_init_1 (Nat.le_of_ble_eq_true rfl) (Nat.le_of_ble_eq_true rfl) ?_
  refine W.eq (g2 := F0 m 4 ls []) rfl ?_
  refine lv_aload_n hx hb dX0_init_4 rfl (lv_at hl 0 rfl) ?_
  refine lv_bipush (v := (40 : Int32)) hx hb dX0_init_5 (by decide) ?_
  refine x_newI (N := 40) hx hb hts hK hP hD hS hA (by decide) rfl (Nat.le_of_ble_eq_true rfl) (Nat.le_of_ble_eq_true rfl) (Nat.le_of_ble_eq_true rfl) dX0_init_7 (fun q1 H hP hD hS => ?_)
  have hP : va_P (vD V) vwCl [(h0, .inr (0, [.int 0, .null, .null, .null, .null])), (q1, .inl (vI V, 40, .inl (fun _ => 0)))] H := hP
  have hD : va_D A [(h0, .inr (0, [.int 0, .null, .null, .null, .null])), (q1, .inl (vI V, 40, .inl (fun _ => 0)))] := hD
  refine va_putF (D := vD V) (ci := 0) (v := .ref q1) (ty := .array .int) (C := RX0) (T := TX0) (N := 5) hx hb hts gd_X0 tyX0 tyX0_ok nmX0 hown hK hP hD hS 0 rfl rfl 1 (by decide) (hts _ wd_94) (fun _ h9 => h9) rfl hin rfl (by decide +kernel) rfl rfl (Nat.le_of_ble_eq_true rfl) dX0_init_9 (fun H locs hP hD hS => ?_)
  have hP : va_P (vD V) vwCl [(h0, .inr (0, [.int 0, .ref q1, .null, .null, .null])), (q1, .inl (vI V, 40, .inl (fun _ => 0)))] H := hP
  have hD : va_D A [(h0, .inr (0, [.int 0, .ref q1, .null, .null, .null])), (q1, .inl (vI V, 40, .inl (fun _ => 0)))] := hD
  refine lv_aload_n hx hb dX0_init_12 rfl (lv_at hl 0 rfl) ?_
  refine lv_bipush (v := (40 : Int32)) hx hb dX0_init_13 (by decide) ?_
  refine x_newI (N := 40) hx hb hts hK hP hD hS hA (by decide) rfl (Nat.le_of_ble_eq_true rfl) (Nat.le_of_ble_eq_true rfl) (Nat.le_of_ble_eq_true rfl) dX0_init_15 (fun q2 H hP hD hS => ?_)
  have hP : va_P (vD V) vwCl [(h0, .inr (0, [.int 0, .ref q1, .null, .null, .null])), (q1, .inl (vI V, 40, .inl (fun _ => 0))), (q2, .inl (vI V, 40, .inl (fun _ => 0)))] H := hP
  have hD : va_D A [(h0, .inr (0, [.int 0, .ref q1, .null, .null, .null])), (q1, .inl (vI V, 40, .inl (fun _ => 0))), (q2, .inl (vI V, 40, .inl (fun _ => 0)))] := hD
  refine va_putF (D := vD V) (ci := 0) (v := .ref q2) (ty := .array .int) (C := RX0) (T := TX0) (N := 5) hx hb hts gd_X0 tyX0 tyX0_ok nmX0 hown hK hP hD hS 0 rfl rfl 2 (by decide) (hts _ wd_96) (fun _ h9 => h9) rfl hin rfl (by decide +kernel) rfl rfl (Nat.le_of_ble_eq_true rfl) dX0_init_17 (fun H locs hP hD hS => ?_)
  have hP : va_P (vD V) vwCl [(h0, .inr (0, [.int 0, .ref q1, .ref q2, .null, .null])), (q1, .inl (vI V, 40, .inl (fun _ => 0))), (q2, .inl (vI V, 40, .inl (fun _ => 0)))] H := hP
  have hD : va_D A [(h0, .inr (0, [.int 0, .ref q1, .ref q2, .null, .null])), (q1, .inl (vI V, 40, .inl (fun _ => 0))), (q2, .inl (vI V, 40, .inl (fun _ => 0)))] := hD
  refine lv_aload_n hx hb dX0_init_20 rfl (lv_at hl 0 rfl) ?_
  refine lv_bipush (v := (40 : Int32)) hx hb dX0_init_21 (by decide) ?_
  refine x_newI (N := 40) hx hb hts hK hP hD hS hA (by decide) rfl (Nat.le_of_ble_eq_true rfl) (Nat.le_of_ble_eq_true rfl) (Nat.le_of_ble_eq_true rfl) dX0_init_23 (fun q3 H hP hD hS => ?_)
  have hP : va_P (vD V) vwCl [(h0, .inr (0, [.int 0, .ref q1, .ref q2, .null, .null])), (q1, .inl (vI V, 40, .inl (fun _ => 0))), (q2, .inl (vI V, 40, .inl (fun _ => 0))), (q3, .inl (vI V, 40, .inl (fun _ => 0)))] H := hP
  have hD : va_D A [(h0, .inr (0, [.int 0, .ref q1, .ref q2, .null, .null])), (q1, .inl (vI V, 40, .inl (fun _ => 0))), (q2, .inl (vI V, 40, .inl (fun _ => 0))), (q3, .inl (vI V, 40, .inl (fun _ => 0)))] := hD
  refine va_putF (D := vD V) (ci := 0) (v := .ref q3) (ty := .array .int) (C := RX0) (T := TX0) (N := 5) hx hb hts gd_X0 tyX0 tyX0_ok nmX0 hown hK hP hD hS 0 rfl rfl 3 (by decide) (hts _ wd_98) (fun _ h9 => h9) rfl hin rfl (by decide +kernel) rfl rfl (Nat.le_of_ble_eq_true rfl) dX0_init_25 (fun H locs hP hD hS => ?_)
  have hP : va_P (vD V) vwCl [(h0, .inr (0, [.int 0, .ref q1, .ref q2, .ref q3, .null])), (q1, .inl (vI V, 40, .inl (fun _ => 0))), (q2, .inl (vI V, 40, .inl (fun _ => 0))), (q3, .inl (vI V, 40, .inl (fun _ => 0)))] H := hP
  have hD : va_D A [(h0, .inr (0, [.int 0, .ref q1, .ref q2, .ref q3, .null])), (q1, .inl (vI V, 40, .inl (fun _ => 0))), (q2, .inl (vI V, 40, .inl (fun _ => 0))), (q3, .inl (vI V, 40, .inl (fun _ => 0)))] := hD
  refine lv_aload_n hx hb dX0_init_28 rfl (lv_at hl 0 rfl) ?_
  refine lv_bipush (v := (40 : Int32)) hx hb dX0_init_29 (by decide) ?_
  refine x_newI (N := 40) hx hb hts hK hP hD hS hA (by decide) rfl (Nat.le_of_ble_eq_true rfl) (Nat.le_of_ble_eq_true rfl) (Nat.le_of_ble_eq_true rfl) dX0_init_31 (fun q4 H hP hD hS => ?_)
  have hP : va_P (vD V) vwCl [(h0, .inr (0, [.int 0, .ref q1, .ref q2, .ref q3, .null])), (q1, .inl (vI V, 40, .inl (fun _ => 0))), (q2, .inl (vI V, 40, .inl (fun _ => 0))), (q3, .inl (vI V, 40, .inl (fun _ => 0))), (q4, .inl (vI V, 40, .inl (fun _ => 0)))] H := hP
  have hD : va_D A [(h0, .inr (0, [.int 0, .ref q1, .ref q2, .ref q3, .null])), (q1, .inl (vI V, 40, .inl (fun _ => 0))), (q2, .inl (vI V, 40, .inl (fun _ => 0))), (q3, .inl (vI V, 40, .inl (fun _ => 0))), (q4, .inl (vI V, 40, .inl (fun _ => 0)))] := hD
  refine va_putF (D := vD V) (ci := 0) (v := .ref q4) (ty := .array .int) (C := RX0) (T := TX0) (N := 5) hx hb hts gd_X0 tyX0 tyX0_ok nmX0 hown hK hP hD hS 0 rfl rfl 4 (by decide) (hts _ wd_100) (fun _ h9 => h9) rfl hin rfl (by decide +kernel) rfl rfl (Nat.le_of_ble_eq_true rfl) dX0_init_33 (fun H locs hP hD hS => ?_)
  have hP : va_P (vD V) vwCl [(h0, .inr (0, [.int 0, .ref q1, .ref q2, .ref q3, .ref q4])), (q1, .inl (vI V, 40, .inl (fun _ => 0))), (q2, .inl (vI V, 40, .inl (fun _ => 0))), (q3, .inl (vI V, 40, .inl (fun _ => 0))), (q4, .inl (vI V, 40, .inl (fun _ => 0)))] H := hP
  have hD : va_D A [(h0, .inr (0, [.int 0, .ref q1, .ref q2, .ref q3, .ref q4])), (q1, .inl (vI V, 40, .inl (fun _ => 0))), (q2, .inl (vI V, 40, .inl (fun _ => 0))), (q3, .inl (vI V, 40, .inl (fun _ => 0))), (q4, .inl (vI V, 40, .inl (fun _ => 0)))] := hD
  refine W.widen (k := 4) (n := 160) (Nat.le_of_ble_eq_true rfl) (Nat.le_of_ble_eq_true rfl) ?_
  have hP9 := hP.sub (ws' := contW V (fun o => match o with | 2 => h0 | 12 => q1 | 13 => q2 | 14 => q3 | 15 => q4 | _ => 0)) [0, 1, 2, 3, 4] rfl
  have hD9 := hD.sub (ws' := contW V (fun o => match o with | 2 => h0 | 12 => q1 | 13 => q2 | 14 => q3 | 15 => q4 | _ => 0)) [0, 1, 2, 3, 4] (by decide) rfl
  exact W.vret hx hb hr (fun t ht hW => ⟨⟨(fun o => match o with | 2 => h0 | 12 => q1 | 13 => q2 | 14 => q3 | 15 => q4 | _ => 0), rfl, rfl, by rw [ht]; exact hP9, va_K.moved hW.alike hK, hD9⟩, hS.F ht⟩) hS.2.2 dX0_init_36
theorem dX3_init_0 : decode cX3_init 0 = .ok (.aload_n 0, 1) := by decide +kernel
theorem dX3_init_1 : decode cX3_init 1 = .ok (.invokespecial 3, 3) := by decide +kernel
theorem dX3_init_4 : decode cX3_init 4 = .ok (.aload_n 0, 1) := by decide +kernel
theorem dX3_init_5 : decode cX3_init 5 = .ok (.bipush 80, 2) := by decide +kernel
theorem dX3_init_7 : decode cX3_init 7 = .ok (.newarray .char, 2) := by decide +kernel
theorem dX3_init_9 : decode cX3_init 9 = .ok (.putfield 9, 3) := by decide +kernel
theorem dX3_init_12 : decode cX3_init 12 = .ok (.aload_n 0, 1) := by decide +kernel
theorem dX3_init_13 : decode cX3_init 13 = .ok (.iconst 5, 1) := by decide +kernel
theorem dX3_init_14 : decode cX3_init 14 = .ok (.newarray .int, 2) := by decide +kernel
theorem dX3_init_16 : decode cX3_init 16 = .ok (.putfield 15, 3) := by decide +kernel
theorem dX3_init_19 : decode cX3_init 19 = .ok (.return_, 1) := by decide +kernel
set_option maxHeartbeats 4000000 in
set_option maxRecDepth 100000 in
theorem cX3_init_new (l : Launch) (V : VT) (h0 sz : Nat) : Met l yX3_init (Cond.code yX3_init cX3_init 1 none :: lw_gd) ({ frames := 1, cells := 2, slots := 85, locals := 12 } : Room) (va_Pc [.ref h0] (fun U => U.heap.size = sz ∧ va_P (vD V) vwCl [(h0, .inr (3, [.null, .int 0, .int 0, .int 0, .null, .int 0]))] U.heap ∧ va_K (vD V) vwCl (vT V) U ∧ va_D (fun _ => True) [(h0, .inr (3, [.null, .int 0, .int 0, .int 0, .null, .int 0]))])) (va_Qv (fun a : Nat → Nat => a 5 = h0) (fun a t => va_P (vD V) vwCl (padW V a) t.heap ∧ va_K (vD V) vwCl (vT V) t ∧ va_D (va_A [(h0, .inr (3, [.null, .int 0, .int 0, .int 0, .null, .int 0]))] sz) (padW V a)) (va_A [(h0, .inr (3, [.null, .int 0, .int 0, .int 0, .null, .int 0]))] sz)) 2 85 (va_A [(h0, .inr (3, [.null, .int 0, .int 0, .int 0, .null, .int 0]))] sz) := by
  refine Met.ofW (cc := cX3_init) (maxL := 1) (ret := none) (by decide) rfl ?_
  intro p e s m args below meth c s₁ B hml hv
  obtain ⟨rfl, hsz, hP, hK, hD0⟩ := hv
  have hx := B.exec
  have hb := B.bytes
  have hr := B.returns
  have hts0 := atoms_spec (ws := Cond.code yX3_init cX3_init 1 none :: lw_gd) B.pre
  have hts : ∀ w ∈ lw_gd, w.before #[Value.ref h0] s = true := fun w hw => hts0 w (List.mem_cons_of_mem _ hw)
  have hown : s.vm.findClass RX3 = some m.cls := findClass_of_methodNamed B.named
  have hlocks := B.notSynchronized
  have hin : meth.name = "<init>" := (name_of_methodNamed B.named B.method).1
  subst hsz
  have hD := hD0.self (sz := s.heap.size)
  generalize hAe : va_A [(h0, .inr (3, [.null, .int 0, .int 0, .int 0, .null, .int 0]))] s.heap.size = A at hD ⊢
  have hA : ∀ q : Nat, s.heap.size ≤ q → A q := fun q h => by rw [← hAe]; exact Or.inr h
  have hS : va_S A s.heap s.heap [] := va_S.rf
  have hl := lv_entry ([.ref h0]) (n := 1) (Nat.le_of_ble_eq_true rfl)
  rw [lg_entry_eq]
  generalize (lg_sl ([.ref h0]) ++ List.replicate (1 - (lg_sl ([.ref h0])).length) Slot.unset).toArray = ls at hl ⊢
  have hl : lv_has ls 1 [(0, .ref h0)] := hl
  refine lv_aload_n hx hb dX3_init_0 rfl (lv_at hl 0 rfl) ?_
  refine W.objInit hx hb hown (hts _ wd_170) (hts _ wd_30) (hts _ wd_31) rfl (by rw [hml]; exact hl.1) rfl dX3_init_1 (Nat.le_of_ble_eq_true rfl) (Nat.le_of_ble_eq_true rfl) ?_
  refine W.eq (g2 := F0 m 4 ls []) rfl ?_
  refine lv_aload_n hx hb dX3_init_4 rfl (lv_at hl 0 rfl) ?_
  refine lv_bipush (v := (80 : Int32)) hx hb dX3_init_5 (by decide) ?_
  refine x_newC (N := 80) hx hb hts hK hP hD hS hA (by decide) rfl (Nat.le_of_ble_eq_true rfl) (Nat.le_of_ble_eq_true rfl) (Nat.le_of_ble_eq_true rfl) dX3_init_7 (fun q1 H hP hD hS => ?_)
  have hP : va_P (vD V) vwCl [(h0, .inr (3, [.null, .int 0, .int 0, .int 0, .null, .int 0])), (q1, .inl (vC V, 80, .inl (fun _ => 0)))] H := hP
  have hD : va_D A [(h0, .inr (3, [.null, .int 0, .int 0, .int 0, .null, .int 0])), (q1, .inl (vC V, 80, .inl (fun _ => 0)))] := hD
  refine va_putF (D := vD V) (ci := 3) (v := .ref q1) (ty := .array .char) (C := RX3) (T := TX3) (N := 6) hx hb hts gd_X3 tyX3 tyX3_ok nmX3 hown hK hP hD hS 0 rfl rfl 0 (by decide) (hts _ wd_171) (fun _ h9 => h9) rfl hin rfl (by decide +kernel) rfl rfl (Nat.le_of_ble_eq_true rfl) dX3_init_9 (fun H locs hP hD hS => ?_)
  have hP : va_P (vD V) vwCl [(h0, .inr (3, [.ref q1, .int 0, .int 0, .int 0, .null, .int 0])), (q1, .inl (vC V, 80, .inl (fun _ => 0)))] H := hP
  have hD : va_D A [(h0, .inr (3, [.ref q1, .int 0, .int 0, .int 0, .null, .int 0])), (q1, .inl (vC V, 80, .inl (fun _ => 0)))] := hD
  refine lv_aload_n hx hb dX3_init_12 rfl (lv_at hl 0 rfl) ?_
  refine lv_iconst (v := (5 : Int32)) hx hb dX3_init_13 (by decide) ?_
  refine x_newI (N := 5) hx hb hts hK hP hD hS hA (by decide) rfl (Nat.le_of_ble_eq_true rfl) (Nat.le_of_ble_eq_true rfl) (Nat.le_of_ble_eq_true rfl) dX3_init_14 (fun q2 H hP hD hS => ?_)
  have hP : va_P (vD V) vwCl [(h0, .inr (3, [.ref q1, .int 0, .int 0, .int 0, .null, .int 0])), (q1, .inl (vC V, 80, .inl (fun _ => 0))), (q2, .inl (vI V, 5, .inl (fun _ => 0)))] H := hP
  have hD : va_D A [(h0, .inr (3, [.ref q1, .int 0, .int 0, .int 0, .null, .int 0])), (q1, .inl (vC V, 80, .inl (fun _ => 0))), (q2, .inl (vI V, 5, .inl (fun _ => 0)))] := hD
  refine va_putF (D := vD V) (ci := 3) (v := .ref q2) (ty := .array .int) (C := RX3) (T := TX3) (N := 6) hx hb hts gd_X3 tyX3 tyX3_ok nmX3 hown hK hP hD hS 0 rfl rfl 4 (by decide) (hts _ wd_173) (fun _ h9 => h9) rfl hin rfl (by decide +kernel) rfl rfl (Nat.le_of_ble_eq_true rfl) dX3_init_16 (fun H locs hP hD hS => ?_)
  have hP : va_P (vD V) vwCl [(h0, .inr (3, [.ref q1, .int 0, .int 0, .int 0, .ref q2, .int 0])), (q1, .inl (vC V, 80, .inl (fun _ => 0))), (q2, .inl (vI V, 5, .inl (fun _ => 0)))] H := hP
  have hD : va_D A [(h0, .inr (3, [.ref q1, .int 0, .int 0, .int 0, .ref q2, .int 0])), (q1, .inl (vC V, 80, .inl (fun _ => 0))), (q2, .inl (vI V, 5, .inl (fun _ => 0)))] := hD
  refine W.widen (k := 2) (n := 85) (Nat.le_of_ble_eq_true rfl) (Nat.le_of_ble_eq_true rfl) ?_
  have hP9 := hP.sub (ws' := padW V (fun o => match o with | 5 => h0 | 6 => q1 | 7 => q2 | _ => 0)) [0, 1, 2] rfl
  have hD9 := hD.sub (ws' := padW V (fun o => match o with | 5 => h0 | 6 => q1 | 7 => q2 | _ => 0)) [0, 1, 2] (by decide) rfl
  exact W.vret hx hb hr (fun t ht hW => ⟨⟨(fun o => match o with | 5 => h0 | 6 => q1 | 7 => q2 | _ => 0), rfl, rfl, by rw [ht]; exact hP9, va_K.moved hW.alike hK, hD9⟩, hS.F ht⟩) hS.2.2 dX3_init_19
