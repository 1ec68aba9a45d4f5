set_option maxRecDepth 100000 in
theorem wd_21 : Cond.initialized RX3 ∈ lw_gd := gd_of 21 rfl rfl
set_option maxRecDepth 100000 in
theorem wd_29 : Cond.methodLink RX5 3 objectInit ∈ lw_gd := gd_of 29 rfl rfl
set_option maxRecDepth 100000 in
theorem wd_32 : Cond.classLink RX5 9 RX2 ∈ lw_gd := gd_of 32 rfl rfl
set_option maxRecDepth 100000 in
theorem wd_33 : Cond.instantiable RX2 9 ∈ lw_gd := gd_of 33 rfl rfl
set_option maxRecDepth 100000 in
theorem wd_35 : Cond.instanceMethod yX2_init ∈ lw_gd := gd_of 35 rfl rfl
set_option maxRecDepth 100000 in
theorem wd_36 : Cond.code yX2_init cX2_init 1 (none) ∈ lw_gd := gd_of 36 rfl rfl
set_option maxRecDepth 100000 in
theorem wd_145 : Cond.classLink RX5 19 RX1 ∈ lw_gd := gd_of 145 rfl rfl
set_option maxRecDepth 100000 in
theorem wd_146 : Cond.instantiable RX1 3 ∈ lw_gd := gd_of 146 rfl rfl
set_option maxRecDepth 100000 in
theorem wd_147 : Cond.methodLink RX5 21 yX1_init ∈ lw_gd := gd_of 147 rfl rfl
set_option maxRecDepth 100000 in
theorem wd_148 : Cond.instanceMethod yX1_init ∈ lw_gd := gd_of 148 rfl rfl
set_option maxRecDepth 100000 in
theorem wd_149 : Cond.code yX1_init cX1_init 2 (none) ∈ lw_gd := gd_of 149 rfl rfl
set_option maxRecDepth 100000 in
theorem wd_150 : Cond.methodLink RX1 3 objectInit ∈ lw_gd := gd_of 150 rfl rfl
set_option maxRecDepth 100000 in
theorem wd_151 : Cond.classLink RX1 9 RX2 ∈ lw_gd := gd_of 151 rfl rfl
set_option maxRecDepth 100000 in
theorem wd_165 : Cond.classLink RX5 34 RX3 ∈ lw_gd := gd_of 165 rfl rfl
set_option maxRecDepth 100000 in
theorem wd_166 : Cond.instantiable RX3 6 ∈ lw_gd := gd_of 166 rfl rfl
set_option maxRecDepth 100000 in
theorem wd_168 : Cond.instanceMethod yX3_init ∈ lw_gd := gd_of 168 rfl rfl
set_option maxRecDepth 100000 in
theorem wd_169 : Cond.code yX3_init cX3_init 1 (none) ∈ lw_gd := gd_of 169 rfl rfl
set_option maxRecDepth 100000 in
theorem wd_192 : Cond.fieldLink RX5 26 (TX5 3).1 (TX5 3).2.1 (TX5 3).2.2.1 ∈ lw_gd := gd_of 192 rfl rfl
set_option maxRecDepth 100000 in
theorem wd_193 : Cond.fieldLink RX5 30 (TX5 4).1 (TX5 4).2.1 (TX5 4).2.2.1 ∈ lw_gd := gd_of 193 rfl rfl
theorem mid_at {α : Type} {P T : List α} {x : α} : ((P ++ [x]) ++ T)[P.length]? = some x := by simp
theorem mid_set {α : Type} {P T : List α} {x y : α} : ((P ++ [x]) ++ T).set P.length y = (P ++ [y]) ++ T := by simp
theorem app_at {α : Type} {W T : List α} {x : α} : (W ++ x :: T)[W.length]? = some x := by simp
section NEWR
variable {p : Program} {l : Launch} {e : Env} {R : Room} {s : State} {m : MethodId} {args : Array Value} {below : List Frame} {meth : Method} {c : Code} {H : Heap} {locs : List Loc} {cells slots : Nat} {Q : State → Prop} {cc : ByteArray} {pc : Nat} {ls : Array Slot} {rest : List Value} {V : VT} {A : Nat → Prop} {ws : va_W} {H0 : Heap}
theorem x_newR (hx : p.tables.exec = Jvm.exec) (hb : c.code = cc) {own : String} {index : Nat} (hown : s.vm.findClass own = some m.cls) (hcl : (Cond.classLink own index "SlackMarket$Market").before args s = true) (hover : va_AO "SlackMarket$Market" s) (hK : va_K (vD V) vwCl (vT V) s) (hP : va_P (vD V) vwCl ws H) (hD : va_D A ws) (hS : va_S A H0 H locs) (hA : ∀ q, H0.size ≤ q → A q) {n : Int32} (N : Nat) (hn : ¬ n < 0) (hN : n.toNatClampNeg = N) (hbytes : N * 4 ≤ 536870912) (hcells : cells + 1 ≤ R.cells) (hslots : slots + N ≤ R.slots) (hdg : decode cc pc = .ok (.anewarray index, 3))
    (kk : ∀ (q : Nat) (H1 : Heap), va_P (vD V) vwCl (ws ++ [(q, .inl (vM V, N, .inr (.inr (.inr (.inr (fun _ => none))))))]) H1 → va_D A (ws ++ [(q, .inl (vM V, N, .inr (.inr (.inr (.inr (fun _ => none))))))]) → va_S A H0 H1 locs → W p l e R s m args below meth c H1 locs (cells + 1) (slots + N) Q (F0 m (pc + 3) ls (.ref q :: rest))) : W p l e R s m args below meth c H locs cells slots Q (F0 m pc ls (.int n :: rest)) := by
  refine va_newq hx hb hown hcl hover hK hP hD hS hA hn hN hbytes hcells hslots hdg (fun q cA H1 hK1 hP1 hD1 hS1 => ?_)
  obtain ⟨kA, comp, -, -, -, e1⟩ := (hK1.2 4 (cA, .object "SlackMarket$Market") rfl).2
  obtain ⟨kB, comp2, -, -, -, e2⟩ := (hK.2 3 (vM V, .object "SlackMarket$Market") rfl).2
  have e3 : cA = vM V := Option.some.inj (e1.symm.trans e2)
  subst e3
  exact kk q H1 hP1 hD1 hS1
end NEWR
def refC (V : VT) (n : Nat) (f : Nat → Option Nat) : va_E := .inl (vM V, n, .inr (.inr (.inr (.inr f))))
/-- the history's cells: itself, the row of markets, the markets -/
def objH (h r : Nat) : Nat × va_E := (h, .inr (1, [.ref r, .int 0, .int 0]))
def histW (V : VT) (h r : Nat) (f : Nat → Option Nat) (a : Nat → Nat → Nat) : va_W := ([objH h r] ++ [(r, refC V 7 f)]) ++ ((((((markW V (a 0) ++ markW V (a 1)) ++ markW V (a 2)) ++ markW V (a 3)) ++ markW V (a 4)) ++ markW V (a 5)) ++ markW V (a 6))
def f7 (a : Nat → Nat → Nat) : Nat → Option Nat := va_up (va_up (va_up (va_up (va_up (va_up (va_up (fun _ => none) 0 (some (a 0 0))) 1 (some (a 1 0))) 2 (some (a 2 0))) 3 (some (a 3 0))) 4 (some (a 4 0))) 5 (some (a 5 0))) 6 (some (a 6 0))
def f2 (a : Nat → Nat → Nat) : Nat → Option Nat := va_up (va_up (fun _ => none) 0 (some (a 0 0))) 1 (some (a 1 0))
theorem dX1_init_0 : decode cX1_init 0 = .ok (.aload_n 0, 1) := by decide +kernel
theorem dX1_init_1 : decode cX1_init 1 = .ok (.invokespecial 3, 3) := by decide +kernel
theorem dX1_init_4 : decode cX1_init 4 = .ok (.aload_n 0, 1) := by decide +kernel
theorem dX1_init_5 : decode cX1_init 5 = .ok (.bipush 7, 2) := by decide +kernel
theorem dX1_init_7 : decode cX1_init 7 = .ok (.anewarray 9, 3) := by decide +kernel
theorem dX1_init_10 : decode cX1_init 10 = .ok (.putfield 11, 3) := by decide +kernel
theorem dX1_init_13 : decode cX1_init 13 = .ok (.iconst 0, 1) := by decide +kernel
theorem dX1_init_14 : decode cX1_init 14 = .ok (.istore_n 1, 1) := by decide +kernel
theorem dX1_init_15 : decode cX1_init 15 = .ok (.iload_n 1, 1) := by decide +kernel
theorem dX1_init_16 : decode cX1_init 16 = .ok (.bipush 7, 2) := by decide +kernel
theorem dX1_init_18 : decode cX1_init 18 = .ok (.if_icmp .ge 22, 3) := by decide +kernel
theorem dX1_init_21 : decode cX1_init 21 = .ok (.aload_n 0, 1) := by decide +kernel
theorem dX1_init_22 : decode cX1_init 22 = .ok (.getfield 11, 3) := by decide +kernel
theorem dX1_init_25 : decode cX1_init 25 = .ok (.iload_n 1, 1) := by decide +kernel
theorem dX1_init_26 : decode cX1_init 26 = .ok (.new 9, 3) := by decide +kernel
theorem dX1_init_29 : decode cX1_init 29 = .ok (.dup, 1) := by decide +kernel
theorem dX1_init_30 : decode cX1_init 30 = .ok (.invokespecial 17, 3) := by decide +kernel
theorem dX1_init_33 : decode cX1_init 33 = .ok (.aastore, 1) := by decide +kernel
theorem dX1_init_34 : decode cX1_init 34 = .ok (.iinc 1 1, 3) := by decide +kernel
theorem dX1_init_37 : decode cX1_init 37 = .ok (.goto (-22), 3) := by decide +kernel
theorem dX1_init_40 : decode cX1_init 40 = .ok (.return_, 1) := by decide +kernel
set_option maxHeartbeats 4000000 in
set_option maxRecDepth 100000 in
/-- History(): seven markets in a row -/
theorem cX1_init_new (l : Launch) (V : VT) (h0 sz : Nat) : Met l yX1_init (Cond.code yX1_init cX1_init 2 none :: lw_gd) ({ frames := 3, cells := 148, slots := 3871, locals := 52 } : Room) (va_Pc [.ref h0] (fun U => U.heap.size = sz ∧ va_P (vD V) vwCl [(h0, .inr (1, [.null, .int 0, .int 0]))] U.heap ∧ va_K (vD V) vwCl (vT V) U ∧ va_D (fun _ => True) [(h0, .inr (1, [.null, .int 0, .int 0]))] ∧ Nst U)) (va_Qv (fun _ : Nat × (Nat → Nat → Nat) => True) (fun a t => va_P (vD V) vwCl (histW V h0 a.1 (f7 a.2) a.2) t.heap ∧ va_K (vD V) vwCl (vT V) t ∧ va_D (va_A [(h0, .inr (1, [.null, .int 0, .int 0]))] sz) (histW V h0 a.1 (f7 a.2) a.2)) (va_A [(h0, .inr (1, [.null, .int 0, .int 0]))] sz)) 148 3871 (va_A [(h0, .inr (1, [.null, .int 0, .int 0]))] sz) := by
  refine Met.ofW (cc := cX1_init) (maxL := 2) (ret := none) (by decide) rfl ?_
  intro p e s m args below meth c s₁ B hml hv
  obtain ⟨rfl, hsz, hP, hK, hD0, hN⟩ := hv
  have hx := B.exec
  have hb := B.bytes
  have hr := B.returns
  have hts0 := atoms_spec (ws := Cond.code yX1_init cX1_init 2 none :: lw_gd) B.pre
  have hts : ∀ w ∈ lw_gd, w.before #[Value.ref h0] s = true := fun w hw => hts0 w (List.mem_cons_of_mem _ hw)
  have hown : s.vm.findClass RX1 = some m.cls := findClass_of_methodNamed B.named
  have hlocks := B.notSynchronized
  have hin : meth.name = "<init>" := (name_of_methodNamed B.named B.method).1
  subst hsz
  have hD := hD0.self (sz := s.heap.size)
  generalize hAe : va_A [(h0, .inr (1, [.null, .int 0, .int 0]))] s.heap.size = A at hD ⊢
  have hA : ∀ q : Nat, s.heap.size ≤ q → A q := fun q h => by rw [← hAe]; exact Or.inr h
  have hS : va_S A s.heap s.heap [] := va_S.rf
  have hl := lv_entry ([.ref h0]) (n := 2) (Nat.le_of_ble_eq_true rfl)
  rw [lg_entry_eq]
  generalize (lg_sl ([.ref h0]) ++ List.replicate (2 - (lg_sl ([.ref h0])).length) Slot.unset).toArray = ls at hl ⊢
  have hl : lv_has ls 2 [(0, .ref h0)] := hl
  refine lv_aload_n hx hb dX1_init_0 rfl (lv_at hl 0 rfl) ?_
  refine W.objInit hx hb hown (hts _ wd_150) (hts _ wd_30) (hts _ wd_31) rfl (by rw [hml]; exact hl.1) rfl dX1_init_1 (Nat.le_of_ble_eq_true rfl) (Nat.le_of_ble_eq_true rfl) ?_
  refine W.eq (g2 := F0 m 4 ls []) rfl ?_
  refine lv_aload_n hx hb dX1_init_4 rfl (lv_at hl 0 rfl) ?_
  refine lv_bipush (v := (7 : Int32)) hx hb dX1_init_5 (by decide) ?_
  refine x_newR (N := 7) hx hb hown (hts _ wd_151) hN.2.2.2.2.2 hK hP hD hS hA (by decide) rfl (Nat.le_of_ble_eq_true rfl) (Nat.le_of_ble_eq_true rfl) (Nat.le_of_ble_eq_true rfl) dX1_init_7 (fun r H hP hD hS => ?_)
  refine va_putF (D := vD V) (ci := 1) (v := .ref r) (ty := (.array (.object "SlackMarket$Market"))) (C := RX1) (T := TX1) (N := 3) hx hb hts gd_X1 tyX1 tyX1_ok nmX1 hown hK hP hD hS 0 rfl rfl 0 (by decide) (hts _ wd_154) (fun _ h9 => h9) rfl hin rfl (by decide +kernel) rfl rfl (Nat.le_of_ble_eq_true rfl) dX1_init_10 (fun H locs hP hD hS => ?_)
  have hP : va_P (vD V) vwCl ([objH h0 r] ++ [(r, refC V 7 (fun _ => none))]) H := hP
  have hD : va_D A ([objH h0 r] ++ [(r, refC V 7 (fun _ => none))]) := hD
  refine lv_iconst (v := 0) hx hb dX1_init_13 (by decide) ?_
  refine lv_istore_n (lv' := [(1, .int 0), (0, .ref h0)]) hx hb dX1_init_14 rfl hl (by decide) rfl (fun ls hl => ?_)
  refine lv_iload_n hx hb dX1_init_15 rfl (lv_at hl 0 rfl) ?_
  refine lv_bipush (v := (7 : Int32)) hx hb dX1_init_16 (by decide) ?_
  refine lv_icmp_ge (tgt := 40) hx hb dX1_init_18 (by decide) (fun c => absurd c (by decide)) (fun _ => ?_)
  refine lv_aload_n hx hb dX1_init_21 rfl (lv_at hl 1 rfl) ?_
  refine va_get (D := vD V) (ci := 1) (v := .ref r) (C := RX1) (T := TX1) (N := 3) hx hb hts gd_X1 hown hK hP 0 rfl rfl 0 (by decide) (hts _ wd_154) (fun _ h9 => h9) rfl dX1_init_22 ?_
  refine lv_iload_n hx hb dX1_init_25 rfl (lv_at hl 0 rfl) ?_
  refine va_new (ci := 2) (fs := [.null, .null, .int 0, .int 0, .null, .null, .null, .null, .null]) (C := RX2) (T := TX2) (N := 9) hx hb hts gd_X2 tyX2 tyX2_ok hown (hts _ wd_151) (hts _ wd_33) (hts _ wd_17) hK hP hD hS hA rfl (fsd_X2) (Nat.le_of_ble_eq_true rfl) (Nat.le_of_ble_eq_true rfl) dX1_init_26 (fun qm H hP hD hS => ?_)
  refine lv_dup hx hb dX1_init_29 rfl ?_
  have hPc := P_last hP
  have hDc := D_last hD
  have hFc := F_last hD hS hA
  refine va_callv (va_runIN (As := []) (rest := [.ref qm, .int 0, .ref r]) (n := 0) ⟨hx, hb, hml, hown, hts⟩ (cX2_init_new l V qm H.size) ⟨va_cnB 0 hts (gd_goodIn wd_36) rfl rfl rfl hN.2.2.2.1 (hts _ wd_17) (by decide +kernel) ⟨Nat.le_of_ble_eq_true rfl, Nat.le_of_ble_eq_true rfl⟩, rfl, hts _ wd_35⟩ ⟨fun a U g mk q => by obtain ⟨q0, q1, qP, qK, qD, qN⟩ := q; exact ⟨q0, q1, qP, va_K.moved (u := U) (U := U.calling g mk a) (Vm.Alike.refl U.vm) qK, qD, qN.blind⟩, fun U hU hW => ⟨rfl, by rw [hU], by rw [hU]; exact hPc, va_K.moved hW.alike hK, hDc.weaken (fun _ _ _ _ => trivial), Nst.warm hW hN⟩⟩ rfl rfl hl.1 rfl (lv_room (Nat.le_of_ble_eq_true rfl)) dX1_init_30 ⟨(Nat.le_of_ble_eq_true rfl), (Nat.le_of_ble_eq_true rfl)⟩) hS (fun q _ h => hFc q h) hFc (fun a0 t H1 locs ht hvm hw hB hz1 hk1 hS => ?_)
  subst hw
  obtain ⟨hP1, hK1, hD1⟩ := hB
  rw [ht] at hP1
  obtain ⟨hP, hD⟩ := join_last hP hD hk1 hFc hP1 hD1
  generalize H1 = H at hP hS ⊢
  have hv1 : (([objH h0 r] ++ [(r, refC V 7 (fun _ => none))]) ++ markW V a0)[(([objH h0 r] ++ [(r, refC V 7 (fun _ => none))])).length]? = some (a0 0, cellM (Va V a0) 0 mB0 0) := app_at
  refine va_astq (D := vD V) (cl := vwCl) (tys := vT V) (ws := ([objH h0 r] ++ [(r, refC V 7 (fun _ => none))]) ++ markW V a0) (r := (RX2, TX2, 9)) hx hb hK hP hD hS [objH h0 r].length 3 _ 2 (a := r) (f := (fun _ => none)) mid_at rfl hv1 rfl (vp_in_nI (n := 0) (by decide) (by decide)) dX1_init_33 (fun H locs hP hD hS => ?_)
  rw [mid_set] at hP hD
  have hP : va_P (vD V) vwCl (([objH h0 r] ++ [(r, refC V 7 (va_up (fun _ => none) 0 (some (a0 0))))]) ++ markW V a0) H := hP
  have hD : va_D A (([objH h0 r] ++ [(r, refC V 7 (va_up (fun _ => none) 0 (some (a0 0))))]) ++ markW V a0) := hD
  refine lv_iinc (k := 0) (v := (1 : Int32)) (lv' := [(1, .int (1 : Int32)), (0, .ref h0)]) hx hb dX1_init_34 hl rfl (by decide) (by decide) rfl (fun ls hl => ?_)
  refine lv_goto (tgt := 15) hx hb dX1_init_37 (by decide) ?_
  refine lv_iload_n hx hb dX1_init_15 rfl (lv_at hl 0 rfl) ?_
  refine lv_bipush (v := (7 : Int32)) hx hb dX1_init_16 (by decide) ?_
  refine lv_icmp_ge (tgt := 40) hx hb dX1_init_18 (by decide) (fun c => absurd c (by decide)) (fun _ => ?_)
  refine lv_aload_n hx hb dX1_init_21 rfl (lv_at hl 1 rfl) ?_
  refine va_get (D := vD V) (ci := 1) (v := .ref r) (C := RX1) (T := TX1) (N := 3) hx hb hts gd_X1 hown hK hP 0 rfl rfl 0 (by decide) (hts _ wd_154) (fun _ h9 => h9) rfl dX1_init_22 ?_
  refine lv_iload_n hx hb dX1_init_25 rfl (lv_at hl 0 rfl) ?_
  refine va_new (ci := 2) (fs := [.null, .null, .int 0, .int 0, .null, .null, .null, .null, .null]) (C := RX2) (T := TX2) (N := 9) hx hb hts gd_X2 tyX2 tyX2_ok hown (hts _ wd_151) (hts _ wd_33) (hts _ wd_17) hK hP hD hS hA rfl (fsd_X2) (Nat.le_of_ble_eq_true rfl) (Nat.le_of_ble_eq_true rfl) dX1_init_26 (fun qm H hP hD hS => ?_)
  refine lv_dup hx hb dX1_init_29 rfl ?_
  have hPc := P_last hP
  have hDc := D_last hD
  have hFc := F_last hD hS hA
  refine va_callv (va_runIN (As := []) (rest := [.ref qm, .int (1 : Int32), .ref r]) (n := 0) ⟨hx, hb, hml, hown, hts⟩ (cX2_init_new l V qm H.size) ⟨va_cnB 0 hts (gd_goodIn wd_36) rfl rfl rfl hN.2.2.2.1 (hts _ wd_17) (by decide +kernel) ⟨Nat.le_of_ble_eq_true rfl, Nat.le_of_ble_eq_true rfl⟩, rfl, hts _ wd_35⟩ ⟨fun a U g mk q => by obtain ⟨q0, q1, qP, qK, qD, qN⟩ := q; exact ⟨q0, q1, qP, va_K.moved (u := U) (U := U.calling g mk a) (Vm.Alike.refl U.vm) qK, qD, qN.blind⟩, fun U hU hW => ⟨rfl, by rw [hU], by rw [hU]; exact hPc, va_K.moved hW.alike hK, hDc.weaken (fun _ _ _ _ => trivial), Nst.warm hW hN⟩⟩ rfl rfl hl.1 rfl (lv_room (Nat.le_of_ble_eq_true rfl)) dX1_init_30 ⟨(Nat.le_of_ble_eq_true rfl), (Nat.le_of_ble_eq_true rfl)⟩) hS (fun q _ h => hFc q h) hFc (fun a1 t H1 locs ht hvm hw hB hz1 hk1 hS => ?_)
  subst hw
  obtain ⟨hP1, hK1, hD1⟩ := hB
  rw [ht] at hP1
  obtain ⟨hP, hD⟩ := join_last hP hD hk1 hFc hP1 hD1
  generalize H1 = H at hP hS ⊢
  have hv1 : ((([objH h0 r] ++ [(r, refC V 7 (va_up (fun _ => none) 0 (some (a0 0))))]) ++ markW V a0) ++ markW V a1)[((([objH h0 r] ++ [(r, refC V 7 (va_up (fun _ => none) 0 (some (a0 0))))]) ++ markW V a0)).length]? = some (a1 0, cellM (Va V a1) 0 mB0 0) := app_at
  rw [List.append_assoc] at hP hD hv1
  refine va_astq (D := vD V) (cl := vwCl) (tys := vT V) (ws := ([objH h0 r] ++ [(r, refC V 7 (va_up (fun _ => none) 0 (some (a0 0))))]) ++ (markW V a0 ++ markW V a1)) (r := (RX2, TX2, 9)) hx hb hK hP hD hS [objH h0 r].length 3 _ 2 (a := r) (f := (va_up (fun _ => none) 0 (some (a0 0)))) mid_at rfl hv1 rfl (vp_in_nI (n := 1) (by decide) (by decide)) dX1_init_33 (fun H locs hP hD hS => ?_)
  rw [mid_set] at hP hD
  have hP : va_P (vD V) vwCl (([objH h0 r] ++ [(r, refC V 7 (va_up (va_up (fun _ => none) 0 (some (a0 0))) 1 (some (a1 0))))]) ++ (markW V a0 ++ markW V a1)) H := hP
  have hD : va_D A (([objH h0 r] ++ [(r, refC V 7 (va_up (va_up (fun _ => none) 0 (some (a0 0))) 1 (some (a1 0))))]) ++ (markW V a0 ++ markW V a1)) := hD
  refine lv_iinc (k := 0) (v := (2 : Int32)) (lv' := [(1, .int (2 : Int32)), (0, .ref h0)]) hx hb dX1_init_34 hl rfl (by decide) (by decide) rfl (fun ls hl => ?_)
  refine lv_goto (tgt := 15) hx hb dX1_init_37 (by decide) ?_
  refine lv_iload_n hx hb dX1_init_15 rfl (lv_at hl 0 rfl) ?_
  refine lv_bipush (v := (7 : Int32)) hx hb dX1_init_16 (by decide) ?_
  refine lv_icmp_ge (tgt := 40) hx hb dX1_init_18 (by decide) (fun c => absurd c (by decide)) (fun _ => ?_)
  refine lv_aload_n hx hb dX1_init_21 rfl (lv_at hl 1 rfl) ?_
  refine va_get (D := vD V) (ci := 1) (v := .ref r) (C := RX1) (T := TX1) (N := 3) hx hb hts gd_X1 hown hK hP 0 rfl rfl 0 (by decide) (hts _ wd_154) (fun _ h9 => h9) rfl dX1_init_22 ?_
  refine lv_iload_n hx hb dX1_init_25 rfl (lv_at hl 0 rfl) ?_
  refine va_new (ci := 2) (fs := [.null, .null, .int 0, .int 0, .null, .null, .null, .null, .null]) (C := RX2) (T := TX2) (N := 9) hx hb hts gd_X2 tyX2 tyX2_ok hown (hts _ wd_151) (hts _ wd_33) (hts _ wd_17) hK hP hD hS hA rfl (fsd_X2) (Nat.le_of_ble_eq_true rfl) (Nat.le_of_ble_eq_true rfl) dX1_init_26 (fun qm H hP hD hS => ?_)
  refine lv_dup hx hb dX1_init_29 rfl ?_
  have hPc := P_last hP
  have hDc := D_last hD
  have hFc := F_last hD hS hA
  refine va_callv (va_runIN (As := []) (rest := [.ref qm, .int (2 : Int32), .ref r]) (n := 0) ⟨hx, hb, hml, hown, hts⟩ (cX2_init_new l V qm H.size) ⟨va_cnB 0 hts (gd_goodIn wd_36) rfl rfl rfl hN.2.2.2.1 (hts _ wd_17) (by decide +kernel) ⟨Nat.le_of_ble_eq_true rfl, Nat.le_of_ble_eq_true rfl⟩, rfl, hts _ wd_35⟩ ⟨fun a U g mk q => by obtain ⟨q0, q1, qP, qK, qD, qN⟩ := q; exact ⟨q0, q1, qP, va_K.moved (u := U) (U := U.calling g mk a) (Vm.Alike.refl U.vm) qK, qD, qN.blind⟩, fun U hU hW => ⟨rfl, by rw [hU], by rw [hU]; exact hPc, va_K.moved hW.alike hK, hDc.weaken (fun _ _ _ _ => trivial), Nst.warm hW hN⟩⟩ rfl rfl hl.1 rfl (lv_room (Nat.le_of_ble_eq_true rfl)) dX1_init_30 ⟨(Nat.le_of_ble_eq_true rfl), (Nat.le_of_ble_eq_true rfl)⟩) hS (fun q _ h => hFc q h) hFc (fun a2 t H1 locs ht hvm hw hB hz1 hk1 hS => ?_)
  subst hw
  obtain ⟨hP1, hK1, hD1⟩ := hB
  rw [ht] at hP1
  obtain ⟨hP, hD⟩ := join_last hP hD hk1 hFc hP1 hD1
  generalize H1 = H at hP hS ⊢
  have hv1 : ((([objH h0 r] ++ [(r, refC V 7 (va_up (va_up (fun _ => none) 0 (some (a0 0))) 1 (some (a1 0))))]) ++ (markW V a0 ++ markW V a1)) ++ markW V a2)[((([objH h0 r] ++ [(r, refC V 7 (va_up (va_up (fun _ => none) 0 (some (a0 0))) 1 (some (a1 0))))]) ++ (markW V a0 ++ markW V a1))).length]? = some (a2 0, cellM (Va V a2) 0 mB0 0) := app_at
  rw [List.append_assoc] at hP hD hv1
  refine va_astq (D := vD V) (cl := vwCl) (tys := vT V) (ws := ([objH h0 r] ++ [(r, refC V 7 (va_up (va_up (fun _ => none) 0 (some (a0 0))) 1 (some (a1 0))))]) ++ ((markW V a0 ++ markW V a1) ++ markW V a2)) (r := (RX2, TX2, 9)) hx hb hK hP hD hS [objH h0 r].length 3 _ 2 (a := r) (f := (va_up (va_up (fun _ => none) 0 (some (a0 0))) 1 (some (a1 0)))) mid_at rfl hv1 rfl (vp_in_nI (n := 2) (by decide) (by decide)) dX1_init_33 (fun H locs hP hD hS => ?_)
  rw [mid_set] at hP hD
  have hP : va_P (vD V) vwCl (([objH h0 r] ++ [(r, refC V 7 (va_up (va_up (va_up (fun _ => none) 0 (some (a0 0))) 1 (some (a1 0))) 2 (some (a2 0))))]) ++ ((markW V a0 ++ markW V a1) ++ markW V a2)) H := hP
  have hD : va_D A (([objH h0 r] ++ [(r, refC V 7 (va_up (va_up (va_up (fun _ => none) 0 (some (a0 0))) 1 (some (a1 0))) 2 (some (a2 0))))]) ++ ((markW V a0 ++ markW V a1) ++ markW V a2)) := hD
  refine lv_iinc (k := 0) (v := (3 : Int32)) (lv' := [(1, .int (3 : Int32)), (0, .ref h0)]) hx hb dX1_init_34 hl rfl (by decide) (by decide) rfl (fun ls hl => ?_)
  refine lv_goto (tgt := 15) hx hb dX1_init_37 (by decide) ?_
  refine lv_iload_n hx hb dX1_init_15 rfl (lv_at hl 0 rfl) ?_
  refine lv_bipush (v := (7 : Int32)) hx hb dX1_init_16 (by decide) ?_
  refine lv_icmp_ge (tgt := 40) hx hb dX1_init_18 (by decide) (fun c => absurd c (by decide)) (fun _ => ?_)
  refine lv_aload_n hx hb dX1_init_21 rfl (lv_at hl 1 rfl) ?_
  refine va_get (D := vD V) (ci := 1) (v := .ref r) (C := RX1) (T := TX1) (N := 3) hx hb hts gd_X1 hown hK hP 0 rfl rfl 0 (by decide) (hts _ wd_154) (fun _ h9 => h9) rfl dX1_init_22 ?_
  refine lv_iload_n hx hb dX1_init_25 rfl (lv_at hl 0 rfl) ?_
  refine va_new (ci := 2) (fs := [.null, .null, .int 0, .int 0, .null, .null, .null, .null, .null]) (C := RX2) (T := TX2) (N := 9) hx hb hts gd_X2 tyX2 tyX2_ok hown (hts _ wd_151) (hts _ wd_33) (hts _ wd_17) hK hP hD hS hA rfl (fsd_X2) (Nat.le_of_ble_eq_true rfl) (Nat.le_of_ble_eq_true rfl) dX1_init_26 (fun qm H hP hD hS => ?_)
  refine lv_dup hx hb dX1_init_29 rfl ?_
  have hPc := P_last hP
  have hDc := D_last hD
  have hFc := F_last hD hS hA
  refine va_callv (va_runIN (As := []) (rest := [.ref qm, .int (3 : Int32), .ref r]) (n := 0) ⟨hx, hb, hml, hown, hts⟩ (cX2_init_new l V qm H.size) ⟨va_cnB 0 hts (gd_goodIn wd_36) rfl rfl rfl hN.2.2.2.1 (hts _ wd_17) (by decide +kernel) ⟨Nat.le_of_ble_eq_true rfl, Nat.le_of_ble_eq_true rfl⟩, rfl, hts _ wd_35⟩ ⟨fun a U g mk q => by obtain ⟨q0, q1, qP, qK, qD, qN⟩ := q; exact ⟨q0, q1, qP, va_K.moved (u := U) (U := U.calling g mk a) (Vm.Alike.refl U.vm) qK, qD, qN.blind⟩, fun U hU hW => ⟨rfl, by rw [hU], by rw [hU]; exact hPc, va_K.moved hW.alike hK, hDc.weaken (fun _ _ _ _ => trivial), Nst.warm hW hN⟩⟩ rfl rfl hl.1 rfl (lv_room (Nat.le_of_ble_eq_true rfl)) dX1_init_30 ⟨(Nat.le_of_ble_eq_true rfl), (Nat.le_of_ble_eq_true rfl)⟩) hS (fun q _ h => hFc q h) hFc (fun a3 t H1 locs ht hvm hw hB hz1 hk1 hS => ?_)
  subst hw
  obtain ⟨hP1, hK1, hD1⟩ := hB
  rw [ht] at hP1
  obtain ⟨hP, hD⟩ := join_last hP hD hk1 hFc hP1 hD1
  generalize H1 = H at hP hS ⊢
  have hv1 : ((([objH h0 r] ++ [(r, refC V 7 (va_up (va_up (va_up (fun _ => none) 0 (some (a0 0))) 1 (some (a1 0))) 2 (some (a2 0))))]) ++ ((markW V a0 ++ markW V a1) ++ markW V a2)) ++ markW V a3)[((([objH h0 r] ++ [(r, refC V 7 (va_up (va_up (va_up (fun _ => none) 0 (some (a0 0))) 1 (some (a1 0))) 2 (some (a2 0))))]) ++ ((markW V a0 ++ markW V a1) ++ markW V a2))).length]? = some (a3 0, cellM (Va V a3) 0 mB0 0) := app_at
  rw [List.append_assoc] at hP hD hv1
  refine va_astq (D := vD V) (cl := vwCl) (tys := vT V) (ws := ([objH h0 r] ++ [(r, refC V 7 (va_up (va_up (va_up (fun _ => none) 0 (some (a0 0))) 1 (some (a1 0))) 2 (some (a2 0))))]) ++ (((markW V a0 ++ markW V a1) ++ markW V a2) ++ markW V a3)) (r := (RX2, TX2, 9)) hx hb hK hP hD hS [objH h0 r].length 3 _ 2 (a := r) (f := (va_up (va_up (va_up (fun _ => none) 0 (some (a0 0))) 1 (some (a1 0))) 2 (some (a2 0)))) mid_at rfl hv1 rfl (vp_in_nI (n := 3) (by decide) (by decide)) dX1_init_33 (fun H locs hP hD hS => ?_)
  rw [mid_set] at hP hD
  have hP : va_P (vD V) vwCl (([objH h0 r] ++ [(r, refC V 7 (va_up (va_up (va_up (va_up (fun _ => none) 0 (some (a0 0))) 1 (some (a1 0))) 2 (some (a2 0))) 3 (some (a3 0))))]) ++ (((markW V a0 ++ markW V a1) ++ markW V a2) ++ markW V a3)) H := hP
  have hD : va_D A (([objH h0 r] ++ [(r, refC V 7 (va_up (va_up (va_up (va_up (fun _ => none) 0 (some (a0 0))) 1 (some (a1 0))) 2 (some (a2 0))) 3 (some (a3 0))))]) ++ (((markW V a0 ++ markW V a1) ++ markW V a2) ++ markW V a3)) := hD
  refine lv_iinc (k := 0) (v := (4 : Int32)) (lv' := [(1, .int (4 : Int32)), (0, .ref h0)]) hx hb dX1_init_34 hl rfl (by decide) (by decide) rfl (fun ls hl => ?_)
  refine lv_goto (tgt := 15) hx hb dX1_init_37 (by decide) ?_
  refine lv_iload_n hx hb dX1_init_15 rfl (lv_at hl 0 rfl) ?_
  refine lv_bipush (v := (7 : Int32)) hx hb dX1_init_16 (by decide) ?_
  refine lv_icmp_ge (tgt := 40) hx hb dX1_init_18 (by decide) (fun c => absurd c (by decide)) (fun _ => ?_)
  refine lv_aload_n hx hb dX1_init_21 rfl (lv_at hl 1 rfl) ?_
  refine va_get (D := vD V) (ci := 1) (v := .ref r) (C := RX1) (T := TX1) (N := 3) hx hb hts gd_X1 hown hK hP 0 rfl rfl 0 (by decide) (hts _ wd_154) (fun _ h9 => h9) rfl dX1_init_22 ?_
  refine lv_iload_n hx hb dX1_init_25 rfl (lv_at hl 0 rfl) ?_
  refine va_new (ci := 2) (fs := [.null, .null, .int 0, .int 0, .null, .null, .null, .null, .null]) (C := RX2) (T := TX2) (N := 9) hx hb hts gd_X2 tyX2 tyX2_ok hown (hts _ wd_151) (hts _ wd_33) (hts _ wd_17) hK hP hD hS hA rfl (fsd_X2) (Nat.le_of_ble_eq_true rfl) (Nat.le_of_ble_eq_true rfl) dX1_init_26 (fun qm H hP hD hS => ?_)
  refine lv_dup hx hb dX1_init_29 rfl ?_
  have hPc := P_last hP
  have hDc := D_last hD
  have hFc := F_last hD hS hA
  refine va_callv (va_runIN (As := []) (rest := [.ref qm, .int (4 : Int32), .ref r]) (n := 0) ⟨hx, hb, hml, hown, hts⟩ (cX2_init_new l V qm H.size) ⟨va_cnB 0 hts (gd_goodIn wd_36) rfl rfl rfl hN.2.2.2.1 (hts _ wd_17) (by decide +kernel) ⟨Nat.le_of_ble_eq_true rfl, Nat.le_of_ble_eq_true rfl⟩, rfl, hts _ wd_35⟩ ⟨fun a U g mk q => by obtain ⟨q0, q1, qP, qK, qD, qN⟩ := q; exact ⟨q0, q1, qP, va_K.moved (u := U) (U := U.calling g mk a) (Vm.Alike.refl U.vm) qK, qD, qN.blind⟩, fun U hU hW => ⟨rfl, by rw [hU], by rw [hU]; exact hPc, va_K.moved hW.alike hK, hDc.weaken (fun _ _ _ _ => trivial), Nst.warm hW hN⟩⟩ rfl rfl hl.1 rfl (lv_room (Nat.le_of_ble_eq_true rfl)) dX1_init_30 ⟨(Nat.le_of_ble_eq_true rfl), (Nat.le_of_ble_eq_true rfl)⟩) hS (fun q _ h => hFc q h) hFc (fun a4 t H1 locs ht hvm hw hB hz1 hk1 hS => ?_)
  subst hw
  obtain ⟨hP1, hK1, hD1⟩ := hB
  rw [ht] at hP1
  obtain ⟨hP, hD⟩ := join_last hP hD hk1 hFc hP1 hD1
  generalize H1 = H at hP hS ⊢
  have hv1 : ((([objH h0 r] ++ [(r, refC V 7 (va_up (va_up (va_up (va_up (fun _ => none) 0 (some (a0 0))) 1 (some (a1 0))) 2 (some (a2 0))) 3 (some (a3 0))))]) ++ (((markW V a0 ++ markW V a1) ++ markW V a2) ++ markW V a3)) ++ markW V a4)[((([objH h0 r] ++ [(r, refC V 7 (va_up (va_up (va_up (va_up (fun _ => none) 0 (some (a0 0))) 1 (some (a1 0))) 2 (some (a2 0))) 3 (some (a3 0))))]) ++ (((markW V a0 ++ markW V a1) ++ markW V a2) ++ markW V a3))).length]? = some (a4 0, cellM (Va V a4) 0 mB0 0) := app_at
  rw [List.append_assoc] at hP hD hv1
  refine va_astq (D := vD V) (cl := vwCl) (tys := vT V) (ws := ([objH h0 r] ++ [(r, refC V 7 (va_up (va_up (va_up (va_up (fun _ => none) 0 (some (a0 0))) 1 (some (a1 0))) 2 (some (a2 0))) 3 (some (a3 0))))]) ++ ((((markW V a0 ++ markW V a1) ++ markW V a2) ++ markW V a3) ++ markW V a4)) (r := (RX2, TX2, 9)) hx hb hK hP hD hS [objH h0 r].length 3 _ 2 (a := r) (f := (va_up (va_up (va_up (va_up (fun _ => none) 0 (some (a0 0))) 1 (some (a1 0))) 2 (some (a2 0))) 3 (some (a3 0)))) mid_at rfl hv1 rfl (vp_in_nI (n := 4) (by decide) (by decide)) dX1_init_33 (fun H locs hP hD hS => ?_)
  rw [mid_set] at hP hD
  have hP : va_P (vD V) vwCl (([objH h0 r] ++ [(r, refC V 7 (va_up (va_up (va_up (va_up (va_up (fun _ => none) 0 (some (a0 0))) 1 (some (a1 0))) 2 (some (a2 0))) 3 (some (a3 0))) 4 (some (a4 0))))]) ++ ((((markW V a0 ++ markW V a1) ++ markW V a2) ++ markW V a3) ++ markW V a4)) H := hP
  have hD : va_D A (([objH h0 r] ++ [(r, refC V 7 (va_up (va_up (va_up (va_up (va_up (fun _ => none) 0 (some (a0 0))) 1 (some (a1 0))) 2 (some (a2 0))) 3 (some (a3 0))) 4 (some (a4 0))))]) ++ ((((markW V a0 ++ markW V a1) ++ markW V a2) ++ markW V a3) ++ markW V a4)) := hD
  refine lv_iinc (k := 0) (v := (5 : Int32)) (lv' := [(1, .int (5 : Int32)), (0, .ref h0)]) hx hb dX1_init_34 hl rfl (by decide) (by decide) rfl (fun ls hl => ?_)
  refine lv_goto (tgt := 15) hx hb dX1_init_37 (by decide) ?_
  refine lv_iload_n hx hb dX1_init_15 rfl (lv_at hl 0 rfl) ?_
  refine lv_bipush (v := (7 : Int32)) hx hb dX1_init_16 (by decide) ?_
  refine lv_icmp_ge (tgt := 40) hx hb dX1_init_18 (by decide) (fun c => absurd c (by decide)) (fun _ => ?_)
  refine lv_aload_n hx hb dX1_init_21 rfl (lv_at hl 1 rfl) ?_
  refine va_get (D := vD V) (ci := 1) (v := .ref r) (C := RX1) (T := TX1) (N := 3) hx hb hts gd_X1 hown hK hP 0 rfl rfl 0 (by decide) (hts _ wd_154) (fun _ h9 => h9) rfl dX1_init_22 ?_
  refine lv_iload_n hx hb dX1_init_25 rfl (lv_at hl 0 rfl) ?_
  refine va_new (ci := 2) (fs := [.null, .null, .int 0, .int 0, .null, .null, .null, .null, .null]) (C := RX2) (T := TX2) (N := 9) hx hb hts gd_X2 tyX2 tyX2_ok hown (hts _ wd_151) (hts _ wd_33) (hts _ wd_17) hK hP hD hS hA rfl (fsd_X2) (Nat.le_of_ble_eq_true rfl) (Nat.le_of_ble_eq_true rfl) dX1_init_26 (fun qm H hP hD hS => ?_)
  refine lv_dup hx hb dX1_init_29 rfl ?_
  have hPc := P_last hP
  have hDc := D_last hD
  have hFc := F_last hD hS hA
  refine va_callv (va_runIN (As := []) (rest := [.ref qm, .int (5 : Int32), .ref r]) (n := 0) ⟨hx, hb, hml, hown, hts⟩ (cX2_init_new l V qm H.size) ⟨va_cnB 0 hts (gd_goodIn wd_36) rfl rfl rfl hN.2.2.2.1 (hts _ wd_17) (by decide +kernel) ⟨Nat.le_of_ble_eq_true rfl, Nat.le_of_ble_eq_true rfl⟩, rfl, hts _ wd_35⟩ ⟨fun a U g mk q => by obtain ⟨q0, q1, qP, qK, qD, qN⟩ := q; exact ⟨q0, q1, qP, va_K.moved (u := U) (U := U.calling g mk a) (Vm.Alike.refl U.vm) qK, qD, qN.blind⟩, fun U hU hW => ⟨rfl, by rw [hU], by rw [hU]; exact hPc, va_K.moved hW.alike hK, hDc.weaken (fun _ _ _ _ => trivial), Nst.warm hW hN⟩⟩ rfl rfl hl.1 rfl (lv_room (Nat.le_of_ble_eq_true rfl)) dX1_init_30 ⟨(Nat.le_of_ble_eq_true rfl), (Nat.le_of_ble_eq_true rfl)⟩) hS (fun q _ h => hFc q h) hFc (fun a5 t H1 locs ht hvm hw hB hz1 hk1 hS => ?_)
  subst hw
  obtain ⟨hP1, hK1, hD1⟩ := hB
  rw [ht] at hP1
  obtain ⟨hP, hD⟩ := join_last hP hD hk1 hFc hP1 hD1
  generalize H1 = H at hP hS ⊢
  have hv1 : ((([objH h0 r] ++ [(r, refC V 7 (va_up (va_up (va_up (va_up (va_up (fun _ => none) 0 (some (a0 0))) 1 (some (a1 0))) 2 (some (a2 0))) 3 (some (a3 0))) 4 (some (a4 0))))]) ++ ((((markW V a0 ++ markW V a1) ++ markW V a2) ++ markW V a3) ++ markW V a4)) ++ markW V a5)[((([objH h0 r] ++ [(r, refC V 7 (va_up (va_up (va_up (va_up (va_up (fun _ => none) 0 (some (a0 0))) 1 (some (a1 0))) 2 (some (a2 0))) 3 (some (a3 0))) 4 (some (a4 0))))]) ++ ((((markW V a0 ++ markW V a1) ++ markW V a2) ++ markW V a3) ++ markW V a4))).length]? = some (a5 0, cellM (Va V a5) 0 mB0 0) := app_at
  rw [List.append_assoc] at hP hD hv1
  refine va_astq (D := vD V) (cl := vwCl) (tys := vT V) (ws := ([objH h0 r] ++ [(r, refC V 7 (va_up (va_up (va_up (va_up (va_up (fun _ => none) 0 (some (a0 0))) 1 (some (a1 0))) 2 (some (a2 0))) 3 (some (a3 0))) 4 (some (a4 0))))]) ++ (((((markW V a0 ++ markW V a1) ++ markW V a2) ++ markW V a3) ++ markW V a4) ++ markW V a5)) (r := (RX2, TX2, 9)) hx hb hK hP hD hS [objH h0 r].length 3 _ 2 (a := r) (f := (va_up (va_up (va_up (va_up (va_up (fun _ => none) 0 (some (a0 0))) 1 (some (a1 0))) 2 (some (a2 0))) 3 (some (a3 0))) 4 (some (a4 0)))) mid_at rfl hv1 rfl (vp_in_nI (n := 5) (by decide) (by decide)) dX1_init_33 (fun H locs hP hD hS => ?_)
  rw [mid_set] at hP hD
  have hP : va_P (vD V) vwCl (([objH h0 r] ++ [(r, refC V 7 (va_up (va_up (va_up (va_up (va_up (va_up (fun _ => none) 0 (some (a0 0))) 1 (some (a1 0))) 2 (some (a2 0))) 3 (some (a3 0))) 4 (some (a4 0))) 5 (some (a5 0))))]) ++ (((((markW V a0 ++ markW V a1) ++ markW V a2) ++ markW V a3) ++ markW V a4) ++ markW V a5)) H := hP
  have hD : va_D A (([objH h0 r] ++ [(r, refC V 7 (va_up (va_up (va_up (va_up (va_up (va_up (fun _ => none) 0 (some (a0 0))) 1 (some (a1 0))) 2 (some (a2 0))) 3 (some (a3 0))) 4 (some (a4 0))) 5 (some (a5 0))))]) ++ (((((markW V a0 ++ markW V a1) ++ markW V a2) ++ markW V a3) ++ markW V a4) ++ markW V a5)) := hD
  refine lv_iinc (k := 0) (v := (6 : Int32)) (lv' := [(1, .int (6 : Int32)), (0, .ref h0)]) hx hb dX1_init_34 hl rfl (by decide) (by decide) rfl (fun ls hl => ?_)
  refine lv_goto (tgt := 15) hx hb dX1_init_37 (by decide) ?_
  refine lv_iload_n hx hb dX1_init_15 rfl (lv_at hl 0 rfl) ?_
  refine lv_bipush (v := (7 : Int32)) hx hb dX1_init_16 (by decide) ?_
  refine lv_icmp_ge (tgt := 40) hx hb dX1_init_18 (by decide) (fun c => absurd c (by decide)) (fun _ => ?_)
  refine lv_aload_n hx hb dX1_init_21 rfl (lv_at hl 1 rfl) ?_
  refine va_get (D := vD V) (ci := 1) (v := .ref r) (C := RX1) (T := TX1) (N := 3) hx hb hts gd_X1 hown hK hP 0 rfl rfl 0 (by decide) (hts _ wd_154) (fun _ h9 => h9) rfl dX1_init_22 ?_
  refine lv_iload_n hx hb dX1_init_25 rfl (lv_at hl 0 rfl) ?_
  refine va_new (ci := 2) (fs := [.null, .null, .int 0, .int 0, .null, .null, .null, .null, .null]) (C := RX2) (T := TX2) (N := 9) hx hb hts gd_X2 tyX2 tyX2_ok hown (hts _ wd_151) (hts _ wd_33) (hts _ wd_17) hK hP hD hS hA rfl (fsd_X2) (Nat.le_of_ble_eq_true rfl) (Nat.le_of_ble_eq_true rfl) dX1_init_26 (fun qm H hP hD hS => ?_)
  refine lv_dup hx hb dX1_init_29 rfl ?_
  have hPc := P_last hP
  have hDc := D_last hD
  have hFc := F_last hD hS hA
  refine va_callv (va_runIN (As := []) (rest := [.ref qm, .int (6 : Int32), .ref r]) (n := 0) ⟨hx, hb, hml, hown, hts⟩ (cX2_init_new l V qm H.size) ⟨va_cnB 0 hts (gd_goodIn wd_36) rfl rfl rfl hN.2.2.2.1 (hts _ wd_17) (by decide +kernel) ⟨Nat.le_of_ble_eq_true rfl, Nat.le_of_ble_eq_true rfl⟩, rfl, hts _ wd_35⟩ ⟨fun a U g mk q => by obtain ⟨q0, q1, qP, qK, qD, qN⟩ := q; exact ⟨q0, q1, qP, va_K.moved (u := U) (U := U.calling g mk a) (Vm.Alike.refl U.vm) qK, qD, qN.blind⟩, fun U hU hW => ⟨rfl, by rw [hU], by rw [hU]; exact hPc, va_K.moved hW.alike hK, hDc.weaken (fun _ _ _ _ => trivial), Nst.warm hW hN⟩⟩ rfl rfl hl.1 rfl (lv_room (Nat.le_of_ble_eq_true rfl)) dX1_init_30 ⟨(Nat.le_of_ble_eq_true rfl), (Nat.le_of_ble_eq_true rfl)⟩) hS (fun q _ h => hFc q h) hFc (fun a6 t H1 locs ht hvm hw hB hz1 hk1 hS => ?_)
  subst hw
  obtain ⟨hP1, hK1, hD1⟩ := hB
  rw [ht] at hP1
  obtain ⟨hP, hD⟩ := join_last hP hD hk1 hFc hP1 hD1
  generalize H1 = H at hP hS ⊢
  have hv1 : ((([objH h0 r] ++ [(r, refC V 7 (va_up (va_up (va_up (va_up (va_up (va_up (fun _ => none) 0 (some (a0 0))) 1 (some (a1 0))) 2 (some (a2 0))) 3 (some (a3 0))) 4 (some (a4 0))) 5 (some (a5 0))))]) ++ (((((markW V a0 ++ markW V a1) ++ markW V a2) ++ markW V a3) ++ markW V a4) ++ markW V a5)) ++ markW V a6)[((([objH h0 r] ++ [(r, refC V 7 (va_up (va_up (va_up (va_up (va_up (va_up (fun _ => none) 0 (some (a0 0))) 1 (some (a1 0))) 2 (some (a2 0))) 3 (some (a3 0))) 4 (some (a4 0))) 5 (some (a5 0))))]) ++ (((((markW V a0 ++ markW V a1) ++ markW V a2) ++ markW V a3) ++ markW V a4) ++ markW V a5))).length]? = some (a6 0, cellM (Va V a6) 0 mB0 0) := app_at
  rw [List.append_assoc] at hP hD hv1
  refine va_astq (D := vD V) (cl := vwCl) (tys := vT V) (ws := ([objH h0 r] ++ [(r, refC V 7 (va_up (va_up (va_up (va_up (va_up (va_up (fun _ => none) 0 (some (a0 0))) 1 (some (a1 0))) 2 (some (a2 0))) 3 (some (a3 0))) 4 (some (a4 0))) 5 (some (a5 0))))]) ++ ((((((markW V a0 ++ markW V a1) ++ markW V a2) ++ markW V a3) ++ markW V a4) ++ markW V a5) ++ markW V a6)) (r := (RX2, TX2, 9)) hx hb hK hP hD hS [objH h0 r].length 3 _ 2 (a := r) (f := (va_up (va_up (va_up (va_up (va_up (va_up (fun _ => none) 0 (some (a0 0))) 1 (some (a1 0))) 2 (some (a2 0))) 3 (some (a3 0))) 4 (some (a4 0))) 5 (some (a5 0)))) mid_at rfl hv1 rfl (vp_in_nI (n := 6) (by decide) (by decide)) dX1_init_33 (fun H locs hP hD hS => ?_)
  rw [mid_set] at hP hD
  have hP : va_P (vD V) vwCl (([objH h0 r] ++ [(r, refC V 7 (va_up (va_up (va_up (va_up (va_up (va_up (va_up (fun _ => none) 0 (some (a0 0))) 1 (some (a1 0))) 2 (some (a2 0))) 3 (some (a3 0))) 4 (some (a4 0))) 5 (some (a5 0))) 6 (some (a6 0))))]) ++ ((((((markW V a0 ++ markW V a1) ++ markW V a2) ++ markW V a3) ++ markW V a4) ++ markW V a5) ++ markW V a6)) H := hP
  have hD : va_D A (([objH h0 r] ++ [(r, refC V 7 (va_up (va_up (va_up (va_up (va_up (va_up (va_up (fun _ => none) 0 (some (a0 0))) 1 (some (a1 0))) 2 (some (a2 0))) 3 (some (a3 0))) 4 (some (a4 0))) 5 (some (a5 0))) 6 (some (a6 0))))]) ++ ((((((markW V a0 ++ markW V a1) ++ markW V a2) ++ markW V a3) ++ markW V a4) ++ markW V a5) ++ markW V a6)) := hD
  refine lv_iinc (k := 0) (v := (7 : Int32)) (lv' := [(1, .int (7 : Int32)), (0, .ref h0)]) hx hb dX1_init_34 hl rfl (by decide) (by decide) rfl (fun ls hl => ?_)
  refine lv_goto (tgt := 15) hx hb dX1_init_37 (by decide) ?_
  refine lv_iload_n hx hb dX1_init_15 rfl (lv_at hl 0 rfl) ?_
  refine lv_bipush (v := (7 : Int32)) hx hb dX1_init_16 (by decide) ?_
  refine lv_icmp_ge (tgt := 40) hx hb dX1_init_18 (by decide) (fun _ => ?_) (fun c => absurd (by decide) c)
  refine W.widen (k := 148) (n := 3871) (Nat.le_of_ble_eq_true rfl) (Nat.le_of_ble_eq_true rfl) ?_
  have hP9 : va_P (vD V) vwCl (histW V h0 r (f7 (fun k => match k with | 0 => a0 | 1 => a1 | 2 => a2 | 3 => a3 | 4 => a4 | 5 => a5 | 6 => a6 | _ => a0)) (fun k => match k with | 0 => a0 | 1 => a1 | 2 => a2 | 3 => a3 | 4 => a4 | 5 => a5 | 6 => a6 | _ => a0)) H := hP
  have hD9 : va_D A (histW V h0 r (f7 (fun k => match k with | 0 => a0 | 1 => a1 | 2 => a2 | 3 => a3 | 4 => a4 | 5 => a5 | 6 => a6 | _ => a0)) (fun k => match k with | 0 => a0 | 1 => a1 | 2 => a2 | 3 => a3 | 4 => a4 | 5 => a5 | 6 => a6 | _ => a0)) := hD
  exact W.vret hx hb hr (fun t ht hW => ⟨⟨(r, (fun k => match k with | 0 => a0 | 1 => a1 | 2 => a2 | 3 => a3 | 4 => a4 | 5 => a5 | 6 => a6 | _ => a0)), rfl, trivial, by rw [ht]; exact hP9, va_K.moved hW.alike hK, hD9⟩, hS.F ht⟩) hS.2.2 dX1_init_40
