set_option maxRecDepth 100000 in
theorem wd_37 : Cond.methodLink RX2 3 objectInit ∈ lw_gd := gd_of 37 rfl rfl
set_option maxRecDepth 100000 in
theorem wd_38 : Cond.classLink RX2 9 RX4 ∈ lw_gd := gd_of 38 rfl rfl
set_option maxRecDepth 100000 in
theorem wd_39 : Cond.instantiable RX4 10 ∈ lw_gd := gd_of 39 rfl rfl
set_option maxRecDepth 100000 in
theorem wd_41 : Cond.instanceMethod yX4_init ∈ lw_gd := gd_of 41 rfl rfl
set_option maxRecDepth 100000 in
theorem wd_42 : Cond.code yX4_init cX4_init 1 (none) ∈ lw_gd := gd_of 42 rfl rfl
set_option maxRecDepth 100000 in
theorem wd_85 : Cond.classLink RX2 18 RX0 ∈ lw_gd := gd_of 85 rfl rfl
set_option maxRecDepth 100000 in
theorem wd_86 : Cond.instantiable RX0 5 ∈ lw_gd := gd_of 86 rfl rfl
set_option maxRecDepth 100000 in
theorem wd_88 : Cond.instanceMethod yX0_init ∈ lw_gd := gd_of 88 rfl rfl
set_option maxRecDepth 100000 in
theorem wd_89 : Cond.code yX0_init cX0_init 1 (none) ∈ lw_gd := gd_of 89 rfl rfl
/-! the constructors that make objects -/
theorem last_at {α : Type} {ws : List α} {x : α} : (ws ++ [x])[ws.length]? = some x := by simp
theorem P_last {D : va_G} {cl : List vw_C} {ws : va_W} {x : Nat × va_E} {H : Heap} (hP : va_P D cl (ws ++ [x]) H) : va_P D cl [x] H := hP.sub [ws.length] (by simp)
theorem D_last {A : Nat → Prop} {ws : va_W} {x : Nat × va_E} (hD : va_D A (ws ++ [x])) : va_D A [x] := hD.sub [ws.length] (by simp [va_nd]) (by simp)
theorem F_last {A0 : Nat → Prop} {ws : va_W} {x : Nat × va_E} {H0 H : Heap} {locs : List Loc} (hD : va_D A0 (ws ++ [x])) (hS : va_S A0 H0 H locs) (hA : ∀ q, H0.size ≤ q → A0 q) : ∀ q, va_A [x] H.size q → A0 q := va_free hD hS hA [ws.length] (by simp)
theorem nd_of_nodup : ∀ (l : List Nat), l.Nodup → va_nd l = true
  | [], _ => rfl
  | a :: l, h => by
    have h1 := List.nodup_cons.mp h
    simp only [va_nd, Bool.and_eq_true, decide_eq_true_eq]
    exact ⟨h1.1, nd_of_nodup l h1.2⟩
theorem join_last {A0 : Nat → Prop} {D : va_G} {cl : List vw_C} {ws w1 : va_W} {x : Nat × va_E} {H H1 : Heap} (hP : va_P D cl (ws ++ [x]) H) (hD : va_D A0 (ws ++ [x])) (hk : ∀ q : Nat, q < H.size → ¬ va_A [x] H.size q → H1[q]? = H[q]?) (hF : ∀ q, va_A [x] H.size q → A0 q) (hP1 : va_P D cl w1 H1) (hD1 : va_D (va_A [x] H.size) w1) : va_P D cl (ws ++ w1) H1 ∧ va_D A0 (ws ++ w1) := by
  refine va_join (wc := [x]) (wr := ws) hP hD [ws.length] (List.range ws.length) (by simp) ?_ (nd_of_nodup _ List.nodup_range) (fun i hi => ?_) hk hF hP1 hD1
  · refine List.ext_getElem? fun k => ?_
    rw [List.getElem?_map, List.getElem?_map]
    by_cases h : k < ws.length
    · rw [List.getElem?_range h]
      show some ((ws ++ [x])[k]?) = _
      rw [List.getElem?_append_left h, List.getElem?_eq_getElem h]
      rfl
    · rw [List.getElem?_eq_none (by rw [List.length_range]; omega), List.getElem?_eq_none (by omega)]
      rfl
  · have := List.mem_range.mp hi
    simp
    omega
theorem P_mem {D : va_G} {cl : List vw_C} {ws : va_W} {H : Heap} : va_P D cl ws H ↔ ∀ q ∈ ws, va_at D cl q H := ⟨fun h q hq => by
    obtain ⟨i, hi⟩ := List.getElem?_of_mem hq
    exact h i q hi, fun h k q hk => h q (List.mem_of_getElem? hk)⟩
theorem fsd_X0 : ∀ j, j < 5 → defaultValue (tyX0 j) = vp_V [.int 0, .null, .null, .null, .null] j := fun j hj => by
  rcases (show j = 0 ∨ j = 1 ∨ j = 2 ∨ j = 3 ∨ j = 4 by omega) with rfl | rfl | rfl | rfl | rfl <;> rfl
theorem fsd_X1 : ∀ j, j < 3 → defaultValue (tyX1 j) = vp_V [.null, .int 0, .int 0] j := fun j hj => by
  rcases (show j = 0 ∨ j = 1 ∨ j = 2 by omega) with rfl | rfl | rfl <;> rfl
theorem fsd_X2 : ∀ j, j < 9 → defaultValue (tyX2 j) = vp_V [.null, .null, .int 0, .int 0, .null, .null, .null, .null, .null] j := fun j hj => by
  rcases (show j = 0 ∨ j = 1 ∨ j = 2 ∨ j = 3 ∨ j = 4 ∨ j = 5 ∨ j = 6 ∨ j = 7 ∨ j = 8 by omega) with rfl | rfl | rfl | rfl | rfl | rfl | rfl | rfl | rfl <;> rfl
theorem fsd_X3 : ∀ j, j < 6 → defaultValue (tyX3 j) = vp_V [.null, .int 0, .int 0, .int 0, .null, .int 0] j := fun j hj => by
  rcases (show j = 0 ∨ j = 1 ∨ j = 2 ∨ j = 3 ∨ j = 4 ∨ j = 5 by omega) with rfl | rfl | rfl | rfl | rfl | rfl <;> rfl
theorem fsd_X4 : ∀ j, j < 10 → defaultValue (tyX4 j) = vp_V [.int 0, .null, .null, .null, .null, .null, .null, .null, .null, .null] j := fun j hj => by
  rcases (show j = 0 ∨ j = 1 ∨ j = 2 ∨ j = 3 ∨ j = 4 ∨ j = 5 ∨ j = 6 ∨ j = 7 ∨ j = 8 ∨ j = 9 by omega) with rfl | rfl | rfl | rfl | rfl | rfl | rfl | rfl | rfl | rfl <;> rfl
theorem fsd_X5 : ∀ j, j < 6 → defaultValue (tyX5 j) = vp_V [.null, .null, .null, .null, .null, .null] j := fun j hj => by
  rcases (show j = 0 ∨ j = 1 ∨ j = 2 ∨ j = 3 ∨ j = 4 ∨ j = 5 by omega) with rfl | rfl | rfl | rfl | rfl | rfl <;> rfl
theorem dX2_init_0 : decode cX2_init 0 = .ok (.aload_n 0, 1) := by decide +kernel
theorem dX2_init_1 : decode cX2_init 1 = .ok (.invokespecial 3, 3) := by decide +kernel
theorem dX2_init_4 : decode cX2_init 4 = .ok (.aload_n 0, 1) := by decide +kernel
theorem dX2_init_5 : decode cX2_init 5 = .ok (.new 9, 3) := by decide +kernel
theorem dX2_init_8 : decode cX2_init 8 = .ok (.dup, 1) := by decide +kernel
theorem dX2_init_9 : decode cX2_init 9 = .ok (.invokespecial 11, 3) := by decide +kernel
theorem dX2_init_12 : decode cX2_init 12 = .ok (.putfield 12, 3) := by decide +kernel
theorem dX2_init_15 : decode cX2_init 15 = .ok (.aload_n 0, 1) := by decide +kernel
theorem dX2_init_16 : decode cX2_init 16 = .ok (.new 18, 3) := by decide +kernel
theorem dX2_init_19 : decode cX2_init 19 = .ok (.dup, 1) := by decide +kernel
theorem dX2_init_20 : decode cX2_init 20 = .ok (.invokespecial 20, 3) := by decide +kernel
theorem dX2_init_23 : decode cX2_init 23 = .ok (.putfield 21, 3) := by decide +kernel
theorem dX2_init_26 : decode cX2_init 26 = .ok (.aload_n 0, 1) := by decide +kernel
theorem dX2_init_27 : decode cX2_init 27 = .ok (.bipush 50, 2) := by decide +kernel
theorem dX2_init_29 : decode cX2_init 29 = .ok (.putfield 25, 3) := by decide +kernel
theorem dX2_init_32 : decode cX2_init 32 = .ok (.aload_n 0, 1) := by decide +kernel
theorem dX2_init_33 : decode cX2_init 33 = .ok (.iconst 2, 1) := by decide +kernel
theorem dX2_init_34 : decode cX2_init 34 = .ok (.putfield 29, 3) := by decide +kernel
theorem dX2_init_37 : decode cX2_init 37 = .ok (.aload_n 0, 1) := by decide +kernel
theorem dX2_init_38 : decode cX2_init 38 = .ok (.bipush 24, 2) := by decide +kernel
theorem dX2_init_40 : decode cX2_init 40 = .ok (.newarray .int, 2) := by decide +kernel
theorem dX2_init_42 : decode cX2_init 42 = .ok (.putfield 32, 3) := by decide +kernel
theorem dX2_init_45 : decode cX2_init 45 = .ok (.aload_n 0, 1) := by decide +kernel
theorem dX2_init_46 : decode cX2_init 46 = .ok (.bipush 24, 2) := by decide +kernel
theorem dX2_init_48 : decode cX2_init 48 = .ok (.newarray .int, 2) := by decide +kernel
theorem dX2_init_50 : decode cX2_init 50 = .ok (.putfield 36, 3) := by decide +kernel
theorem dX2_init_53 : decode cX2_init 53 = .ok (.aload_n 0, 1) := by decide +kernel
theorem dX2_init_54 : decode cX2_init 54 = .ok (.bipush 24, 2) := by decide +kernel
theorem dX2_init_56 : decode cX2_init 56 = .ok (.newarray .int, 2) := by decide +kernel
theorem dX2_init_58 : decode cX2_init 58 = .ok (.putfield 39, 3) := by decide +kernel
theorem dX2_init_61 : decode cX2_init 61 = .ok (.aload_n 0, 1) := by decide +kernel
theorem dX2_init_62 : decode cX2_init 62 = .ok (.bipush 24, 2) := by decide +kernel
theorem dX2_init_64 : decode cX2_init 64 = .ok (.newarray .int, 2) := by decide +kernel
theorem dX2_init_66 : decode cX2_init 66 = .ok (.putfield 42, 3) := by decide +kernel
theorem dX2_init_69 : decode cX2_init 69 = .ok (.aload_n 0, 1) := by decide +kernel
theorem dX2_init_70 : decode cX2_init 70 = .ok (.bipush 24, 2) := by decide +kernel
theorem dX2_init_72 : decode cX2_init 72 = .ok (.newarray .int, 2) := by decide +kernel
theorem dX2_init_74 : decode cX2_init 74 = .ok (.putfield 45, 3) := by decide +kernel
theorem dX2_init_77 : decode cX2_init 77 = .ok (.return_, 1) := by decide +kernel
set_option maxHeartbeats 4000000 in
set_option maxRecDepth 100000 in
/-- Market(): a market without tasks -/
theorem cX2_init_new (l : Launch) (V : VT) (h0 sz : Nat) : Met l yX2_init (Cond.code yX2_init cX2_init 1 none :: lw_gd) ({ frames := 2, cells := 20, slots := 543, locals := 32 } : Room) (va_Pc [.ref h0] (fun U => U.heap.size = sz ∧ va_P (vD V) vwCl [(h0, .inr (2, [.null, .null, .int 0, .int 0, .null, .null, .null, .null, .null]))] U.heap ∧ va_K (vD V) vwCl (vT V) U ∧ va_D (fun _ => True) [(h0, .inr (2, [.null, .null, .int 0, .int 0, .null, .null, .null, .null, .null]))] ∧ Nst U)) (va_Qv (fun a : Nat → Nat => a 0 = h0) (fun a t => va_P (vD V) vwCl (markW V a) t.heap ∧ va_K (vD V) vwCl (vT V) t ∧ va_D (va_A [(h0, .inr (2, [.null, .null, .int 0, .int 0, .null, .null, .null, .null, .null]))] sz) (markW V a)) (va_A [(h0, .inr (2, [.null, .null, .int 0, .int 0, .null, .null, .null, .null, .null]))] sz)) 20 543 (va_A [(h0, .inr (2, [.null, .null, .int 0, .int 0, .null, .null, .null, .null, .null]))] sz) := by
  refine Met.ofW (cc := cX2_init) (maxL := 1) (ret := none) (by decide) rfl ?_
  intro p e s m args below meth c s₁ B hml hv
  obtain ⟨rfl, hsz, hP, hK, hD0, hN⟩ := hv
  have hx := B.exec
  have hb := B.bytes
  have hr := B.returns
  have hts0 := atoms_spec (ws := Cond.code yX2_init cX2_init 1 none :: lw_gd) B.pre
  have hts : ∀ w ∈ lw_gd, w.before #[Value.ref h0] s = true := fun w hw => hts0 w (List.mem_cons_of_mem _ hw)
  have hown : s.vm.findClass RX2 = some m.cls := findClass_of_methodNamed B.named
  have hlocks := B.notSynchronized
  have hin : meth.name = "<init>" := (name_of_methodNamed B.named B.method).1
  subst hsz
  have hD := hD0.self (sz := s.heap.size)
  generalize hAe : va_A [(h0, .inr (2, [.null, .null, .int 0, .int 0, .null, .null, .null, .null, .null]))] s.heap.size = A at hD ⊢
  have hA : ∀ q : Nat, s.heap.size ≤ q → A q := fun q h => by rw [← hAe]; exact Or.inr h
  have hS : va_S A s.heap s.heap [] := va_S.rf
  have hl := lv_entry ([.ref h0]) (n := 1) (Nat.le_of_ble_eq_true rfl)
  rw [lg_entry_eq]
  generalize (lg_sl ([.ref h0]) ++ List.replicate (1 - (lg_sl ([.ref h0])).length) Slot.unset).toArray = ls at hl ⊢
  have hl : lv_has ls 1 [(0, .ref h0)] := hl
  refine lv_aload_n hx hb dX2_init_0 rfl (lv_at hl 0 rfl) ?_
  refine W.objInit hx hb hown (hts _ wd_37) (hts _ wd_30) (hts _ wd_31) rfl (by rw [hml]; exact hl.1) rfl dX2_init_1 (Nat.le_of_ble_eq_true rfl) (Nat.le_of_ble_eq_true rfl) ?_
  refine W.eq (g2 := F0 m 4 ls []) rfl ?_
  refine lv_aload_n hx hb dX2_init_4 rfl (lv_at hl 0 rfl) ?_
  refine va_new (ci := 4) (fs := [.int 0, .null, .null, .null, .null, .null, .null, .null, .null, .null]) (C := RX4) (T := TX4) (N := 10) hx hb hts gd_X4 tyX4 tyX4_ok hown (hts _ wd_38) (hts _ wd_39) (hts _ wd_18) hK hP hD hS hA rfl (fsd_X4) (Nat.le_of_ble_eq_true rfl) (Nat.le_of_ble_eq_true rfl) dX2_init_5 (fun qp H hP hD hS => ?_)
  refine lv_dup hx hb dX2_init_8 rfl ?_
  have hPc := P_last hP
  have hDc := D_last hD
  have hFc := F_last hD hS hA
  refine va_callv (va_runIN (As := []) (rest := [.ref qp, .ref h0]) (n := 0) ⟨hx, hb, hml, hown, hts⟩ (cX4_init_new l V qp H.size) ⟨va_cnB 0 hts (gd_goodIn wd_42) rfl rfl rfl hN.2.1 (hts _ wd_18) (by decide +kernel) ⟨Nat.le_of_ble_eq_true rfl, Nat.le_of_ble_eq_true rfl⟩, rfl, hts _ wd_41⟩ ⟨fun a U g mk q => by obtain ⟨q0, q1, qP, qK, qD⟩ := q; exact ⟨q0, q1, qP, va_K.moved (u := U) (U := U.calling g mk a) (Vm.Alike.refl U.vm) qK, qD⟩, fun U hU hW => ⟨rfl, by rw [hU], by rw [hU]; exact hPc, va_K.moved hW.alike hK, hDc.weaken (fun _ _ _ _ => trivial)⟩⟩ rfl rfl hl.1 rfl (lv_room (Nat.le_of_ble_eq_true rfl)) dX2_init_9 ⟨(Nat.le_of_ble_eq_true rfl), (Nat.le_of_ble_eq_true rfl)⟩) hS (fun q _ h => hFc q h) hFc (fun a1 t H1 locs ht hvm hw hB hz1 hk1 hS => ?_)
  subst hw
  obtain ⟨hP1, hK1, hD1⟩ := hB
  rw [ht] at hP1
  obtain ⟨hP, hD⟩ := join_last hP hD hk1 hFc hP1 hD1
  generalize H1 = H at hP hS ⊢
  refine va_putF (D := vD V) (ci := 2) (v := .ref (a1 1)) (ty := (.object "SlackMarket$Plan")) (C := RX2) (T := TX2) (N := 9) hx hb hts gd_X2 tyX2 tyX2_ok nmX2 hown hK hP hD hS 0 rfl rfl 0 (by decide) (hts _ wd_113) (fun _ h9 => h9) rfl hin rfl (by decide +kernel) rfl rfl (Nat.le_of_ble_eq_true rfl) dX2_init_12 (fun H locs hP hD hS => ?_)
  have hP : va_P (vD V) vwCl ([(h0, .inr (2, [.ref (a1 1), .null, .int 0, .int 0, .null, .null, .null, .null, .null]))] ++ planW V a1) H := hP
  have hD : va_D A ([(h0, .inr (2, [.ref (a1 1), .null, .int 0, .int 0, .null, .null, .null, .null, .null]))] ++ planW V a1) := hD
  refine lv_aload_n hx hb dX2_init_15 rfl (lv_at hl 0 rfl) ?_
  refine va_new (ci := 0) (fs := [.int 0, .null, .null, .null, .null]) (C := RX0) (T := TX0) (N := 5) hx hb hts gd_X0 tyX0 tyX0_ok hown (hts _ wd_85) (hts _ wd_86) (hts _ wd_19) hK hP hD hS hA rfl (fsd_X0) (Nat.le_of_ble_eq_true rfl) (Nat.le_of_ble_eq_true rfl) dX2_init_16 (fun qc H hP hD hS => ?_)
  refine lv_dup hx hb dX2_init_19 rfl ?_
  have hPc := P_last hP
  have hDc := D_last hD
  have hFc := F_last hD hS hA
  refine va_callv (va_runIN (As := []) (rest := [.ref qc, .ref h0]) (n := 0) ⟨hx, hb, hml, hown, hts⟩ (cX0_init_new l V qc H.size) ⟨va_cnB 0 hts (gd_goodIn wd_89) rfl rfl rfl hN.2.2.1 (hts _ wd_19) (by decide +kernel) ⟨Nat.le_of_ble_eq_true rfl, Nat.le_of_ble_eq_true rfl⟩, rfl, hts _ wd_88⟩ ⟨fun a U g mk q => by obtain ⟨q0, q1, qP, qK, qD⟩ := q; exact ⟨q0, q1, qP, va_K.moved (u := U) (U := U.calling g mk a) (Vm.Alike.refl U.vm) qK, qD⟩, fun U hU hW => ⟨rfl, by rw [hU], by rw [hU]; exact hPc, va_K.moved hW.alike hK, hDc.weaken (fun _ _ _ _ => trivial)⟩⟩ rfl rfl hl.1 rfl (lv_room (Nat.le_of_ble_eq_true rfl)) dX2_init_20 ⟨(Nat.le_of_ble_eq_true rfl), (Nat.le_of_ble_eq_true rfl)⟩) hS (fun q _ h => hFc q h) hFc (fun a2 t H1 locs ht hvm hw hB hz1 hk1 hS => ?_)
  subst hw
  obtain ⟨hP1, hK1, hD1⟩ := hB
  rw [ht] at hP1
  obtain ⟨hP, hD⟩ := join_last hP hD hk1 hFc hP1 hD1
  generalize H1 = H at hP hS ⊢
  refine va_putF (D := vD V) (ci := 2) (v := .ref (a2 2)) (ty := (.object "SlackMarket$Contracts")) (C := RX2) (T := TX2) (N := 9) hx hb hts gd_X2 tyX2 tyX2_ok nmX2 hown hK hP hD hS 0 rfl rfl 1 (by decide) (hts _ wd_115) (fun _ h9 => h9) rfl hin rfl (by decide +kernel) rfl rfl (Nat.le_of_ble_eq_true rfl) dX2_init_23 (fun H locs hP hD hS => ?_)
  have hP : va_P (vD V) vwCl (([(h0, .inr (2, [.ref (a1 1), .ref (a2 2), .int 0, .int 0, .null, .null, .null, .null, .null]))] ++ planW V a1) ++ contW V a2) H := hP
  have hD : va_D A (([(h0, .inr (2, [.ref (a1 1), .ref (a2 2), .int 0, .int 0, .null, .null, .null, .null, .null]))] ++ planW V a1) ++ contW V a2) := hD
  refine lv_aload_n hx hb dX2_init_26 rfl (lv_at hl 0 rfl) ?_
  refine lv_bipush (v := (50 : Int32)) hx hb dX2_init_27 (by decide) ?_
  refine va_put (D := vD V) (ci := 2) (v := .int (50 : Int32)) (ty := .int) (C := RX2) (T := TX2) (N := 9) hx hb hts gd_X2 tyX2 tyX2_ok nmX2 hown hK hP hD hS 0 rfl rfl 2 (by decide) (hts _ wd_117) (fun _ h9 => h9) rfl (by decide +kernel) rfl rfl (Nat.le_of_ble_eq_true rfl) dX2_init_29 (fun H locs hP hD hS => ?_)
  have hP : va_P (vD V) vwCl (([(h0, .inr (2, [.ref (a1 1), .ref (a2 2), .int (50 : Int32), .int 0, .null, .null, .null, .null, .null]))] ++ planW V a1) ++ contW V a2) H := hP
  have hD : va_D A (([(h0, .inr (2, [.ref (a1 1), .ref (a2 2), .int (50 : Int32), .int 0, .null, .null, .null, .null, .null]))] ++ planW V a1) ++ contW V a2) := hD
  refine lv_aload_n hx hb dX2_init_32 rfl (lv_at hl 0 rfl) ?_
  refine lv_iconst (v := (2 : Int32)) hx hb dX2_init_33 (by decide) ?_
  refine va_put (D := vD V) (ci := 2) (v := .int (2 : Int32)) (ty := .int) (C := RX2) (T := TX2) (N := 9) hx hb hts gd_X2 tyX2 tyX2_ok nmX2 hown hK hP hD hS 0 rfl rfl 3 (by decide) (hts _ wd_118) (fun _ h9 => h9) rfl (by decide +kernel) rfl rfl (Nat.le_of_ble_eq_true rfl) dX2_init_34 (fun H locs hP hD hS => ?_)
  have hP : va_P (vD V) vwCl (([(h0, .inr (2, [.ref (a1 1), .ref (a2 2), .int (50 : Int32), .int (2 : Int32), .null, .null, .null, .null, .null]))] ++ planW V a1) ++ contW V a2) H := hP
  have hD : va_D A (([(h0, .inr (2, [.ref (a1 1), .ref (a2 2), .int (50 : Int32), .int (2 : Int32), .null, .null, .null, .null, .null]))] ++ planW V a1) ++ contW V a2) := hD
  refine lv_aload_n hx hb dX2_init_37 rfl (lv_at hl 0 rfl) ?_
  refine lv_bipush (v := (24 : Int32)) hx hb dX2_init_38 (by decide) ?_
  refine x_newI (N := 24) hx hb hts hK hP hD hS hA (by decide) rfl (Nat.le_of_ble_eq_true rfl) (Nat.le_of_ble_eq_true rfl) (Nat.le_of_ble_eq_true rfl) dX2_init_40 (fun q16 H hP hD hS => ?_)
  refine va_putF (D := vD V) (ci := 2) (v := .ref q16) (ty := (.array .int)) (C := RX2) (T := TX2) (N := 9) hx hb hts gd_X2 tyX2 tyX2_ok nmX2 hown hK hP hD hS 0 rfl rfl 4 (by decide) (hts _ wd_119) (fun _ h9 => h9) rfl hin rfl (by decide +kernel) rfl rfl (Nat.le_of_ble_eq_true rfl) dX2_init_42 (fun H locs hP hD hS => ?_)
  have hP : va_P (vD V) vwCl ((([(h0, .inr (2, [.ref (a1 1), .ref (a2 2), .int (50 : Int32), .int (2 : Int32), .ref q16, .null, .null, .null, .null]))] ++ planW V a1) ++ contW V a2) ++ [(q16, .inl (vI V, 24, .inl (fun _ => 0)))]) H := hP
  have hD : va_D A ((([(h0, .inr (2, [.ref (a1 1), .ref (a2 2), .int (50 : Int32), .int (2 : Int32), .ref q16, .null, .null, .null, .null]))] ++ planW V a1) ++ contW V a2) ++ [(q16, .inl (vI V, 24, .inl (fun _ => 0)))]) := hD
  refine lv_aload_n hx hb dX2_init_45 rfl (lv_at hl 0 rfl) ?_
  refine lv_bipush (v := (24 : Int32)) hx hb dX2_init_46 (by decide) ?_
  refine x_newI (N := 24) hx hb hts hK hP hD hS hA (by decide) rfl (Nat.le_of_ble_eq_true rfl) (Nat.le_of_ble_eq_true rfl) (Nat.le_of_ble_eq_true rfl) dX2_init_48 (fun q17 H hP hD hS => ?_)
  refine va_putF (D := vD V) (ci := 2) (v := .ref q17) (ty := (.array .int)) (C := RX2) (T := TX2) (N := 9) hx hb hts gd_X2 tyX2 tyX2_ok nmX2 hown hK hP hD hS 0 rfl rfl 5 (by decide) (hts _ wd_121) (fun _ h9 => h9) rfl hin rfl (by decide +kernel) rfl rfl (Nat.le_of_ble_eq_true rfl) dX2_init_50 (fun H locs hP hD hS => ?_)
  have hP : va_P (vD V) vwCl (((([(h0, .inr (2, [.ref (a1 1), .ref (a2 2), .int (50 : Int32), .int (2 : Int32), .ref q16, .ref q17, .null, .null, .null]))] ++ planW V a1) ++ contW V a2) ++ [(q16, .inl (vI V, 24, .inl (fun _ => 0)))]) ++ [(q17, .inl (vI V, 24, .inl (fun _ => 0)))]) H := hP
  have hD : va_D A (((([(h0, .inr (2, [.ref (a1 1), .ref (a2 2), .int (50 : Int32), .int (2 : Int32), .ref q16, .ref q17, .null, .null, .null]))] ++ planW V a1) ++ contW V a2) ++ [(q16, .inl (vI V, 24, .inl (fun _ => 0)))]) ++ [(q17, .inl (vI V, 24, .inl (fun _ => 0)))]) := hD
  refine lv_aload_n hx hb dX2_init_53 rfl (lv_at hl 0 rfl) ?_
  refine lv_bipush (v := (24 : Int32)) hx hb dX2_init_54 (by decide) ?_
  refine x_newI (N := 24) hx hb hts hK hP hD hS hA (by decide) rfl (Nat.le_of_ble_eq_true rfl) (Nat.le_of_ble_eq_true rfl) (Nat.le_of_ble_eq_true rfl) dX2_init_56 (fun q18 H hP hD hS => ?_)
  refine va_putF (D := vD V) (ci := 2) (v := .ref q18) (ty := (.array .int)) (C := RX2) (T := TX2) (N := 9) hx hb hts gd_X2 tyX2 tyX2_ok nmX2 hown hK hP hD hS 0 rfl rfl 6 (by decide) (hts _ wd_123) (fun _ h9 => h9) rfl hin rfl (by decide +kernel) rfl rfl (Nat.le_of_ble_eq_true rfl) dX2_init_58 (fun H locs hP hD hS => ?_)
  have hP : va_P (vD V) vwCl ((((([(h0, .inr (2, [.ref (a1 1), .ref (a2 2), .int (50 : Int32), .int (2 : Int32), .ref q16, .ref q17, .ref q18, .null, .null]))] ++ planW V a1) ++ contW V a2) ++ [(q16, .inl (vI V, 24, .inl (fun _ => 0)))]) ++ [(q17, .inl (vI V, 24, .inl (fun _ => 0)))]) ++ [(q18, .inl (vI V, 24, .inl (fun _ => 0)))]) H := hP
  have hD : va_D A ((((([(h0, .inr (2, [.ref (a1 1), .ref (a2 2), .int (50 : Int32), .int (2 : Int32), .ref q16, .ref q17, .ref q18, .null, .null]))] ++ planW V a1) ++ contW V a2) ++ [(q16, .inl (vI V, 24, .inl (fun _ => 0)))]) ++ [(q17, .inl (vI V, 24, .inl (fun _ => 0)))]) ++ [(q18, .inl (vI V, 24, .inl (fun _ => 0)))]) := hD
  refine lv_aload_n hx hb dX2_init_61 rfl (lv_at hl 0 rfl) ?_
  refine lv_bipush (v := (24 : Int32)) hx hb dX2_init_62 (by decide) ?_
  refine x_newI (N := 24) hx hb hts hK hP hD hS hA (by decide) rfl (Nat.le_of_ble_eq_true rfl) (Nat.le_of_ble_eq_true rfl) (Nat.le_of_ble_eq_true rfl) dX2_init_64 (fun q19 H hP hD hS => ?_)
  refine va_putF (D := vD V) (ci := 2) (v := .ref q19) (ty := (.array .int)) (C := RX2) (T := TX2) (N := 9) hx hb hts gd_X2 tyX2 tyX2_ok nmX2 hown hK hP hD hS 0 rfl rfl 7 (by decide) (hts _ wd_124) (fun _ h9 => h9) rfl hin rfl (by decide +kernel) rfl rfl (Nat.le_of_ble_eq_true rfl) dX2_init_66 (fun H locs hP hD hS => ?_)
  have hP : va_P (vD V) vwCl (((((([(h0, .inr (2, [.ref (a1 1), .ref (a2 2), .int (50 : Int32), .int (2 : Int32), .ref q16, .ref q17, .ref q18, .ref q19, .null]))] ++ planW V a1) ++ contW V a2) ++ [(q16, .inl (vI V, 24, .inl (fun _ => 0)))]) ++ [(q17, .inl (vI V, 24, .inl (fun _ => 0)))]) ++ [(q18, .inl (vI V, 24, .inl (fun _ => 0)))]) ++ [(q19, .inl (vI V, 24, .inl (fun _ => 0)))]) H := hP
  have hD : va_D A (((((([(h0, .inr (2, [.ref (a1 1), .ref (a2 2), .int (50 : Int32), .int (2 : Int32), .ref q16, .ref q17, .ref q18, .ref q19, .null]))] ++ planW V a1) ++ contW V a2) ++ [(q16, .inl (vI V, 24, .inl (fun _ => 0)))]) ++ [(q17, .inl (vI V, 24, .inl (fun _ => 0)))]) ++ [(q18, .inl (vI V, 24, .inl (fun _ => 0)))]) ++ [(q19, .inl (vI V, 24, .inl (fun _ => 0)))]) := hD
  refine lv_aload_n hx hb dX2_init_69 rfl (lv_at hl 0 rfl) ?_
  refine lv_bipush (v := (24 : Int32)) hx hb dX2_init_70 (by decide) ?_
  refine x_newI (N := 24) hx hb hts hK hP hD hS hA (by decide) rfl (Nat.le_of_ble_eq_true rfl) (Nat.le_of_ble_eq_true rfl) (Nat.le_of_ble_eq_true rfl) dX2_init_72 (fun q20 H hP hD hS => ?_)
  refine va_putF (D := vD V) (ci := 2) (v := .ref q20) (ty := (.array .int)) (C := RX2) (T := TX2) (N := 9) hx hb hts gd_X2 tyX2 tyX2_ok nmX2 hown hK hP hD hS 0 rfl rfl 8 (by decide) (hts _ wd_125) (fun _ h9 => h9) rfl hin rfl (by decide +kernel) rfl rfl (Nat.le_of_ble_eq_true rfl) dX2_init_74 (fun H locs hP hD hS => ?_)
  have hP : va_P (vD V) vwCl ((((((([(h0, .inr (2, [.ref (a1 1), .ref (a2 2), .int (50 : Int32), .int (2 : Int32), .ref q16, .ref q17, .ref q18, .ref q19, .ref q20]))] ++ planW V a1) ++ contW V a2) ++ [(q16, .inl (vI V, 24, .inl (fun _ => 0)))]) ++ [(q17, .inl (vI V, 24, .inl (fun _ => 0)))]) ++ [(q18, .inl (vI V, 24, .inl (fun _ => 0)))]) ++ [(q19, .inl (vI V, 24, .inl (fun _ => 0)))]) ++ [(q20, .inl (vI V, 24, .inl (fun _ => 0)))]) H := hP
  have hD : va_D A ((((((([(h0, .inr (2, [.ref (a1 1), .ref (a2 2), .int (50 : Int32), .int (2 : Int32), .ref q16, .ref q17, .ref q18, .ref q19, .ref q20]))] ++ planW V a1) ++ contW V a2) ++ [(q16, .inl (vI V, 24, .inl (fun _ => 0)))]) ++ [(q17, .inl (vI V, 24, .inl (fun _ => 0)))]) ++ [(q18, .inl (vI V, 24, .inl (fun _ => 0)))]) ++ [(q19, .inl (vI V, 24, .inl (fun _ => 0)))]) ++ [(q20, .inl (vI V, 24, .inl (fun _ => 0)))]) := hD
  refine W.widen (k := 20) (n := 543) (Nat.le_of_ble_eq_true rfl) (Nat.le_of_ble_eq_true rfl) ?_
  have hP9 := hP.sub (ws' := markW V (fun o => match o with | 0 => h0 | 1 => a1 1 | 2 => a2 2 | 3 => a1 3 | 4 => a1 4 | 5 => a1 5 | 6 => a1 6 | 7 => a1 7 | 8 => a1 8 | 9 => a1 9 | 10 => a1 10 | 11 => a1 11 | 12 => a2 12 | 13 => a2 13 | 14 => a2 14 | 15 => a2 15 | 16 => q16 | 17 => q17 | 18 => q18 | 19 => q19 | 20 => q20 | _ => 0)) [0, 1, 11, 2, 3, 4, 5, 6, 7, 8, 9, 10, 12, 13, 14, 15, 16, 17, 18, 19, 20] rfl
  have hD9 := hD.sub (ws' := markW V (fun o => match o with | 0 => h0 | 1 => a1 1 | 2 => a2 2 | 3 => a1 3 | 4 => a1 4 | 5 => a1 5 | 6 => a1 6 | 7 => a1 7 | 8 => a1 8 | 9 => a1 9 | 10 => a1 10 | 11 => a1 11 | 12 => a2 12 | 13 => a2 13 | 14 => a2 14 | 15 => a2 15 | 16 => q16 | 17 => q17 | 18 => q18 | 19 => q19 | 20 => q20 | _ => 0)) [0, 1, 11, 2, 3, 4, 5, 6, 7, 8, 9, 10, 12, 13, 14, 15, 16, 17, 18, 19, 20] (by decide) rfl
  exact W.vret hx hb hr (fun t ht hW => ⟨⟨(fun o => match o with | 0 => h0 | 1 => a1 1 | 2 => a2 2 | 3 => a1 3 | 4 => a1 4 | 5 => a1 5 | 6 => a1 6 | 7 => a1 7 | 8 => a1 8 | 9 => a1 9 | 10 => a1 10 | 11 => a1 11 | 12 => a2 12 | 13 => a2 13 | 14 => a2 14 | 15 => a2 15 | 16 => q16 | 17 => q17 | 18 => q18 | 19 => q19 | 20 => q20 | _ => 0), rfl, rfl, by rw [ht]; exact hP9, va_K.moved hW.alike hK, hD9⟩, hS.F ht⟩) hS.2.2 dX2_init_77
