theorem dX5_init_0 : decode cX5_init 0 = .ok (.aload_n 0, 1) := by decide +kernel
theorem dX5_init_1 : decode cX5_init 1 = .ok (.invokespecial 3, 3) := by decide +kernel
theorem dX5_init_4 : decode cX5_init 4 = .ok (.aload_n 0, 1) := by decide +kernel
theorem dX5_init_5 : decode cX5_init 5 = .ok (.new 9, 3) := by decide +kernel
theorem dX5_init_8 : decode cX5_init 8 = .ok (.dup, 1) := by decide +kernel
theorem dX5_init_9 : decode cX5_init 9 = .ok (.invokespecial 11, 3) := by decide +kernel
theorem dX5_init_12 : decode cX5_init 12 = .ok (.putfield 12, 3) := by decide +kernel
theorem dX5_init_15 : decode cX5_init 15 = .ok (.aload_n 0, 1) := by decide +kernel
theorem dX5_init_16 : decode cX5_init 16 = .ok (.new 9, 3) := by decide +kernel
theorem dX5_init_19 : decode cX5_init 19 = .ok (.dup, 1) := by decide +kernel
theorem dX5_init_20 : decode cX5_init 20 = .ok (.invokespecial 11, 3) := by decide +kernel
theorem dX5_init_23 : decode cX5_init 23 = .ok (.putfield 16, 3) := by decide +kernel
theorem dX5_init_26 : decode cX5_init 26 = .ok (.aload_n 0, 1) := by decide +kernel
theorem dX5_init_27 : decode cX5_init 27 = .ok (.new 19, 3) := by decide +kernel
theorem dX5_init_30 : decode cX5_init 30 = .ok (.dup, 1) := by decide +kernel
theorem dX5_init_31 : decode cX5_init 31 = .ok (.invokespecial 21, 3) := by decide +kernel
theorem dX5_init_34 : decode cX5_init 34 = .ok (.putfield 22, 3) := by decide +kernel
theorem dX5_init_37 : decode cX5_init 37 = .ok (.aload_n 0, 1) := by decide +kernel
theorem dX5_init_38 : decode cX5_init 38 = .ok (.iconst 2, 1) := by decide +kernel
theorem dX5_init_39 : decode cX5_init 39 = .ok (.anewarray 9, 3) := by decide +kernel
theorem dX5_init_42 : decode cX5_init 42 = .ok (.putfield 26, 3) := by decide +kernel
theorem dX5_init_45 : decode cX5_init 45 = .ok (.aload_n 0, 1) := by decide +kernel
theorem dX5_init_46 : decode cX5_init 46 = .ok (.iconst 2, 1) := by decide +kernel
theorem dX5_init_47 : decode cX5_init 47 = .ok (.newarray .boolean, 2) := by decide +kernel
theorem dX5_init_49 : decode cX5_init 49 = .ok (.putfield 30, 3) := by decide +kernel
theorem dX5_init_52 : decode cX5_init 52 = .ok (.aload_n 0, 1) := by decide +kernel
theorem dX5_init_53 : decode cX5_init 53 = .ok (.new 34, 3) := by decide +kernel
theorem dX5_init_56 : decode cX5_init 56 = .ok (.dup, 1) := by decide +kernel
theorem dX5_init_57 : decode cX5_init 57 = .ok (.invokespecial 36, 3) := by decide +kernel
theorem dX5_init_60 : decode cX5_init 60 = .ok (.putfield 37, 3) := by decide +kernel
theorem dX5_init_63 : decode cX5_init 63 = .ok (.iconst 0, 1) := by decide +kernel
theorem dX5_init_64 : decode cX5_init 64 = .ok (.istore_n 1, 1) := by decide +kernel
theorem dX5_init_65 : decode cX5_init 65 = .ok (.iload_n 1, 1) := by decide +kernel
theorem dX5_init_66 : decode cX5_init 66 = .ok (.iconst 2, 1) := by decide +kernel
theorem dX5_init_67 : decode cX5_init 67 = .ok (.if_icmp .ge 22, 3) := by decide +kernel
theorem dX5_init_70 : decode cX5_init 70 = .ok (.aload_n 0, 1) := by decide +kernel
theorem dX5_init_71 : decode cX5_init 71 = .ok (.getfield 26, 3) := by decide +kernel
theorem dX5_init_74 : decode cX5_init 74 = .ok (.iload_n 1, 1) := by decide +kernel
theorem dX5_init_75 : decode cX5_init 75 = .ok (.new 9, 3) := by decide +kernel
theorem dX5_init_78 : decode cX5_init 78 = .ok (.dup, 1) := by decide +kernel
theorem dX5_init_79 : decode cX5_init 79 = .ok (.invokespecial 11, 3) := by decide +kernel
theorem dX5_init_82 : decode cX5_init 82 = .ok (.aastore, 1) := by decide +kernel
theorem dX5_init_83 : decode cX5_init 83 = .ok (.iinc 1 1, 3) := by decide +kernel
theorem dX5_init_86 : decode cX5_init 86 = .ok (.goto (-21), 3) := by decide +kernel
theorem dX5_init_89 : decode cX5_init 89 = .ok (.return_, 1) := by decide +kernel
theorem hd_set {α : Type} {T : List α} {x y : α} : ([x] ++ T).set 0 y = [y] ++ T := rfl
def objX (h : Nat) (a b c d e f : Value) : Nat × va_E := (h, .inr (5, [a, b, c, d, e, f]))
def zarW (V : VT) (q : Nat) : Nat × va_E := (q, .inl (vZ V, 2, .inl (fun _ => 0)))
/-- what SlackMarket() makes: the markets by a (0 now, 1 trial, 2 and 3 the slots, 4.. the ring), the rest by x -/
def slackW (V : VT) (a : Nat → Nat → Nat) (x : Nat → Nat) : va_W := [objX (x 0) (.ref (a 0 0)) (.ref (a 1 0)) (.ref (x 3)) (.ref (x 1)) (.ref (x 2)) (.ref (x 5))] ++ (markW V (a 0) ++ (markW V (a 1) ++ (histW V (x 3) (x 4) (f7 (fun k => a (4 + k))) (fun k => a (4 + k)) ++ ([(x 1, refC V 2 (f2 (fun k => a (2 + k))))] ++ ([zarW V (x 2)] ++ (padW V x ++ (markW V (a 2) ++ markW V (a 3))))))))
set_option maxHeartbeats 4000000 in
set_option maxRecDepth 100000 in
/-- SlackMarket() -/
theorem cX5_init_new (l : Launch) (V : VT) (h0 sz : Nat) : Met l yX5_init (Cond.code yX5_init cX5_init 2 none :: lw_gd) ({ frames := 4, cells := 238, slots := 6177, locals := 73 } : Room) (va_Pc [.ref h0] (fun U => U.heap.size = sz ∧ va_P (vD V) vwCl [(h0, .inr (5, [.null, .null, .null, .null, .null, .null]))] U.heap ∧ va_K (vD V) vwCl (vT V) U ∧ va_D (fun _ => True) [(h0, .inr (5, [.null, .null, .null, .null, .null, .null]))] ∧ Nst U)) (va_Qv (fun a : (Nat → Nat → Nat) × (Nat → Nat) => a.2 0 = h0) (fun a t => va_P (vD V) vwCl (slackW V a.1 a.2) t.heap ∧ va_K (vD V) vwCl (vT V) t ∧ va_D (va_A [(h0, .inr (5, [.null, .null, .null, .null, .null, .null]))] sz) (slackW V a.1 a.2)) (va_A [(h0, .inr (5, [.null, .null, .null, .null, .null, .null]))] sz)) 238 6177 (va_A [(h0, .inr (5, [.null, .null, .null, .null, .null, .null]))] sz) := by
  refine Met.ofW (cc := cX5_init) (maxL := 2) (ret := none) (by decide) rfl ?_
  intro p e s m args below meth c s₁ B hml hv
  obtain ⟨rfl, hsz, hP, hK, hD0, hN⟩ := hv
  have hx := B.exec
  have hb := B.bytes
  have hr := B.returns
  have hts0 := atoms_spec (ws := Cond.code yX5_init cX5_init 2 none :: lw_gd) B.pre
  have hts : ∀ w ∈ lw_gd, w.before #[Value.ref h0] s = true := fun w hw => hts0 w (List.mem_cons_of_mem _ hw)
  have hown : s.vm.findClass RX5 = some m.cls := findClass_of_methodNamed B.named
  have hlocks := B.notSynchronized
  have hin : meth.name = "<init>" := (name_of_methodNamed B.named B.method).1
  subst hsz
  have hD := hD0.self (sz := s.heap.size)
  generalize hAe : va_A [(h0, .inr (5, [.null, .null, .null, .null, .null, .null]))] s.heap.size = A at hD ⊢
  have hA : ∀ q : Nat, s.heap.size ≤ q → A q := fun q h => by rw [← hAe]; exact Or.inr h
  have hS : va_S A s.heap s.heap [] := va_S.rf
  have hl := lv_entry ([.ref h0]) (n := 2) (Nat.le_of_ble_eq_true rfl)
  rw [lg_entry_eq]
  generalize (lg_sl ([.ref h0]) ++ List.replicate (2 - (lg_sl ([.ref h0])).length) Slot.unset).toArray = ls at hl ⊢
  have hl : lv_has ls 2 [(0, .ref h0)] := hl
  have hP : va_P (vD V) vwCl [objX h0 (.null) (.null) (.null) (.null) (.null) (.null)] s.heap := hP
  have hD : va_D A [objX h0 (.null) (.null) (.null) (.null) (.null) (.null)] := hD
  refine lv_aload_n hx hb dX5_init_0 rfl (lv_at hl 0 rfl) ?_
  refine W.objInit hx hb hown (hts _ wd_29) (hts _ wd_30) (hts _ wd_31) rfl (by rw [hml]; exact hl.1) rfl dX5_init_1 (Nat.le_of_ble_eq_true rfl) (Nat.le_of_ble_eq_true rfl) ?_
  refine W.eq (g2 := F0 m 4 ls []) rfl ?_
  refine lv_aload_n hx hb dX5_init_4 rfl (lv_at hl 0 rfl) ?_
  refine va_new (ci := 2) (fs := [.null, .null, .int 0, .int 0, .null, .null, .null, .null, .null]) (C := RX2) (T := TX2) (N := 9) hx hb hts gd_X2 tyX2 tyX2_ok hown (hts _ wd_32) (hts _ wd_33) (hts _ wd_17) hK hP hD hS hA rfl (fsd_X2) (Nat.le_of_ble_eq_true rfl) (Nat.le_of_ble_eq_true rfl) dX5_init_5 (fun q0 H hP hD hS => ?_)
  refine lv_dup hx hb dX5_init_8 rfl ?_
  have hPc := P_last hP
  have hDc := D_last hD
  have hFc := F_last hD hS hA
  refine va_callv (va_runIN (As := []) (rest := [.ref q0, .ref h0]) (n := 0) ⟨hx, hb, hml, hown, hts⟩ (cX2_init_new l V q0 H.size) ⟨va_cnB 0 hts (gd_goodIn wd_36) rfl rfl rfl hN.1 (hts _ wd_17) (by decide +kernel) ⟨Nat.le_of_ble_eq_true rfl, Nat.le_of_ble_eq_true rfl⟩, rfl, hts _ wd_35⟩ ⟨fun a U g mk q => by obtain ⟨q0, q1, qP, qK, qD, qN⟩ := q; exact ⟨q0, q1, qP, va_K.moved (u := U) (U := U.calling g mk a) (Vm.Alike.refl U.vm) qK, qD, qN.blind⟩, fun U hU hW => ⟨rfl, by rw [hU], by rw [hU]; exact hPc, va_K.moved hW.alike hK, hDc.weaken (fun _ _ _ _ => trivial), Nst.warm hW hN⟩⟩ rfl rfl hl.1 rfl (lv_room (Nat.le_of_ble_eq_true rfl)) dX5_init_9 ⟨(Nat.le_of_ble_eq_true rfl), (Nat.le_of_ble_eq_true rfl)⟩) hS (fun q _ h => hFc q h) hFc (fun m0 t H1 locs ht hvm hw hB hz1 hk1 hS => ?_)
  subst hw
  obtain ⟨hP1, hK1, hD1⟩ := hB
  rw [ht] at hP1
  obtain ⟨hP, hD⟩ := join_last hP hD hk1 hFc hP1 hD1
  generalize H1 = H at hP hS ⊢
  have hP : va_P (vD V) vwCl ([objX h0 (.null) (.null) (.null) (.null) (.null) (.null)] ++ markW V m0) H := hP
  have hD : va_D A ([objX h0 (.null) (.null) (.null) (.null) (.null) (.null)] ++ markW V m0) := hD
  refine va_putF (D := vD V) (ci := 5) (v := .ref (m0 0)) (ty := (.object "SlackMarket$Market")) (C := RX5) (T := TX5) (N := 6) hx hb hts gd_X5 tyX5 tyX5_ok nmX5 hown hK hP hD hS 0 rfl rfl 0 (by decide) (hts _ wd_189) (fun _ h9 => h9) rfl hin rfl (by decide +kernel) rfl rfl (Nat.le_of_ble_eq_true rfl) dX5_init_12 (fun H locs hP hD hS => ?_)
  rw [hd_set] at hP hD
  have hP : va_P (vD V) vwCl ([objX h0 (.ref (m0 0)) (.null) (.null) (.null) (.null) (.null)] ++ markW V m0) H := hP
  have hD : va_D A ([objX h0 (.ref (m0 0)) (.null) (.null) (.null) (.null) (.null)] ++ markW V m0) := hD
  refine lv_aload_n hx hb dX5_init_15 rfl (lv_at hl 0 rfl) ?_
  refine va_new (ci := 2) (fs := [.null, .null, .int 0, .int 0, .null, .null, .null, .null, .null]) (C := RX2) (T := TX2) (N := 9) hx hb hts gd_X2 tyX2 tyX2_ok hown (hts _ wd_32) (hts _ wd_33) (hts _ wd_17) hK hP hD hS hA rfl (fsd_X2) (Nat.le_of_ble_eq_true rfl) (Nat.le_of_ble_eq_true rfl) dX5_init_16 (fun q1 H hP hD hS => ?_)
  refine lv_dup hx hb dX5_init_19 rfl ?_
  have hPc := P_last hP
  have hDc := D_last hD
  have hFc := F_last hD hS hA
  refine va_callv (va_runIN (As := []) (rest := [.ref q1, .ref h0]) (n := 0) ⟨hx, hb, hml, hown, hts⟩ (cX2_init_new l V q1 H.size) ⟨va_cnB 0 hts (gd_goodIn wd_36) rfl rfl rfl hN.1 (hts _ wd_17) (by decide +kernel) ⟨Nat.le_of_ble_eq_true rfl, Nat.le_of_ble_eq_true rfl⟩, rfl, hts _ wd_35⟩ ⟨fun a U g mk q => by obtain ⟨q0, q1, qP, qK, qD, qN⟩ := q; exact ⟨q0, q1, qP, va_K.moved (u := U) (U := U.calling g mk a) (Vm.Alike.refl U.vm) qK, qD, qN.blind⟩, fun U hU hW => ⟨rfl, by rw [hU], by rw [hU]; exact hPc, va_K.moved hW.alike hK, hDc.weaken (fun _ _ _ _ => trivial), Nst.warm hW hN⟩⟩ rfl rfl hl.1 rfl (lv_room (Nat.le_of_ble_eq_true rfl)) dX5_init_20 ⟨(Nat.le_of_ble_eq_true rfl), (Nat.le_of_ble_eq_true rfl)⟩) hS (fun q _ h => hFc q h) hFc (fun m1 t H1 locs ht hvm hw hB hz1 hk1 hS => ?_)
  subst hw
  obtain ⟨hP1, hK1, hD1⟩ := hB
  rw [ht] at hP1
  obtain ⟨hP, hD⟩ := join_last hP hD hk1 hFc hP1 hD1
  generalize H1 = H at hP hS ⊢
  rw [List.append_assoc] at hP hD
  have hP : va_P (vD V) vwCl ([objX h0 (.ref (m0 0)) (.null) (.null) (.null) (.null) (.null)] ++ (markW V m0 ++ markW V m1)) H := hP
  have hD : va_D A ([objX h0 (.ref (m0 0)) (.null) (.null) (.null) (.null) (.null)] ++ (markW V m0 ++ markW V m1)) := hD
  refine va_putF (D := vD V) (ci := 5) (v := .ref (m1 0)) (ty := (.object "SlackMarket$Market")) (C := RX5) (T := TX5) (N := 6) hx hb hts gd_X5 tyX5 tyX5_ok nmX5 hown hK hP hD hS 0 rfl rfl 1 (by decide) (hts _ wd_190) (fun _ h9 => h9) rfl hin rfl (by decide +kernel) rfl rfl (Nat.le_of_ble_eq_true rfl) dX5_init_23 (fun H locs hP hD hS => ?_)
  rw [hd_set] at hP hD
  have hP : va_P (vD V) vwCl ([objX h0 (.ref (m0 0)) (.ref (m1 0)) (.null) (.null) (.null) (.null)] ++ (markW V m0 ++ markW V m1)) H := hP
  have hD : va_D A ([objX h0 (.ref (m0 0)) (.ref (m1 0)) (.null) (.null) (.null) (.null)] ++ (markW V m0 ++ markW V m1)) := hD
  refine lv_aload_n hx hb dX5_init_26 rfl (lv_at hl 0 rfl) ?_
  refine va_new (ci := 1) (fs := [.null, .int 0, .int 0]) (C := RX1) (T := TX1) (N := 3) hx hb hts gd_X1 tyX1 tyX1_ok hown (hts _ wd_145) (hts _ wd_146) (hts _ wd_20) hK hP hD hS hA rfl (fsd_X1) (Nat.le_of_ble_eq_true rfl) (Nat.le_of_ble_eq_true rfl) dX5_init_27 (fun q3 H hP hD hS => ?_)
  refine lv_dup hx hb dX5_init_30 rfl ?_
  have hPc := P_last hP
  have hDc := D_last hD
  have hFc := F_last hD hS hA
  refine va_callv (va_runI (As := []) (rest := [.ref q3, .ref h0]) (n := 0) ⟨hx, hb, hml, hown, hts⟩ (cX1_init_new l V q3 H.size) (cwI 0 hts (gd_goodIn wd_149) rfl rfl rfl (hts _ wd_20) (hts _ wd_147) (hts _ wd_148) rfl (by decide +kernel) ⟨Nat.le_of_ble_eq_true rfl, Nat.le_of_ble_eq_true rfl⟩) ⟨fun a U g mk q => by obtain ⟨q0, q1, qP, qK, qD, qN⟩ := q; exact ⟨q0, q1, qP, va_K.moved (u := U) (U := U.calling g mk a) (Vm.Alike.refl U.vm) qK, qD, qN.blind⟩, fun U hU hW => ⟨rfl, by rw [hU], by rw [hU]; exact hPc, va_K.moved hW.alike hK, hDc.weaken (fun _ _ _ _ => trivial), Nst.warm hW hN⟩⟩ rfl rfl hl.1 rfl (lv_room (Nat.le_of_ble_eq_true rfl)) dX5_init_31 ⟨Nat.le_of_ble_eq_true rfl, Nat.le_of_ble_eq_true rfl⟩) hS (fun q _ h => hFc q h) hFc (fun u3 t H1 locs ht hvm hw hB hz1 hk1 hS => ?_)
  obtain ⟨r3, g3⟩ := u3
  obtain ⟨hP1, hK1, hD1⟩ := hB
  rw [ht] at hP1
  obtain ⟨hP, hD⟩ := join_last hP hD hk1 hFc hP1 hD1
  generalize H1 = H at hP hS ⊢
  rw [List.append_assoc] at hP hD
  have hP : va_P (vD V) vwCl ([objX h0 (.ref (m0 0)) (.ref (m1 0)) (.null) (.null) (.null) (.null)] ++ ((markW V m0 ++ markW V m1) ++ histW V q3 r3 (f7 g3) g3)) H := hP
  have hD : va_D A ([objX h0 (.ref (m0 0)) (.ref (m1 0)) (.null) (.null) (.null) (.null)] ++ ((markW V m0 ++ markW V m1) ++ histW V q3 r3 (f7 g3) g3)) := hD
  refine va_putF (D := vD V) (ci := 5) (v := .ref q3) (ty := (.object "SlackMarket$History")) (C := RX5) (T := TX5) (N := 6) hx hb hts gd_X5 tyX5 tyX5_ok nmX5 hown hK hP hD hS 0 rfl rfl 2 (by decide) (hts _ wd_191) (fun _ h9 => h9) rfl hin rfl (by decide +kernel) rfl rfl (Nat.le_of_ble_eq_true rfl) dX5_init_34 (fun H locs hP hD hS => ?_)
  rw [hd_set] at hP hD
  have hP : va_P (vD V) vwCl ([objX h0 (.ref (m0 0)) (.ref (m1 0)) (.ref q3) (.null) (.null) (.null)] ++ ((markW V m0 ++ markW V m1) ++ histW V q3 r3 (f7 g3) g3)) H := hP
  have hD : va_D A ([objX h0 (.ref (m0 0)) (.ref (m1 0)) (.ref q3) (.null) (.null) (.null)] ++ ((markW V m0 ++ markW V m1) ++ histW V q3 r3 (f7 g3) g3)) := hD
  refine lv_aload_n hx hb dX5_init_37 rfl (lv_at hl 0 rfl) ?_
  refine lv_iconst (v := 2) hx hb dX5_init_38 (by decide) ?_
  refine x_newR (N := 2) hx hb hown (hts _ wd_32) hN.2.2.2.2.2 hK hP hD hS hA (by decide) rfl (Nat.le_of_ble_eq_true rfl) (Nat.le_of_ble_eq_true rfl) (Nat.le_of_ble_eq_true rfl) dX5_init_39 (fun sl H hP hD hS => ?_)
  rw [List.append_assoc] at hP hD
  have hP : va_P (vD V) vwCl ([objX h0 (.ref (m0 0)) (.ref (m1 0)) (.ref q3) (.null) (.null) (.null)] ++ (((markW V m0 ++ markW V m1) ++ histW V q3 r3 (f7 g3) g3) ++ [(sl, refC V 2 (fun _ => none))])) H := hP
  have hD : va_D A ([objX h0 (.ref (m0 0)) (.ref (m1 0)) (.ref q3) (.null) (.null) (.null)] ++ (((markW V m0 ++ markW V m1) ++ histW V q3 r3 (f7 g3) g3) ++ [(sl, refC V 2 (fun _ => none))])) := hD
  refine va_putF (D := vD V) (ci := 5) (v := .ref sl) (ty := (.array (.object "SlackMarket$Market"))) (C := RX5) (T := TX5) (N := 6) hx hb hts gd_X5 tyX5 tyX5_ok nmX5 hown hK hP hD hS 0 rfl rfl 3 (by decide) (hts _ wd_192) (fun _ h9 => h9) rfl hin rfl (by decide +kernel) rfl rfl (Nat.le_of_ble_eq_true rfl) dX5_init_42 (fun H locs hP hD hS => ?_)
  rw [hd_set] at hP hD
  have hP : va_P (vD V) vwCl ([objX h0 (.ref (m0 0)) (.ref (m1 0)) (.ref q3) (.ref sl) (.null) (.null)] ++ (((markW V m0 ++ markW V m1) ++ histW V q3 r3 (f7 g3) g3) ++ [(sl, refC V 2 (fun _ => none))])) H := hP
  have hD : va_D A ([objX h0 (.ref (m0 0)) (.ref (m1 0)) (.ref q3) (.ref sl) (.null) (.null)] ++ (((markW V m0 ++ markW V m1) ++ histW V q3 r3 (f7 g3) g3) ++ [(sl, refC V 2 (fun _ => none))])) := hD
  refine lv_aload_n hx hb dX5_init_45 rfl (lv_at hl 0 rfl) ?_
  refine lv_iconst (v := 2) hx hb dX5_init_46 (by decide) ?_
  refine x_newZ (N := 2) hx hb hts hK hP hD hS hA (by decide) rfl (Nat.le_of_ble_eq_true rfl) (Nat.le_of_ble_eq_true rfl) (Nat.le_of_ble_eq_true rfl) dX5_init_47 (fun sf H hP hD hS => ?_)
  rw [List.append_assoc] at hP hD
  have hP : va_P (vD V) vwCl ([objX h0 (.ref (m0 0)) (.ref (m1 0)) (.ref q3) (.ref sl) (.null) (.null)] ++ ((((markW V m0 ++ markW V m1) ++ histW V q3 r3 (f7 g3) g3) ++ [(sl, refC V 2 (fun _ => none))]) ++ [zarW V sf])) H := hP
  have hD : va_D A ([objX h0 (.ref (m0 0)) (.ref (m1 0)) (.ref q3) (.ref sl) (.null) (.null)] ++ ((((markW V m0 ++ markW V m1) ++ histW V q3 r3 (f7 g3) g3) ++ [(sl, refC V 2 (fun _ => none))]) ++ [zarW V sf])) := hD
  refine va_putF (D := vD V) (ci := 5) (v := .ref sf) (ty := (.array .boolean)) (C := RX5) (T := TX5) (N := 6) hx hb hts gd_X5 tyX5 tyX5_ok nmX5 hown hK hP hD hS 0 rfl rfl 4 (by decide) (hts _ wd_193) (fun _ h9 => h9) rfl hin rfl (by decide +kernel) rfl rfl (Nat.le_of_ble_eq_true rfl) dX5_init_49 (fun H locs hP hD hS => ?_)
  rw [hd_set] at hP hD
  have hP : va_P (vD V) vwCl ([objX h0 (.ref (m0 0)) (.ref (m1 0)) (.ref q3) (.ref sl) (.ref sf) (.null)] ++ ((((markW V m0 ++ markW V m1) ++ histW V q3 r3 (f7 g3) g3) ++ [(sl, refC V 2 (fun _ => none))]) ++ [zarW V sf])) H := hP
  have hD : va_D A ([objX h0 (.ref (m0 0)) (.ref (m1 0)) (.ref q3) (.ref sl) (.ref sf) (.null)] ++ ((((markW V m0 ++ markW V m1) ++ histW V q3 r3 (f7 g3) g3) ++ [(sl, refC V 2 (fun _ => none))]) ++ [zarW V sf])) := hD
  refine lv_aload_n hx hb dX5_init_52 rfl (lv_at hl 0 rfl) ?_
  refine va_new (ci := 3) (fs := [.null, .int 0, .int 0, .int 0, .null, .int 0]) (C := RX3) (T := TX3) (N := 6) hx hb hts gd_X3 tyX3 tyX3_ok hown (hts _ wd_165) (hts _ wd_166) (hts _ wd_21) hK hP hD hS hA rfl (fsd_X3) (Nat.le_of_ble_eq_true rfl) (Nat.le_of_ble_eq_true rfl) dX5_init_53 (fun q5 H hP hD hS => ?_)
  refine lv_dup hx hb dX5_init_56 rfl ?_
  have hPc := P_last hP
  have hDc := D_last hD
  have hFc := F_last hD hS hA
  refine va_callv (va_runIN (As := []) (rest := [.ref q5, .ref h0]) (n := 0) ⟨hx, hb, hml, hown, hts⟩ (cX3_init_new l V q5 H.size) ⟨va_cnB 0 hts (gd_goodIn wd_169) rfl rfl rfl hN.2.2.2.2.1 (hts _ wd_21) (by decide +kernel) ⟨Nat.le_of_ble_eq_true rfl, Nat.le_of_ble_eq_true rfl⟩, rfl, hts _ wd_168⟩ ⟨fun a U g mk q => by obtain ⟨q0, q1, qP, qK, qD⟩ := q; exact ⟨q0, q1, qP, va_K.moved (u := U) (U := U.calling g mk a) (Vm.Alike.refl U.vm) qK, qD⟩, fun U hU hW => ⟨rfl, by rw [hU], by rw [hU]; exact hPc, va_K.moved hW.alike hK, hDc.weaken (fun _ _ _ _ => trivial)⟩⟩ rfl rfl hl.1 rfl (lv_room (Nat.le_of_ble_eq_true rfl)) dX5_init_57 ⟨(Nat.le_of_ble_eq_true rfl), (Nat.le_of_ble_eq_true rfl)⟩) hS (fun q _ h => hFc q h) hFc (fun p5 t H1 locs ht hvm hw hB hz1 hk1 hS => ?_)
  subst hw
  obtain ⟨hP1, hK1, hD1⟩ := hB
  rw [ht] at hP1
  obtain ⟨hP, hD⟩ := join_last hP hD hk1 hFc hP1 hD1
  generalize H1 = H at hP hS ⊢
  rw [List.append_assoc] at hP hD
  have hP : va_P (vD V) vwCl ([objX h0 (.ref (m0 0)) (.ref (m1 0)) (.ref q3) (.ref sl) (.ref sf) (.null)] ++ (((((markW V m0 ++ markW V m1) ++ histW V q3 r3 (f7 g3) g3) ++ [(sl, refC V 2 (fun _ => none))]) ++ [zarW V sf]) ++ padW V p5)) H := hP
  have hD : va_D A ([objX h0 (.ref (m0 0)) (.ref (m1 0)) (.ref q3) (.ref sl) (.ref sf) (.null)] ++ (((((markW V m0 ++ markW V m1) ++ histW V q3 r3 (f7 g3) g3) ++ [(sl, refC V 2 (fun _ => none))]) ++ [zarW V sf]) ++ padW V p5)) := hD
  refine va_putF (D := vD V) (ci := 5) (v := .ref (p5 5)) (ty := (.object "SlackMarket$Pad")) (C := RX5) (T := TX5) (N := 6) hx hb hts gd_X5 tyX5 tyX5_ok nmX5 hown hK hP hD hS 0 rfl rfl 5 (by decide) (hts _ wd_194) (fun _ h9 => h9) rfl hin rfl (by decide +kernel) rfl rfl (Nat.le_of_ble_eq_true rfl) dX5_init_60 (fun H locs hP hD hS => ?_)
  rw [hd_set] at hP hD
  have hP : va_P (vD V) vwCl ([objX h0 (.ref (m0 0)) (.ref (m1 0)) (.ref q3) (.ref sl) (.ref sf) (.ref (p5 5))] ++ (((((markW V m0 ++ markW V m1) ++ histW V q3 r3 (f7 g3) g3) ++ [(sl, refC V 2 (fun _ => none))]) ++ [zarW V sf]) ++ padW V p5)) H := hP
  have hD : va_D A ([objX h0 (.ref (m0 0)) (.ref (m1 0)) (.ref q3) (.ref sl) (.ref sf) (.ref (p5 5))] ++ (((((markW V m0 ++ markW V m1) ++ histW V q3 r3 (f7 g3) g3) ++ [(sl, refC V 2 (fun _ => none))]) ++ [zarW V sf]) ++ padW V p5)) := hD
  refine lv_iconst (v := 0) hx hb dX5_init_63 (by decide) ?_
  refine lv_istore_n (lv' := [(1, .int 0), (0, .ref h0)]) hx hb dX5_init_64 rfl hl (by decide) rfl (fun ls hl => ?_)
  have ea : ([objX h0 (.ref (m0 0)) (.ref (m1 0)) (.ref q3) (.ref sl) (.ref sf) (.ref (p5 5))] ++ (((((markW V m0 ++ markW V m1) ++ histW V q3 r3 (f7 g3) g3) ++ [(sl, refC V 2 (fun _ => none))]) ++ [zarW V sf]) ++ padW V p5)) = ((([objX h0 (.ref (m0 0)) (.ref (m1 0)) (.ref q3) (.ref sl) (.ref sf) (.ref (p5 5))] ++ ((markW V m0 ++ markW V m1) ++ histW V q3 r3 (f7 g3) g3)) ++ [(sl, refC V 2 (fun _ => none))]) ++ ([zarW V sf] ++ padW V p5)) := by simp only [List.append_assoc]
  rw [ea] at hP hD
  refine lv_iload_n hx hb dX5_init_65 rfl (lv_at hl 0 rfl) ?_
  refine lv_iconst (v := 2) hx hb dX5_init_66 (by decide) ?_
  refine lv_icmp_ge (tgt := 89) hx hb dX5_init_67 (by decide) (fun c => absurd c (by decide)) (fun _ => ?_)
  refine lv_aload_n hx hb dX5_init_70 rfl (lv_at hl 1 rfl) ?_
  refine va_get (D := vD V) (ci := 5) (v := .ref sl) (C := RX5) (T := TX5) (N := 6) hx hb hts gd_X5 hown hK hP 0 rfl rfl 3 (by decide) (hts _ wd_192) (fun _ h9 => h9) rfl dX5_init_71 ?_
  refine lv_iload_n hx hb dX5_init_74 rfl (lv_at hl 0 rfl) ?_
  refine va_new (ci := 2) (fs := [.null, .null, .int 0, .int 0, .null, .null, .null, .null, .null]) (C := RX2) (T := TX2) (N := 9) hx hb hts gd_X2 tyX2 tyX2_ok hown (hts _ wd_32) (hts _ wd_33) (hts _ wd_17) hK hP hD hS hA rfl (fsd_X2) (Nat.le_of_ble_eq_true rfl) (Nat.le_of_ble_eq_true rfl) dX5_init_75 (fun qm H hP hD hS => ?_)
  refine lv_dup hx hb dX5_init_78 rfl ?_
  have hPc := P_last hP
  have hDc := D_last hD
  have hFc := F_last hD hS hA
  refine va_callv (va_runIN (As := []) (rest := [.ref qm, .int 0, .ref sl]) (n := 0) ⟨hx, hb, hml, hown, hts⟩ (cX2_init_new l V qm H.size) ⟨va_cnB 0 hts (gd_goodIn wd_36) rfl rfl rfl hN.1 (hts _ wd_17) (by decide +kernel) ⟨Nat.le_of_ble_eq_true rfl, Nat.le_of_ble_eq_true rfl⟩, rfl, hts _ wd_35⟩ ⟨fun a U g mk q => by obtain ⟨q0, q1, qP, qK, qD, qN⟩ := q; exact ⟨q0, q1, qP, va_K.moved (u := U) (U := U.calling g mk a) (Vm.Alike.refl U.vm) qK, qD, qN.blind⟩, fun U hU hW => ⟨rfl, by rw [hU], by rw [hU]; exact hPc, va_K.moved hW.alike hK, hDc.weaken (fun _ _ _ _ => trivial), Nst.warm hW hN⟩⟩ rfl rfl hl.1 rfl (lv_room (Nat.le_of_ble_eq_true rfl)) dX5_init_79 ⟨(Nat.le_of_ble_eq_true rfl), (Nat.le_of_ble_eq_true rfl)⟩) hS (fun q _ h => hFc q h) hFc (fun b0 t H1 locs ht hvm hw hB hz1 hk1 hS => ?_)
  subst hw
  obtain ⟨hP1, hK1, hD1⟩ := hB
  rw [ht] at hP1
  obtain ⟨hP, hD⟩ := join_last hP hD hk1 hFc hP1 hD1
  generalize H1 = H at hP hS ⊢
  have hv1 : (((([objX h0 (.ref (m0 0)) (.ref (m1 0)) (.ref q3) (.ref sl) (.ref sf) (.ref (p5 5))] ++ ((markW V m0 ++ markW V m1) ++ histW V q3 r3 (f7 g3) g3)) ++ [(sl, refC V 2 (fun _ => none))]) ++ ([zarW V sf] ++ padW V p5)) ++ markW V b0)[(((([objX h0 (.ref (m0 0)) (.ref (m1 0)) (.ref q3) (.ref sl) (.ref sf) (.ref (p5 5))] ++ ((markW V m0 ++ markW V m1) ++ histW V q3 r3 (f7 g3) g3)) ++ [(sl, refC V 2 (fun _ => none))]) ++ ([zarW V sf] ++ padW V p5))).length]? = some (b0 0, cellM (Va V b0) 0 mB0 0) := app_at
  rw [List.append_assoc (([objX h0 (.ref (m0 0)) (.ref (m1 0)) (.ref q3) (.ref sl) (.ref sf) (.ref (p5 5))] ++ ((markW V m0 ++ markW V m1) ++ histW V q3 r3 (f7 g3) g3)) ++ [(sl, refC V 2 (fun _ => none))])] at hP hD hv1
  refine va_astq (D := vD V) (cl := vwCl) (tys := vT V) (ws := (([objX h0 (.ref (m0 0)) (.ref (m1 0)) (.ref q3) (.ref sl) (.ref sf) (.ref (p5 5))] ++ ((markW V m0 ++ markW V m1) ++ histW V q3 r3 (f7 g3) g3)) ++ [(sl, refC V 2 (fun _ => none))]) ++ (([zarW V sf] ++ padW V p5) ++ markW V b0)) (r := (RX2, TX2, 9)) hx hb hK hP hD hS (([objX h0 (.ref (m0 0)) (.ref (m1 0)) (.ref q3) (.ref sl) (.ref sf) (.ref (p5 5))] ++ ((markW V m0 ++ markW V m1) ++ histW V q3 r3 (f7 g3) g3))).length 3 _ 2 (a := sl) (f := (fun _ => none)) mid_at rfl hv1 rfl (vp_in_nI (n := 0) (by decide) (by decide)) dX5_init_82 (fun H locs hP hD hS => ?_)
  rw [mid_set] at hP hD
  have hP : va_P (vD V) vwCl ((([objX h0 (.ref (m0 0)) (.ref (m1 0)) (.ref q3) (.ref sl) (.ref sf) (.ref (p5 5))] ++ ((markW V m0 ++ markW V m1) ++ histW V q3 r3 (f7 g3) g3)) ++ [(sl, refC V 2 (va_up (fun _ => none) 0 (some (b0 0))))]) ++ (([zarW V sf] ++ padW V p5) ++ markW V b0)) H := hP
  have hD : va_D A ((([objX h0 (.ref (m0 0)) (.ref (m1 0)) (.ref q3) (.ref sl) (.ref sf) (.ref (p5 5))] ++ ((markW V m0 ++ markW V m1) ++ histW V q3 r3 (f7 g3) g3)) ++ [(sl, refC V 2 (va_up (fun _ => none) 0 (some (b0 0))))]) ++ (([zarW V sf] ++ padW V p5) ++ markW V b0)) := hD
  refine lv_iinc (k := 0) (v := (1 : Int32)) (lv' := [(1, .int (1 : Int32)), (0, .ref h0)]) hx hb dX5_init_83 hl rfl (by decide) (by decide) rfl (fun ls hl => ?_)
  refine lv_goto (tgt := 65) hx hb dX5_init_86 (by decide) ?_
  refine lv_iload_n hx hb dX5_init_65 rfl (lv_at hl 0 rfl) ?_
  refine lv_iconst (v := 2) hx hb dX5_init_66 (by decide) ?_
  refine lv_icmp_ge (tgt := 89) hx hb dX5_init_67 (by decide) (fun c => absurd c (by decide)) (fun _ => ?_)
  refine lv_aload_n hx hb dX5_init_70 rfl (lv_at hl 1 rfl) ?_
  refine va_get (D := vD V) (ci := 5) (v := .ref sl) (C := RX5) (T := TX5) (N := 6) hx hb hts gd_X5 hown hK hP 0 rfl rfl 3 (by decide) (hts _ wd_192) (fun _ h9 => h9) rfl dX5_init_71 ?_
  refine lv_iload_n hx hb dX5_init_74 rfl (lv_at hl 0 rfl) ?_
  refine va_new (ci := 2) (fs := [.null, .null, .int 0, .int 0, .null, .null, .null, .null, .null]) (C := RX2) (T := TX2) (N := 9) hx hb hts gd_X2 tyX2 tyX2_ok hown (hts _ wd_32) (hts _ wd_33) (hts _ wd_17) hK hP hD hS hA rfl (fsd_X2) (Nat.le_of_ble_eq_true rfl) (Nat.le_of_ble_eq_true rfl) dX5_init_75 (fun qm H hP hD hS => ?_)
  refine lv_dup hx hb dX5_init_78 rfl ?_
  have hPc := P_last hP
  have hDc := D_last hD
  have hFc := F_last hD hS hA
  refine va_callv (va_runIN (As := []) (rest := [.ref qm, .int (1 : Int32), .ref sl]) (n := 0) ⟨hx, hb, hml, hown, hts⟩ (cX2_init_new l V qm H.size) ⟨va_cnB 0 hts (gd_goodIn wd_36) rfl rfl rfl hN.1 (hts _ wd_17) (by decide +kernel) ⟨Nat.le_of_ble_eq_true rfl, Nat.le_of_ble_eq_true rfl⟩, rfl, hts _ wd_35⟩ ⟨fun a U g mk q => by obtain ⟨q0, q1, qP, qK, qD, qN⟩ := q; exact ⟨q0, q1, qP, va_K.moved (u := U) (U := U.calling g mk a) (Vm.Alike.refl U.vm) qK, qD, qN.blind⟩, fun U hU hW => ⟨rfl, by rw [hU], by rw [hU]; exact hPc, va_K.moved hW.alike hK, hDc.weaken (fun _ _ _ _ => trivial), Nst.warm hW hN⟩⟩ rfl rfl hl.1 rfl (lv_room (Nat.le_of_ble_eq_true rfl)) dX5_init_79 ⟨(Nat.le_of_ble_eq_true rfl), (Nat.le_of_ble_eq_true rfl)⟩) hS (fun q _ h => hFc q h) hFc (fun b1 t H1 locs ht hvm hw hB hz1 hk1 hS => ?_)
  subst hw
  obtain ⟨hP1, hK1, hD1⟩ := hB
  rw [ht] at hP1
  obtain ⟨hP, hD⟩ := join_last hP hD hk1 hFc hP1 hD1
  generalize H1 = H at hP hS ⊢
  have hv1 : (((([objX h0 (.ref (m0 0)) (.ref (m1 0)) (.ref q3) (.ref sl) (.ref sf) (.ref (p5 5))] ++ ((markW V m0 ++ markW V m1) ++ histW V q3 r3 (f7 g3) g3)) ++ [(sl, refC V 2 (va_up (fun _ => none) 0 (some (b0 0))))]) ++ (([zarW V sf] ++ padW V p5) ++ markW V b0)) ++ markW V b1)[(((([objX h0 (.ref (m0 0)) (.ref (m1 0)) (.ref q3) (.ref sl) (.ref sf) (.ref (p5 5))] ++ ((markW V m0 ++ markW V m1) ++ histW V q3 r3 (f7 g3) g3)) ++ [(sl, refC V 2 (va_up (fun _ => none) 0 (some (b0 0))))]) ++ (([zarW V sf] ++ padW V p5) ++ markW V b0))).length]? = some (b1 0, cellM (Va V b1) 0 mB0 0) := app_at
  rw [List.append_assoc (([objX h0 (.ref (m0 0)) (.ref (m1 0)) (.ref q3) (.ref sl) (.ref sf) (.ref (p5 5))] ++ ((markW V m0 ++ markW V m1) ++ histW V q3 r3 (f7 g3) g3)) ++ [(sl, refC V 2 (va_up (fun _ => none) 0 (some (b0 0))))])] at hP hD hv1
  refine va_astq (D := vD V) (cl := vwCl) (tys := vT V) (ws := (([objX h0 (.ref (m0 0)) (.ref (m1 0)) (.ref q3) (.ref sl) (.ref sf) (.ref (p5 5))] ++ ((markW V m0 ++ markW V m1) ++ histW V q3 r3 (f7 g3) g3)) ++ [(sl, refC V 2 (va_up (fun _ => none) 0 (some (b0 0))))]) ++ ((([zarW V sf] ++ padW V p5) ++ markW V b0) ++ markW V b1)) (r := (RX2, TX2, 9)) hx hb hK hP hD hS (([objX h0 (.ref (m0 0)) (.ref (m1 0)) (.ref q3) (.ref sl) (.ref sf) (.ref (p5 5))] ++ ((markW V m0 ++ markW V m1) ++ histW V q3 r3 (f7 g3) g3))).length 3 _ 2 (a := sl) (f := (va_up (fun _ => none) 0 (some (b0 0)))) mid_at rfl hv1 rfl (vp_in_nI (n := 1) (by decide) (by decide)) dX5_init_82 (fun H locs hP hD hS => ?_)
  rw [mid_set] at hP hD
  have hP : va_P (vD V) vwCl ((([objX h0 (.ref (m0 0)) (.ref (m1 0)) (.ref q3) (.ref sl) (.ref sf) (.ref (p5 5))] ++ ((markW V m0 ++ markW V m1) ++ histW V q3 r3 (f7 g3) g3)) ++ [(sl, refC V 2 (va_up (va_up (fun _ => none) 0 (some (b0 0))) 1 (some (b1 0))))]) ++ ((([zarW V sf] ++ padW V p5) ++ markW V b0) ++ markW V b1)) H := hP
  have hD : va_D A ((([objX h0 (.ref (m0 0)) (.ref (m1 0)) (.ref q3) (.ref sl) (.ref sf) (.ref (p5 5))] ++ ((markW V m0 ++ markW V m1) ++ histW V q3 r3 (f7 g3) g3)) ++ [(sl, refC V 2 (va_up (va_up (fun _ => none) 0 (some (b0 0))) 1 (some (b1 0))))]) ++ ((([zarW V sf] ++ padW V p5) ++ markW V b0) ++ markW V b1)) := hD
  refine lv_iinc (k := 0) (v := (2 : Int32)) (lv' := [(1, .int (2 : Int32)), (0, .ref h0)]) hx hb dX5_init_83 hl rfl (by decide) (by decide) rfl (fun ls hl => ?_)
  refine lv_goto (tgt := 65) hx hb dX5_init_86 (by decide) ?_
  refine lv_iload_n hx hb dX5_init_65 rfl (lv_at hl 0 rfl) ?_
  refine lv_iconst (v := 2) hx hb dX5_init_66 (by decide) ?_
  refine lv_icmp_ge (tgt := 89) hx hb dX5_init_67 (by decide) (fun _ => ?_) (fun c => absurd (by decide) c)
  refine W.widen (k := 238) (n := 6177) (Nat.le_of_ble_eq_true rfl) (Nat.le_of_ble_eq_true rfl) ?_
  have eg : (fun k => (fun j => match j with | 0 => m0 | 1 => m1 | 2 => b0 | 3 => b1 | k + 4 => g3 k) (4 + k)) = g3 := by funext k; rw [Nat.add_comm]
  have ef : ((([objX h0 (.ref (m0 0)) (.ref (m1 0)) (.ref q3) (.ref sl) (.ref sf) (.ref (p5 5))] ++ ((markW V m0 ++ markW V m1) ++ histW V q3 r3 (f7 g3) g3)) ++ [(sl, refC V 2 (va_up (va_up (fun _ => none) 0 (some (b0 0))) 1 (some (b1 0))))]) ++ ((([zarW V sf] ++ padW V p5) ++ markW V b0) ++ markW V b1)) = slackW V (fun j => match j with | 0 => m0 | 1 => m1 | 2 => b0 | 3 => b1 | k + 4 => g3 k) (fun o => match o with | 0 => h0 | 1 => sl | 2 => sf | 3 => q3 | 4 => r3 | o => p5 o) := by unfold slackW; rw [eg]; simp only [List.append_assoc]; rfl
  rw [ef] at hP hD
  exact W.vret hx hb hr (fun t ht hW => ⟨⟨((fun j => match j with | 0 => m0 | 1 => m1 | 2 => b0 | 3 => b1 | k + 4 => g3 k), (fun o => match o with | 0 => h0 | 1 => sl | 2 => sf | 3 => q3 | 4 => r3 | o => p5 o)), rfl, rfl, by rw [ht]; exact hP, va_K.moved hW.alike hK, hD⟩, hS.F ht⟩) hS.2.2 dX5_init_89
