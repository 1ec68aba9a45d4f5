set_option maxRecDepth 100000 in
theorem wd_24 : Cond.classLink RL 20 RX5 ∈ lw_gd := gd_of 24 rfl rfl
set_option maxRecDepth 100000 in
theorem wd_25 : Cond.instantiable RX5 6 ∈ lw_gd := gd_of 25 rfl rfl
set_option maxRecDepth 100000 in
theorem wd_26 : Cond.methodLink RL 100 yX5_init ∈ lw_gd := gd_of 26 rfl rfl
set_option maxRecDepth 100000 in
theorem wd_27 : Cond.instanceMethod yX5_init ∈ lw_gd := gd_of 27 rfl rfl
set_option maxRecDepth 100000 in
theorem wd_28 : Cond.code yX5_init cX5_init 2 (none) ∈ lw_gd := gd_of 28 rfl rfl
/-! THE CLAIM OUT OF ONE WALK OF THE LAW'S BODY. Your part is whole_start (and what it stands on); all else here is the same for every law, but numbers. -/
def R_law : String := "SlackMarketLaw"
def lw_P (b : Addr) (xs : List Int32) (args : Array Value) (s : State) : Prop := args = #[.ref b] ∧ s.IntsAt b xs ∧ xs.length ≤ 260 ∧ (Jvm.Cond.and given_1 narrow_1).before args s = true
def lw_Q (_ : Array Value) (s : State) (o : Outcome) (t : State) : Prop := o = .returned (some (.int 1)) ∧ Framed s o t [] 600000 7302250
def lw_Z (below : List Frame) (a : Array Value) (s : State) : State → Prop := fun t => ∃ o, t.status = .running ∧ Ended t below o ∧ lw_Q a s o t
/-- the law's own end, with 1 on the stack, nothing written that was there before, its room as the claim has it -/
theorem lw_ret {p : Program} {l : Launch} {e : Env} {s : State} {m : MethodId} {below : List Frame} {meth : Method} {c : Code} {b : Nat} (hx : p.tables.exec = Jvm.exec) (hb : c.code = code) (hr : meth.sig.returnType = ret) (hlocks : meth.locks = false) {pc : Nat} {H : Heap} {ls : Array Slot} (hdg : decode code pc = .ok (.ireturn, 1)) : W p l e room_1 s m #[Value.ref b] below meth c H [] 600000 7302250 (lw_Z below #[Value.ref b] s) (F0 m pc ls [.int 1]) := by
  intro T hT X
  obtain ⟨fs, hret, hrun, hended, hW, hframe⟩ := X.leave (v := some (.int 1)) (hlocks := hlocks) (fun h => by rw [hr] at h; cases h)
  have hmeth' : T.vm.method? m = some meth := X.method'
  refine ⟨T.setFrames fs, ?_, .returned (some (.int 1)), hrun, hended, rfl, ⟨_, rfl⟩, hW, hframe⟩
  jvm_step X.here [X.here.top, hx, hb, hdg, hmeth', hr, ret, narrow_b1]
  (try refine ⟨rfl, ?_⟩); (try refine ⟨rfl, ?_⟩)
  first | (intro acts; rw [hret _ acts rfl rfl rfl]) | rw [hret _ _ rfl rfl rfl]
  exact Steps.refl _
/-- what holds at the law's entry: the machine, the code, the tables' words (any of lw_tbl by 'hts w (by decide +kernel)'), the script of L ints xs at the cell b, what the Statement gives of the start (any of its parts by flat_of_before) -/
def lw_At (p : Program) (s : State) (m : MethodId) (meth : Method) (c : Code) (b L : Nat) (xs : Nat → Int32) : Prop :=
  p.tables.exec = Jvm.exec ∧ c.code = code ∧ meth.sig.returnType = ret ∧ c.maxLocals = 12 ∧ s.vm.findClass R_law = some m.cls ∧ (∀ w ∈ lw_tbl, w.before #[Value.ref b] s = true) ∧ va_X b L xs s s.heap ∧ b < s.heap.size ∧ meth.locks = false ∧ (Jvm.Cond.and given_1 narrow_1).before #[Value.ref b] s = true
theorem arr_K {s : State} {args : Array Value} {ty : FieldType} (h : (Cond.arrayClass ty).before args s = true) : ∃ cA : ClassId, ArrOfT s cA ty ∧ s.vm.findClass ("[" ++ ty.toString) = some cA := by
  obtain ⟨c, k, comp, h1, h2, h3⟩ := Cond.arrayClass_spec h
  exact ⟨c, fun n z => ⟨fun k h => (by cases h), k, h2, comp, h3⟩, h1⟩
theorem arr_KM {s : State} {args : Array Value} {C : String} (h : (Cond.arrayOver (.object C)).before args s = true) : ∃ cA : ClassId, ArrOfT s cA (.object C) ∧ va_RA s cA (.object C) := by
  obtain ⟨comp, c, k, h1, h2, h3, h4, h5⟩ := Cond.arrayOver_spec h
  exact ⟨c, fun n z => ⟨fun k h => (by cases h), k, h3, comp, h4⟩, k, comp, h3, h4, h1, h5⟩
set_option maxHeartbeats 4000000 in
set_option maxRecDepth 100000 in
/-- THE LAW, from its entry, over StepOK -/
theorem start_open (ok : ∀ X : Scr, X.1 ≤ 260 → ∃ M' : Mem, FL_law mM0 X = some (1, M')) {p : Program} {e : Env} {s : State} {m : MethodId} {below : List Frame} {meth : Method} {c : Code} (l : Launch) {b L : Nat} {xs : Nat → Int32} (hL : L ≤ 260) (C0 : lw_At p s m meth c b L xs) : W p l e room_1 s m #[Value.ref b] below meth c s.heap [] 0 0 (lw_Z below #[Value.ref b] s) (entryFrame m ([Value.ref b] : List Value).toArray 12) := by
  obtain ⟨hx, hb, hr, hml, hown, hts, hX, hbl, hlocks, hgv⟩ := id C0
  have htg : ∀ w ∈ lw_gd, w.before #[Value.ref b] s = true := fun w hw => hts w (gd_sub w hw)
  have hA : ∀ q : Nat, s.heap.size ≤ q → (fun q : Nat => s.heap.size ≤ q) q := fun _ h => h
  have hbA : ¬ (fun q : Nat => s.heap.size ≤ q) b := Nat.not_le.mpr hbl
  obtain ⟨c0, i0, kn0⟩ := u_known (C := RX0) (T := TX0) (N := 5) (n := 5) htg gd_X0 (htg _ wd_86)
  obtain ⟨c1, i1, kn1⟩ := u_known (C := RX1) (T := TX1) (N := 3) (n := 3) htg gd_X1 (htg _ wd_146)
  obtain ⟨c2, i2, kn2⟩ := u_known (C := RX2) (T := TX2) (N := 9) (n := 9) htg gd_X2 (htg _ wd_33)
  obtain ⟨c3, i3, kn3⟩ := u_known (C := RX3) (T := TX3) (N := 6) (n := 6) htg gd_X3 (htg _ wd_166)
  obtain ⟨c4, i4, kn4⟩ := u_known (C := RX4) (T := TX4) (N := 10) (n := 10) htg gd_X4 (htg _ wd_39)
  obtain ⟨c5, i5, kn5⟩ := u_known (C := RX5) (T := TX5) (N := 6) (n := 6) htg gd_X5 (htg _ wd_25)
  obtain ⟨cI, arI, fcI⟩ := arr_K (ty := .int) (htg _ wd_84)
  obtain ⟨cZ, arZ, fcZ⟩ := arr_K (ty := .boolean) (htg _ wd_187)
  obtain ⟨cC, arC, fcC⟩ := arr_K (ty := .char) (htg _ wd_188)
  have hov : (Cond.arrayOver (.object "SlackMarket$Market")).before #[Value.ref b] s = true := hts _ (List.mem_of_getElem? (i := 152) rfl)
  obtain ⟨cM, arM, raM⟩ := arr_KM hov
  have hN : Nst s := ⟨va_Nw.of rfl (hts _ (List.mem_of_getElem? (i := 34) rfl)), va_Nw.of rfl (hts _ (List.mem_of_getElem? (i := 40) rfl)), va_Nw.of rfl (hts _ (List.mem_of_getElem? (i := 87) rfl)), va_Nw.of rfl (hts _ (List.mem_of_getElem? (i := 153) rfl)), va_Nw.of rfl (hts _ (List.mem_of_getElem? (i := 167) rfl)), va_AO.of hov⟩
  obtain ⟨V, hV⟩ : ∃ V : VT, V = (((fun k => match k with | 0 => c0 | 1 => c1 | 2 => c2 | 3 => c3 | 4 => c4 | _ => c5), (fun k => match k with | 0 => i0 | 1 => i1 | 2 => i2 | 3 => i3 | 4 => i4 | _ => i5)), (fun _ _ => 0), cI, cZ, cC, cM, b, (L, xs)) := ⟨_, rfl⟩
  have hK : va_K (vD V) vwCl (vT V) s := by
    subst hV
    refine ⟨fun k q hq => ?_, fun k q hq => ?_⟩
    · match k, hq with
      | 0, hq => cases hq; exact kn0
      | 1, hq => cases hq; exact kn1
      | 2, hq => cases hq; exact kn2
      | 3, hq => cases hq; exact kn3
      | 4, hq => cases hq; exact kn4
      | 5, hq => cases hq; exact kn5
      | k + 6, hq => simp [vwCl] at hq
    · match k, hq with
      | 0, hq => cases hq; exact ⟨arI, fcI⟩
      | 1, hq => cases hq; exact ⟨arZ, fcZ⟩
      | 2, hq => cases hq; exact ⟨arC, fcC⟩
      | 3, hq => cases hq; exact ⟨arM, raM⟩
      | k + 4, hq => simp [vT] at hq
  have hS : va_S (fun q : Nat => s.heap.size ≤ q) s.heap s.heap [] := va_S.rf
  have hP : va_P (vD V) vwCl [] s.heap := fun k q h => by simp at h
  have hD : va_D (fun q : Nat => s.heap.size ≤ q) [] := ⟨fun i j p q h => by simp at h, fun k q h => by simp at h⟩
  have hY : Sc V (fun q : Nat => s.heap.size ≤ q) s s.heap := by subst hV; exact ⟨hX, hbl, hbA, hL⟩
  have hXV : ((L, xs) : Scr) = vScr V := by subst hV; rfl
  have hbV : b = vSb V := by subst hV; rfl
  have hl := lv_entry ([.ref b]) (n := 12) (Nat.le_of_ble_eq_true rfl)
  rw [lg_entry_eq]
  generalize (lg_sl ([.ref b]) ++ List.replicate (12 - (lg_sl ([.ref b])).length) Slot.unset).toArray = ls at hl ⊢
  have hl : lv_has ls 12 [(0, .ref b)] := hl
  refine va_new (ci := 5) (fs := [.null, .null, .null, .null, .null, .null]) (C := RX5) (T := TX5) (N := 6) hx hb htg gd_X5 tyX5 tyX5_ok hown (htg _ wd_24) (htg _ wd_25) (htg _ wd_16) hK hP hD hS hA rfl fsd_X5 (Nat.le_of_ble_eq_true rfl) (Nat.le_of_ble_eq_true rfl) dL_law_0 (fun qx H hP hD hS => ?_)
  refine lv_dup hx hb dL_law_3 rfl ?_
  have hPc := P_last hP
  have hDc := D_last hD
  have hFc := F_last hD hS hA
  refine va_callv (va_runI (As := []) (rest := [.ref qx]) (n := 0) ⟨hx, hb, hml, hown, htg⟩ (cX5_init_new l V qx H.size) (cwI 0 htg (gd_goodIn wd_28) rfl rfl rfl (htg _ wd_16) (htg _ wd_26) (htg _ wd_27) rfl (by decide +kernel) ⟨Nat.le_of_ble_eq_true rfl, Nat.le_of_ble_eq_true rfl⟩) ⟨fun a U g mk q => by obtain ⟨q0, q1, qP, qK, qD, qN⟩ := q; exact ⟨q0, q1, qP, va_K.moved (u := U) (U := U.calling g mk a) (Vm.Alike.refl U.vm) qK, qD, qN.blind⟩, fun U hU hW => ⟨rfl, by rw [hU], by rw [hU]; exact hPc, va_K.moved hW.alike hK, hDc.weaken (fun _ _ _ _ => trivial), Nst.warm hW hN⟩⟩ rfl rfl hl.1 rfl (lv_room (Nat.le_of_ble_eq_true rfl)) dL_law_4 ⟨Nat.le_of_ble_eq_true rfl, Nat.le_of_ble_eq_true rfl⟩) hS (fun q _ h => hFc q h) hFc (fun u t H1 locs ht hvm hw hB hz1 hk1 hS => ?_)
  subst hw
  obtain ⟨hP1, hK1, hD1⟩ := hB
  rw [ht] at hP1
  obtain ⟨hP, hD⟩ := join_last hP hD hk1 hFc hP1 hD1
  generalize H1 = H at hP hS ⊢
  obtain ⟨a, x⟩ := u
  refine lv_astore_n (lv' := [(1, .ref (x 0)), (0, .ref b)]) hx hb dL_law_7 rfl hl (by decide) rfl (fun ls hl => ?_)
  refine lv_bipush (v := (24 : Int32)) hx hb dL_law_8 (by decide) ?_
  refine x_newI (N := 24) hx hb htg hK hP hD hS hA (by decide) rfl (Nat.le_of_ble_eq_true rfl) (Nat.le_of_ble_eq_true rfl) (Nat.le_of_ble_eq_true rfl) dL_law_10 (fun qe H hP hD hS => ?_)
  refine lv_astore_n (lv' := [(2, .ref qe), (1, .ref (x 0)), (0, .ref b)]) hx hb dL_law_12 rfl hl (by decide) rfl (fun ls hl => ?_)
  rw [List.nil_append] at hP hD
  have hP : va_P (vD V) vwCl (slackW V a x ++ modW V (fun _ => qe)) H := hP
  have hD : va_D (fun q : Nat => s.heap.size ≤ q) (slackW V a x ++ modW V (fun _ => qe)) := hD
  refine W.widen (k := 240) (n := 6207) (Nat.le_of_ble_eq_true rfl) (Nat.le_of_ble_eq_true rfl) ?_
  obtain ⟨hP2, hD2⟩ := world0 hP hD
  have hW : Wd (vF V a x (fun _ => qe)) (fun q : Nat => s.heap.size ≤ q) s.heap mM0 s H locs := ⟨hK, hP2, hD2, hS, hY⟩
  obtain ⟨M', hF⟩ := ok (L, xs) hL
  have hl : lv_has ls 12 [(0, .ref (vSb (vF V a x (fun _ => qe)))), (1, .ref (vA (vF V a x (fun _ => qe)) 11 0)), (2, .ref (vA (vF V a x (fun _ => qe)) 12 0))] := by
    have := lv_sub hl [2, 1, 0] rfl
    rw [hbV] at this
    exact this
  refine wL_law (E := (p, l, e, room_1, s, m, #[Value.ref b], below, meth, c, 240, 6207, lw_Z below #[Value.ref b] s)) (V := vF V a x (fun _ => qe)) (A := fun q : Nat => s.heap.size ≤ q) (H0 := s.heap) (X := (L, xs)) ⟨hx, hb, hml, hown, htg, Nat.le_of_ble_eq_true rfl, Nat.le_of_ble_eq_true rfl, Nat.le_of_ble_eq_true rfl, Nat.le_of_ble_eq_true rfl⟩ (fun pc H locs ls hdg hn hW => ?_) hXV hW hl hF
  refine va_forget (fun q hq => hW.2.2.2.1.2.2 q hq) ?_
  refine W.widen (k := 600000) (n := 7302250) (Nat.le_of_ble_eq_true rfl) (Nat.le_of_ble_eq_true rfl) ?_
  exact lw_ret hx hb hr hlocks hdg
