/-! THE LAW'S LOOP AND ITS START, over StepOK -/
set_option maxHeartbeats 4000000 in
set_option maxRecDepth 100000 in
theorem law_loop {Inv : Mem → Prop} (ok : StepOK Inv) {E : WE} {V : VT} {A : Nat → Prop} {H0 : Heap} (Cx : CX E RL cL_law 4 8 197) {b L : Nat} {xs : Nat → Int32} (hX : va_X b L xs (eS E) H0) (hbl : b < H0.size) (hbA : ¬ A b) (hL : L ≤ 3072) (hret : ∀ (H : Heap) (locs : List Loc) (ls : Array Slot) (M : Mem), Wd V A H0 M (eS E) H locs → Wq E H locs 962 ls [.int 1]) :
    ∀ (n i : Nat), i ≤ L + 6 → L + 7 ≤ i + n → ∀ {M : Mem} {H : Heap} {locs : List Loc} {ls : Array Slot}, Inv M → Wd V A H0 M (eS E) H locs → lv_has ls 4 [(0, .ref b), (1, .ref (vA V 11 0)), (2, .ref (vA V 12 0)), (3, .int (nI i))] → Wq E H locs 18 ls [] := by
  have hL2 : L < 2 ^ 31 := by omega
  intro n
  induction n with
  | zero => intro i h1 h2; exact absurd h2 (by omega)
  | succ n ih =>
    intro i h1 h2 M H locs ls hI hW hl
    refine q_iload_n Cx dL_law_18 rfl (lv_at hl 3 rfl) ?_
    refine q_aload_n Cx dL_law_19 rfl (lv_at hl 0 rfl) ?_
    refine q_slen Cx hW hX hbl hbA dL_law_20 ?_
    refine q_bipush (v := (6 : Int32)) Cx dL_law_21 (by decide) ?_
    refine q_isub Cx dL_law_23 ?_
    refine q_icmp_gt (tgt := 961) Cx dL_law_24 (by decide) (fun _ => ?_) (fun c => ?_)
    · refine q_iconst (v := (1 : Int32)) Cx dL_law_961 (by decide) ?_
      exact hret _ _ _ _ hW
    · have hi : i + 6 ≤ L := by
        have e1 : (nI L - 6).toInt = (L : Int) - 6 := pk_sub_toInt (a := L) (b := 6) (by omega) (by decide)
        have e2 : (nI i).toInt = (i : Int) := nI_toInt (by omega)
        have c2 : ¬ (nI L - 6).toInt < (nI i).toInt := fun q => c (Int32.lt_iff_toInt_lt.mpr q)
        rw [e1, e2] at c2
        omega
      have go : ∀ (M' : Mem), Inv M' → ∀ (H : Heap) (locs : List Loc), Wd V A H0 M' (eS E) H locs → Wq E H locs 955 ls [] := by
        intro M' hI' H locs hW
        refine q_iinc (k := 3) (v := nI (i + 6)) (lv' := [(3, .int (nI (i + 6))), (0, .ref b), (1, .ref (vA V 11 0)), (2, .ref (vA V 12 0))]) Cx dL_law_955 hl rfl (nI_add i 6) (by decide) rfl (fun ls hl => ?_)
        refine q_goto (tgt := 18) Cx dL_law_958 (by decide) ?_
        exact ih (i + 6) (by omega) (by omega) hI' hW (lv_sub hl [1, 2, 3, 0] rfl)
      refine q_aload_n Cx dL_law_27 rfl (lv_at hl 0 rfl) ?_
      refine q_iload_n Cx dL_law_28 rfl (lv_at hl 3 rfl) ?_
      refine q_sld Cx hW hX hbl hbA (j := i) rfl (by omega) hL2 dL_law_29 ?_
      refine q_bipush (v := (31 : Int32)) Cx dL_law_30 (by decide) ?_
      refine q_iand Cx dL_law_32 ?_
      by_cases c0 : xs i &&& 31 = (0 : Int32)
      · obtain ⟨M', hop, hI'⟩ := ok.1 M (xs (i + 1)) (xs (i + 2)) hI
        refine q_tableIn (tgt := 160) Cx dL_law_33 (by rw [c0]; decide) (by rw [c0]; decide) (ho := by rw [c0]; rfl) (by decide) ?_
        exact law_set Cx hX hbl hbA hL2 hi hop hW hl (go M' hI')
      by_cases c1 : xs i &&& 31 = (1 : Int32)
      · obtain ⟨M', hop, hI'⟩ := ok.2.1 M (xs (i + 1)) (xs (i + 2)) (xs (i + 3)) (xs (i + 4)) (xs (i + 5)) hI
        refine q_tableIn (tgt := 193) Cx dL_law_33 (by rw [c1]; decide) (by rw [c1]; decide) (ho := by rw [c1]; rfl) (by decide) ?_
        exact law_task Cx hX hbl hbA hL2 hi hop hW hl (go M' hI')
      by_cases c2 : xs i &&& 31 = (2 : Int32)
      · obtain ⟨M', hop, hI'⟩ := ok.2.2.1 M (xs (i + 1)) (xs (i + 2)) hI
        refine q_tableIn (tgt := 256) Cx dL_law_33 (by rw [c2]; decide) (by rw [c2]; decide) (ho := by rw [c2]; rfl) (by decide) ?_
        exact law_duration Cx hX hbl hbA hL2 hi hop hW hl (go M' hI')
      by_cases c3 : xs i &&& 31 = (3 : Int32)
      · obtain ⟨M', hop, hI'⟩ := ok.2.2.2.1 M (xs (i + 1)) (xs (i + 2)) hI
        refine q_tableIn (tgt := 289) Cx dL_law_33 (by rw [c3]; decide) (by rw [c3]; decide) (ho := by rw [c3]; rfl) (by decide) ?_
        exact law_move Cx hX hbl hbA hL2 hi hop hW hl (go M' hI')
      by_cases c4 : xs i &&& 31 = (4 : Int32)
      · obtain ⟨M', hop, hI'⟩ := ok.2.2.2.2.1 M (xs (i + 1)) (xs (i + 2)) (xs (i + 3)) hI
        refine q_tableIn (tgt := 322) Cx dL_law_33 (by rw [c4]; decide) (by rw [c4]; decide) (ho := by rw [c4]; rfl) (by decide) ?_
        exact law_offer Cx hX hbl hbA hL2 hi hop hW hl (go M' hI')
      by_cases c5 : xs i &&& 31 = (5 : Int32)
      · obtain ⟨M', hop, hI'⟩ := ok.2.2.2.2.2.1 M hI
        refine q_tableIn (tgt := 365) Cx dL_law_33 (by rw [c5]; decide) (by rw [c5]; decide) (ho := by rw [c5]; rfl) (by decide) ?_
        exact law_trade Cx hX hbl hbA hL2 hi hop hW hl (go M' hI')
      by_cases c6 : xs i &&& 31 = (6 : Int32)
      · obtain ⟨M', hop, hI'⟩ := ok.2.2.2.2.2.2.1 M (xs (i + 1)) (xs (i + 2)) hI
        refine q_tableIn (tgt := 378) Cx dL_law_33 (by rw [c6]; decide) (by rw [c6]; decide) (ho := by rw [c6]; rfl) (by decide) ?_
        exact law_refund Cx hX hbl hbA hL2 hi hop hW hl (go M' hI')
      by_cases c7 : xs i &&& 31 = (7 : Int32)
      · obtain ⟨M', hop, hI'⟩ := ok.2.2.2.2.2.2.2.1 M (xs (i + 1)) (xs (i + 2)) (xs (i + 3)) hI
        refine q_tableIn (tgt := 411) Cx dL_law_33 (by rw [c7]; decide) (by rw [c7]; decide) (ho := by rw [c7]; rfl) (by decide) ?_
        exact law_give Cx hX hbl hbA hL2 hi hop hW hl (go M' hI')
      by_cases c8 : xs i &&& 31 = (8 : Int32)
      · obtain ⟨M', hop, hI'⟩ := ok.2.2.2.2.2.2.2.2.1 M (xs (i + 1)) (xs (i + 2)) hI
        refine q_tableIn (tgt := 454) Cx dL_law_33 (by rw [c8]; decide) (by rw [c8]; decide) (ho := by rw [c8]; rfl) (by decide) ?_
        exact law_ofTask Cx hX hbl hbA hL2 hi hop hW hl (go M' hI')
      by_cases c9 : xs i &&& 31 = (9 : Int32)
      · obtain ⟨M', hop, hI'⟩ := ok.2.2.2.2.2.2.2.2.2.1 M (xs (i + 1)) hI
        refine q_tableIn (tgt := 487) Cx dL_law_33 (by rw [c9]; decide) (by rw [c9]; decide) (ho := by rw [c9]; rfl) (by decide) ?_
        exact law_due Cx hX hbl hbA hL2 hi hop hW hl (go M' hI')
      by_cases c10 : xs i &&& 31 = (10 : Int32)
      · obtain ⟨M', hop, hI'⟩ := ok.2.2.2.2.2.2.2.2.2.2.1 M (xs (i + 1)) hI
        refine q_tableIn (tgt := 511) Cx dL_law_33 (by rw [c10]; decide) (by rw [c10]; decide) (ho := by rw [c10]; rfl) (by decide) ?_
        exact law_money Cx hX hbl hbA hL2 hi hop hW hl (go M' hI')
      by_cases c11 : xs i &&& 31 = (11 : Int32)
      · obtain ⟨M', hop, hI'⟩ := ok.2.2.2.2.2.2.2.2.2.2.2.1 M (xs (i + 1)) (xs (i + 2)) hI
        refine q_tableIn (tgt := 534) Cx dL_law_33 (by rw [c11]; decide) (by rw [c11]; decide) (ho := by rw [c11]; rfl) (by decide) ?_
        exact law_at Cx hX hbl hbA hL2 hi hop hW hl (go M' hI')
      by_cases c12 : xs i &&& 31 = (12 : Int32)
      · obtain ⟨M', hop, hI'⟩ := ok.2.2.2.2.2.2.2.2.2.2.2.2.1 M (xs (i + 1)) (xs (i + 2)) hI
        refine q_tableIn (tgt := 567) Cx dL_law_33 (by rw [c12]; decide) (by rw [c12]; decide) (ho := by rw [c12]; rfl) (by decide) ?_
        exact law_ofContract Cx hX hbl hbA hL2 hi hop hW hl (go M' hI')
      by_cases c13 : xs i &&& 31 = (13 : Int32)
      · obtain ⟨M', hop, hI'⟩ := ok.2.2.2.2.2.2.2.2.2.2.2.2.2.1 M (xs (i + 1)) hI
        refine q_tableIn (tgt := 600) Cx dL_law_33 (by rw [c13]; decide) (by rw [c13]; decide) (ho := by rw [c13]; rfl) (by decide) ?_
        exact law_count Cx hX hbl hbA hL2 hi hop hW hl (go M' hI')
      by_cases c14 : xs i &&& 31 = (14 : Int32)
      · obtain ⟨M', hop, hI'⟩ := ok.2.2.2.2.2.2.2.2.2.2.2.2.2.2.1 M (xs (i + 1)) (xs (i + 2)) hI
        refine q_tableIn (tgt := 623) Cx dL_law_33 (by rw [c14]; decide) (by rw [c14]; decide) (ho := by rw [c14]; rfl) (by decide) ?_
        exact law_distance Cx hX hbl hbA hL2 hi hop hW hl (go M' hI')
      by_cases c15 : xs i &&& 31 = (15 : Int32)
      · obtain ⟨M', hop, hI'⟩ := ok.2.2.2.2.2.2.2.2.2.2.2.2.2.2.2.1 M (xs (i + 1)) (xs (i + 2)) hI
        refine q_tableIn (tgt := 656) Cx dL_law_33 (by rw [c15]; decide) (by rw [c15]; decide) (ho := by rw [c15]; rfl) (by decide) ?_
        exact law_wouldBuy Cx hX hbl hbA hL2 hi hop hW hl (go M' hI')
      by_cases c16 : xs i &&& 31 = (16 : Int32)
      · obtain ⟨M', hop, hI'⟩ := ok.2.2.2.2.2.2.2.2.2.2.2.2.2.2.2.2.1 M (xs (i + 1)) hI
        refine q_tableIn (tgt := 689) Cx dL_law_33 (by rw [c16]; decide) (by rw [c16]; decide) (ho := by rw [c16]; rfl) (by decide) ?_
        exact law_leastMoney Cx hX hbl hbA hL2 hi hop hW hl (go M' hI')
      by_cases c17 : xs i &&& 31 = (17 : Int32)
      · obtain ⟨M', hop, hI'⟩ := ok.2.2.2.2.2.2.2.2.2.2.2.2.2.2.2.2.2.1 M (xs (i + 1)) (xs (i + 2)) (xs (i + 3)) hI
        refine q_tableIn (tgt := 712) Cx dL_law_33 (by rw [c17]; decide) (by rw [c17]; decide) (ho := by rw [c17]; rfl) (by decide) ?_
        exact law_endIf Cx hX hbl hbA hL2 hi hop hW hl (go M' hI')
      by_cases c18 : xs i &&& 31 = (18 : Int32)
      · obtain ⟨M', hop, hI'⟩ := ok.2.2.2.2.2.2.2.2.2.2.2.2.2.2.2.2.2.2.1 M (xs (i + 1)) hI
        refine q_tableIn (tgt := 755) Cx dL_law_33 (by rw [c18]; decide) (by rw [c18]; decide) (ho := by rw [c18]; rfl) (by decide) ?_
        exact law_bestPlace Cx hX hbl hbA hL2 hi hop hW hl (go M' hI')
      by_cases c19 : xs i &&& 31 = (19 : Int32)
      · obtain ⟨M', hop, hI'⟩ := ok.2.2.2.2.2.2.2.2.2.2.2.2.2.2.2.2.2.2.2.1 M hI
        refine q_tableIn (tgt := 778) Cx dL_law_33 (by rw [c19]; decide) (by rw [c19]; decide) (ho := by rw [c19]; rfl) (by decide) ?_
        exact law_critical Cx hX hbl hbA hL2 hi hop hW hl (go M' hI')
      by_cases c20 : xs i &&& 31 = (20 : Int32)
      · obtain ⟨M', hop, hI'⟩ := ok.2.2.2.2.2.2.2.2.2.2.2.2.2.2.2.2.2.2.2.2.1 M hI
        refine q_tableIn (tgt := 791) Cx dL_law_33 (by rw [c20]; decide) (by rw [c20]; decide) (ho := by rw [c20]; rfl) (by decide) ?_
        exact law_lateBehind Cx hX hbl hbA hL2 hi hop hW hl (go M' hI')
      by_cases c21 : xs i &&& 31 = (21 : Int32)
      · obtain ⟨M', hop, hI'⟩ := ok.2.2.2.2.2.2.2.2.2.2.2.2.2.2.2.2.2.2.2.2.2.1 M ((xs (i + 1)).toInt64 <<< ((32 : Int32).toInt64 &&& 63) ||| (xs (i + 2)).toInt64 &&& 4294967295) hI
        refine q_tableIn (tgt := 804) Cx dL_law_33 (by rw [c21]; decide) (by rw [c21]; decide) (ho := by rw [c21]; rfl) (by decide) ?_
        exact law_put Cx hX hbl hbA hL2 hi hop hW hl (go M' hI')
      by_cases c22 : xs i &&& 31 = (22 : Int32)
      · obtain ⟨M', hop, hI'⟩ := ok.2.2.2.2.2.2.2.2.2.2.2.2.2.2.2.2.2.2.2.2.2.2.1 M hI
        refine q_tableIn (tgt := 857) Cx dL_law_33 (by rw [c22]; decide) (by rw [c22]; decide) (ho := by rw [c22]; rfl) (by decide) ?_
        exact law_wipe Cx hX hbl hbA hL2 hi hop hW hl (go M' hI')
      by_cases c23 : xs i &&& 31 = (23 : Int32)
      · obtain ⟨M', hop, hI'⟩ := ok.2.2.2.2.2.2.2.2.2.2.2.2.2.2.2.2.2.2.2.2.2.2.2.1 M hI
        refine q_tableIn (tgt := 870) Cx dL_law_33 (by rw [c23]; decide) (by rw [c23]; decide) (ho := by rw [c23]; rfl) (by decide) ?_
        exact law_fault Cx hX hbl hbA hL2 hi hop hW hl (go M' hI')
      by_cases c24 : xs i &&& 31 = (24 : Int32)
      · obtain ⟨M', hop, hI'⟩ := ok.2.2.2.2.2.2.2.2.2.2.2.2.2.2.2.2.2.2.2.2.2.2.2.2.1 M hI
        refine q_tableIn (tgt := 883) Cx dL_law_33 (by rw [c24]; decide) (by rw [c24]; decide) (ho := by rw [c24]; rfl) (by decide) ?_
        exact law_carryOut Cx hX hbl hbA hL2 hi hop hW hl (go M' hI')
      by_cases c25 : xs i &&& 31 = (25 : Int32)
      · obtain ⟨M', hop, hI'⟩ := ok.2.2.2.2.2.2.2.2.2.2.2.2.2.2.2.2.2.2.2.2.2.2.2.2.2.1 M hI
        refine q_tableIn (tgt := 896) Cx dL_law_33 (by rw [c25]; decide) (by rw [c25]; decide) (ho := by rw [c25]; rfl) (by decide) ?_
        exact law_undo Cx hX hbl hbA hL2 hi hop hW hl (go M' hI')
      by_cases c26 : xs i &&& 31 = (26 : Int32)
      · obtain ⟨M', hop, hI'⟩ := ok.2.2.2.2.2.2.2.2.2.2.2.2.2.2.2.2.2.2.2.2.2.2.2.2.2.2.1 M (xs (i + 1)) hI
        refine q_tableIn (tgt := 909) Cx dL_law_33 (by rw [c26]; decide) (by rw [c26]; decide) (ho := by rw [c26]; rfl) (by decide) ?_
        exact law_save Cx hX hbl hbA hL2 hi hop hW hl (go M' hI')
      by_cases c27 : xs i &&& 31 = (27 : Int32)
      · obtain ⟨M', hop, hI'⟩ := ok.2.2.2.2.2.2.2.2.2.2.2.2.2.2.2.2.2.2.2.2.2.2.2.2.2.2.2 M (xs (i + 1)) hI
        refine q_tableIn (tgt := 932) Cx dL_law_33 (by rw [c27]; decide) (by rw [c27]; decide) (ho := by rw [c27]; rfl) (by decide) ?_
        exact law_restore Cx hX hbl hbA hL2 hi hop hW hl (go M' hI')
      refine q_tableOut (tgt := 955) Cx dL_law_33 (tbl_out (tbl_cons (k := (0 : Int32)) (l1 := 1) (by decide) (by decide) c0 (tbl_cons (k := (1 : Int32)) (l1 := 2) (by decide) (by decide) c1 (tbl_cons (k := (2 : Int32)) (l1 := 3) (by decide) (by decide) c2 (tbl_cons (k := (3 : Int32)) (l1 := 4) (by decide) (by decide) c3 (tbl_cons (k := (4 : Int32)) (l1 := 5) (by decide) (by decide) c4 (tbl_cons (k := (5 : Int32)) (l1 := 6) (by decide) (by decide) c5 (tbl_cons (k := (6 : Int32)) (l1 := 7) (by decide) (by decide) c6 (tbl_cons (k := (7 : Int32)) (l1 := 8) (by decide) (by decide) c7 (tbl_cons (k := (8 : Int32)) (l1 := 9) (by decide) (by decide) c8 (tbl_cons (k := (9 : Int32)) (l1 := 10) (by decide) (by decide) c9 (tbl_cons (k := (10 : Int32)) (l1 := 11) (by decide) (by decide) c10 (tbl_cons (k := (11 : Int32)) (l1 := 12) (by decide) (by decide) c11 (tbl_cons (k := (12 : Int32)) (l1 := 13) (by decide) (by decide) c12 (tbl_cons (k := (13 : Int32)) (l1 := 14) (by decide) (by decide) c13 (tbl_cons (k := (14 : Int32)) (l1 := 15) (by decide) (by decide) c14 (tbl_cons (k := (15 : Int32)) (l1 := 16) (by decide) (by decide) c15 (tbl_cons (k := (16 : Int32)) (l1 := 17) (by decide) (by decide) c16 (tbl_cons (k := (17 : Int32)) (l1 := 18) (by decide) (by decide) c17 (tbl_cons (k := (18 : Int32)) (l1 := 19) (by decide) (by decide) c18 (tbl_cons (k := (19 : Int32)) (l1 := 20) (by decide) (by decide) c19 (tbl_cons (k := (20 : Int32)) (l1 := 21) (by decide) (by decide) c20 (tbl_cons (k := (21 : Int32)) (l1 := 22) (by decide) (by decide) c21 (tbl_cons (k := (22 : Int32)) (l1 := 23) (by decide) (by decide) c22 (tbl_cons (k := (23 : Int32)) (l1 := 24) (by decide) (by decide) c23 (tbl_cons (k := (24 : Int32)) (l1 := 25) (by decide) (by decide) c24 (tbl_cons (k := (25 : Int32)) (l1 := 26) (by decide) (by decide) c25 (tbl_cons (k := (26 : Int32)) (l1 := 27) (by decide) (by decide) c26 (tbl_cons (k := (27 : Int32)) (l1 := 28) (by decide) (by decide) c27 (tbl_nil (by decide))))))))))))))))))))))))))))))) (by decide) ?_
      exact go M hI _ _ hW
