/-! another duration, foretold and done -/
abbrev duP (P : PD) (t d : Nat) : PD := (pn P, pm P, pp P, pa P, u1 (pd P) t d)
theorem b_dur {B : Blk} {P : PD} {E o y : Nat → Nat} (h : StB B P E o y) {t d : Nat} (ht : t < pn P) (hd0 : 1 ≤ d) (hd : d ≤ 100) : ∃ (B' : Blk) (E' o' : Nat → Nat), FX2_changeDuration B (nI t) (nI d) = some (nI (pd P t), B') ∧ StB B' (duP P t d) E' o' y := by
  have hn := h.n
  have hP' := dur_pln h.pl (t := t) hd0 hd
  have hb := dur_b h.bp (t := t) (d := d)
  have hY : BY (bs B 4 t (nI d)) (pn P) y := BY_cg h.by (fun o ho => bs_o (by omega))
  obtain ⟨B', -, -, -, f4⟩ := sch_of (P := duP P t d) hP' hb hY h.2
  have hrk : Rank P E := ends_rank h.pl (fun u hu => (h.pl.2.1 u hu).2.1) h.en
  rcases f4 with ⟨g1, E', o', -, -, g4⟩ | ⟨-, g2⟩
  · refine ⟨B', E', o', ?_, g4⟩
    unfold FX2_changeDuration
    rw [p_has_nI h.bp.1 hn ht, c1_eq, if_neg (show ¬ (1 : Int32) = 0 by decide), k1, lt_nI (by omega) (by decide), if_neg (by omega), show (100 : Int32) = nI 100 from rfl, le_nI (by omega) (by decide), if_pos hd, ld_nI (by omega) (by decide), (h.bp.2.1 t ht).2.1, stb_nI (by omega) (by decide), g1, c2_eq]
  · exact absurd hrk (g2 E)
theorem l_endIf {M : Mem} {P : PD} {E o y : Nat → Nat} (h : StB (M 0) P E o y) {t c d : Nat} (ht : t < pn P) (hc : c < pn P) (hd0 : 1 ≤ d) (hd : d ≤ 100) : ∃ (M' : Mem) (E' o' : Nat → Nat), FX5_endIf M (nI t) (nI c) (nI d) = some (nI (E' t), M') ∧ (∀ i, i ≠ 1 → M' i = M i) ∧ Ends (duP P c d) (u1 (pd P) c d) E' ∧ Topo (duP P c d) o' := by
  have hn := h.n
  obtain ⟨B1, c1', c2'⟩ := p_copyFrom (M 1) (M 0)
  have h1 : StB B1 P E o y := h.eqb c2'
  have hpd := (h.pl.2.1 c hc).2.2.1
  obtain ⟨B', E', o', b1, b2⟩ := b_dur h1 hc hd0 hd
  refine ⟨jb (jb M 1 B1) 1 B', E', o', ?_, fun i hi => by rw [jb_ne hi, jb_ne hi], b2.en, b2.tp⟩
  unfold FX5_endIf
  rw [p_has_nI h.bp.1 hn ht, c1_eq, if_neg (show ¬ (1 : Int32) = 0 by decide), p_has_nI h.bp.1 hn hc, c1_eq, if_neg (show ¬ (1 : Int32) = 0 by decide), c1', c1_eq, lt1_eq, jb_at, b1, c2_eq, lt1_eq, if_pos (nI_pos' (by omega)), jb_at, p_endOf_x b2.bp.1 hn ht, b2.e6 (t := t) ht, c1_eq]
theorem l_dur {M : Mem} {P : PD} {E o y : Nat → Nat} (h : StB (M 0) P E o y) (hS : HS M) {c d : Nat} (hc : c < pn P) (hd0 : 1 ≤ d) (hd : d ≤ 100) : ∃ (M' : Mem) (E' o' : Nat → Nat), FX5_duration M (nI c) (nI d) = some (nI (pd P c), M') ∧ StB (M' 0) (duP P c d) E' o' y ∧ HS M' ∧ Und M' (M 0) := by
  have hpd := (h.pl.2.1 c hc).2.2.1
  obtain ⟨B', E', o', b1, b2⟩ := b_dur h hc hd0 hd
  obtain ⟨M', m1, m2, -, m3, m4⟩ := ch_step hS (fc := fun B => FX2_changeDuration B (nI c) (nI d)) b1
  exact ⟨M', E', o', m1, by rw [m2]; exact b2, m3, m4 (nI_pos' (by omega))⟩
