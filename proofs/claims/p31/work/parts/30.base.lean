/-! PURE PART, base: numbers, loops -/
section BASE
variable {α β γ σ R : Type}
theorem n31 {a b : Nat} (h : a ≤ b) (hb : b < 2147483648) : a < 2 ^ 31 := by omega
theorem ld_nI {f : Nat → Int32} {n k : Nat} {K : Int32 → Option α} (h : k < n) (hn : n < 2 ^ 31) : ld f n (nI k) K = K (f k) := by
  have hk : k < 2 ^ 31 := by omega
  unfold ld
  rw [if_neg (vp_in_nI h hn), nI_clamp hk]
theorem stb_nI {B : Blk} {o n k : Nat} {v : Int32} {K : Blk → Option α} (h : k < n) (hn : n < 2 ^ 31) : stb B o n (nI k) v K = K (bs B o k v) := by
  have hk : k < 2 ^ 31 := by omega
  unfold stb
  rw [if_neg (vp_in_nI h hn), nI_clamp hk]
theorem stm_nI {M : Mem} {j o n k : Nat} {v : Int32} {K : Mem → Option α} (h : k < n) (hn : n < 2 ^ 31) : stm M j o n (nI k) v K = K (jb M j (bs (M j) o k v)) := by
  have hk : k < 2 ^ 31 := by omega
  unfold stm
  rw [if_neg (vp_in_nI h hn), nI_clamp hk]
theorem gi_nI {n k : Nat} {K : Option α} (h : k < n) (hn : n < 2 ^ 31) : gi (nI k) n K = K := by
  unfold gi
  rw [if_neg (vp_in_nI h hn)]
theorem lt1_eq {x : β} {K : β → Option α} : lt1 x K = K x := rfl
theorem c1_eq {x : β} {K : β → Option α} : c1 (some x) K = K x := rfl
theorem c2_eq {x : β} {y : γ} {K : β → γ → Option α} : c2 (some (x, y)) K = K x y := rfl
theorem nz_eq {y : Int32} {K : Option α} (h : ¬ y = 0) : nz y K = K := if_neg h
theorem rZ_0 {K : Option α} : rZ 0 K = K := rfl
theorem rZ_1 {K : Option α} : rZ 1 K = K := rfl
theorem rZ_ite {p : Prop} {h : Decidable p} {K : Option α} : rZ (if p then 1 else 0) K = K := by
  by_cases hp : p
  · rw [if_pos hp]; rfl
  · rw [if_neg hp]; rfl
/-- comparisons of numbers -/
theorem le_nI {a b : Nat} {h : Decidable (nI a ≤ nI b)} {x y : α} (ha : a < 2 ^ 31) (hb : b < 2 ^ 31) : (if nI a ≤ nI b then x else y) = if a ≤ b then x else y := by
  by_cases c : a ≤ b
  · rw [if_pos c, if_pos ((nI_leI ha hb).mpr c)]
  · rw [if_neg c, if_neg (fun q => c ((nI_leI ha hb).mp q))]
theorem lt_nI {a b : Nat} {h : Decidable (nI a < nI b)} {x y : α} (ha : a < 2 ^ 31) (hb : b < 2 ^ 31) : (if nI a < nI b then x else y) = if a < b then x else y := by
  by_cases c : a < b
  · rw [if_pos c, if_pos ((nI_ltI ha hb).mpr c)]
  · rw [if_neg c, if_neg (fun q => c ((nI_ltI ha hb).mp q))]
theorem eq_nI {a b : Nat} {h : Decidable (nI a = nI b)} {x y : α} (ha : a < 2 ^ 31) (hb : b < 2 ^ 31) : (if nI a = nI b then x else y) = if a = b then x else y := by
  by_cases c : a = b
  · rw [if_pos c, if_pos ((nI_eq ha hb).mpr c)]
  · rw [if_neg c, if_neg (fun q => c ((nI_eq ha hb).mp q))]
theorem m6_ne {a : Nat} (ha : a < 2 ^ 31) : ¬ nI a = (-6 : Int32) := fun h => by
  have h1 := congrArg Int32.toInt h
  rw [nI_toInt ha, show (-6 : Int32).toInt = -6 from rfl] at h1
  omega
theorem m6_ne' {a : Nat} (ha : a < 2 ^ 31) : ¬ (-6 : Int32) = nI a := fun h => m6_ne ha h.symm
theorem k0 : (0 : Int32) = nI 0 := rfl
theorem k1 : (1 : Int32) = nI 1 := rfl
theorem nneg {a : Nat} (ha : a < 2 ^ 31) : ¬ nI a < 0 := nI_pos ha
/-- loops over 0, 1 .. n - 1 -/
def foldN (f : Nat → σ → σ) : Nat → σ → σ
  | 0, s => s
  | n + 1, s => f n (foldN f n s)
theorem foldN_congr {f g : Nat → σ → σ} {n : Nat} {s : σ} (h : ∀ t, t < n → ∀ s, f t s = g t s) : foldN f n s = foldN g n s := by
  induction n with
  | zero => rfl
  | succ n ih => rw [foldN, foldN, ih (fun t ht => h t (by omega)), h n (by omega)]
theorem loop_inv (K : Nat → Nat → σ → Option R) (n : Nat) (I : Nat → σ → Prop) (f : Nat → σ → σ) (ex : σ → Option R) (h1 : ∀ k s, I n s → K (k + 1) n s = ex s) (h2 : ∀ k t s, t < n → I t s → K (k + 1) t s = K k (t + 1) (f t s)) (h3 : ∀ t s, t < n → I t s → I (t + 1) (f t s)) {fuel : Nat} (hf : n < fuel) {s : σ} (h0 : I 0 s) : K fuel 0 s = ex (foldN f n s) ∧ I n (foldN f n s) := by
  have key : ∀ d t fuel, t + d = n → d < fuel → I t (foldN f t s) → K fuel t (foldN f t s) = ex (foldN f n s) ∧ I n (foldN f n s) := by
    intro d
    induction d with
    | zero =>
      intro t fuel ht hf hI
      have : t = n := by omega
      subst this
      cases fuel with
      | zero => omega
      | succ k => exact ⟨h1 k _ hI, hI⟩
    | succ d ih =>
      intro t fuel ht hf hI
      cases fuel with
      | zero => omega
      | succ k =>
        rw [h2 k t _ (by omega) hI]
        exact ih (t + 1) k (by omega) (by omega) (h3 t _ (by omega) hI)
  exact key n 0 fuel (by omega) hf h0
theorem loop_fold (K : Nat → Nat → σ → Option R) (n : Nat) (f : Nat → σ → σ) (ex : σ → Option R) (h1 : ∀ k s, K (k + 1) n s = ex s) (h2 : ∀ k t s, t < n → K (k + 1) t s = K k (t + 1) (f t s)) {fuel : Nat} (hf : n < fuel) {s : σ} : K fuel 0 s = ex (foldN f n s) :=
  (loop_inv K n (fun _ _ => True) f ex (fun k s _ => h1 k s) (fun k t s ht _ => h2 k t s ht) (fun _ _ _ _ => trivial) hf trivial).1
theorem fu_gt {n : Nat} (h : n < 100000) : n < fu := h
/-- a sum of machine numbers, of plain numbers, a count -/
def sumI (f : Nat → Int32) : Nat → Int32
  | 0 => 0
  | n + 1 => sumI f n + f n
theorem sumI_congr {f g : Nat → Int32} {n : Nat} (h : ∀ t, t < n → f t = g t) : sumI f n = sumI g n := by
  induction n with
  | zero => rfl
  | succ n ih => rw [sumI, sumI, ih (fun t ht => h t (by omega)), h n (by omega)]
def sumN (f : Nat → Nat) : Nat → Nat
  | 0 => 0
  | n + 1 => sumN f n + f n
theorem sumN_congr {f g : Nat → Nat} {n : Nat} (h : ∀ t, t < n → f t = g t) : sumN f n = sumN g n := by
  induction n with
  | zero => rfl
  | succ n ih => rw [sumN, sumN, ih (fun t ht => h t (by omega)), h n (by omega)]
theorem sumN_le {f : Nat → Nat} {n k : Nat} (h : k < n) : f k ≤ sumN f n := by
  induction n with
  | zero => omega
  | succ n ih =>
    rw [sumN]
    rcases Nat.lt_or_ge k n with q | q
    · have := ih q; omega
    · have : k = n := by omega
      subst this; omega
theorem sumN_up {f g : Nat → Nat} {n k : Nat} (hk : k < n) (h : ∀ t, t < n → t ≠ k → g t = f t) : sumN g n + f k = sumN f n + g k := by
  induction n with
  | zero => omega
  | succ n ih =>
    rw [sumN, sumN]
    rcases Nat.lt_or_ge k n with q | q
    · have h1 := ih q (fun t ht => h t (by omega))
      have h2 := h n (by omega) (by omega)
      omega
    · have e : k = n := by omega
      subst e
      have h1 : sumN g k = sumN f k := sumN_congr (fun t ht => h t (by omega) (by omega))
      omega
theorem sumI_nI {f : Nat → Nat} (n : Nat) : sumI (fun t => nI (f t)) n = nI (sumN f n) := by
  induction n with
  | zero => rfl
  | succ n ih => rw [sumI, sumN, ih, nI_add]
/-- an argument that is a task's number, or none -/
def inT (n : Nat) (x : Int32) : Prop := 0 ≤ x ∧ x < nI n
theorem inT_of {n : Nat} {x : Int32} (h : inT n x) (hn : n < 2 ^ 31) : ∃ t, t < n ∧ x = nI t := by
  obtain ⟨j, hj, rfl⟩ := nI_of (Int32.not_lt.mpr h.1)
  exact ⟨j, (nI_ltI hj hn).mp h.2, rfl⟩
theorem inT_nI {n t : Nat} (h : t < n) (hn : n < 2 ^ 31) : inT n (nI t) := ⟨nI_pos' (by omega), nI_lt h hn⟩
end BASE
