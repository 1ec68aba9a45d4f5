/-! THE WORLD. The cells of the whole system never move once the two objects stand: the class makes all of its rows in its constructors. So a state of the
system is a memory: block (0..10 the markets, 11 the rest of SlackMarket, 12 the law's own row), place in the block, index -> int. References are fixed. The script
lies outside of it: its address, length and ints are named in V. -/
def lw_gd : List Cond := lw_tbl.filter goodWord
theorem gd_of {w : Cond} (i : Nat) (h : lw_tbl[i]? = some w) (hg : goodWord w = true) : w ∈ lw_gd := List.mem_filter.mpr ⟨List.mem_of_getElem? h, hg⟩
theorem gd_good : ∀ w ∈ lw_gd, goodWord w = true := fun _ h => (List.mem_filter.mp h).2
theorem gd_sub : ∀ w ∈ lw_gd, w ∈ lw_tbl := fun _ h => (List.mem_filter.mp h).1
theorem gd_goodIn {c : Cond} (hc : c ∈ lw_gd) : GoodIn lw_gd (c :: lw_gd) := by
  intro w hw
  rcases List.mem_cons.mp hw with h | h
  · subst h
    exact ⟨hc, good_of_word (gd_good _ hc)⟩
  · exact ⟨h, good_of_word (gd_good _ h)⟩
theorem gd_X0 : ∀ w ∈ u_ws RX0 TX0 5, w ∈ lw_gd := by decide +kernel
theorem gd_X1 : ∀ w ∈ u_ws RX1 TX1 3, w ∈ lw_gd := by decide +kernel
theorem gd_X2 : ∀ w ∈ u_ws RX2 TX2 9, w ∈ lw_gd := by decide +kernel
theorem gd_X3 : ∀ w ∈ u_ws RX3 TX3 6, w ∈ lw_gd := by decide +kernel
theorem gd_X4 : ∀ w ∈ u_ws RX4 TX4 10, w ∈ lw_gd := by decide +kernel
theorem gd_X5 : ∀ w ∈ u_ws RX5 TX5 6, w ∈ lw_gd := by decide +kernel
abbrev Blk : Type := Nat → Nat → Int32
abbrev Mem : Type := Nat → Blk
def bs (B : Blk) (o k : Nat) (v : Int32) : Blk := fun o' => if o' = o then upd (B o) k v else B o'
def bc (B : Blk) (o : Nat) (f : Nat → Int32) : Blk := fun o' => if o' = o then f else B o'
def jb (M : Mem) (j : Nat) (B : Blk) : Mem := fun i => if i = j then B else M i
theorem jb_at (M : Mem) (j : Nat) (B : Blk) : jb M j B j = B := if_pos rfl
theorem jb_ne {M : Mem} {i j : Nat} {B : Blk} (h : i ≠ j) : jb M j B i = M i := if_neg h
theorem jb_jb (M : Mem) (j : Nat) (B B' : Blk) : jb (jb M j B) j B' = jb M j B' := by
  funext i
  by_cases h : i = j
  · simp [jb, h]
  · simp [jb, h]
theorem jb_self (M : Mem) (j : Nat) : jb M j (M j) = M := by
  funext i
  by_cases h : i = j
  · subst h; simp [jb]
  · simp [jb, h]
/-- the classes' ids, the addresses by block and place, the ids of int[], boolean[], char[], Market[] -/
abbrev Scr : Type := Nat × (Nat → Int32)
abbrev VT : Type := va_G × (Nat → Nat → Nat) × ClassId × ClassId × ClassId × ClassId × Nat × Scr
def vD (V : VT) : va_G := V.1
def vA (V : VT) (j o : Nat) : Nat := V.2.1 j o
def vI (V : VT) : ClassId := V.2.2.1
def vZ (V : VT) : ClassId := V.2.2.2.1
def vC (V : VT) : ClassId := V.2.2.2.2.1
def vM (V : VT) : ClassId := V.2.2.2.2.2.1
/-- the script: its address; its length and ints -/
def vSb (V : VT) : Nat := V.2.2.2.2.2.2.1
def vScr (V : VT) : Scr := V.2.2.2.2.2.2.2
def vT (V : VT) : List (ClassId × FieldType) := [(vI V, .int), (vZ V, .boolean), (vC V, .char), (vM V, .object "SlackMarket$Market")]
def cellM (V : VT) (j : Nat) (B : Blk) : Nat → va_E := fun o => match o with
  | 0 => .inr (2, [.ref (vA V j 1), .ref (vA V j 2), .int (B 0 2), .int (B 0 3), .ref (vA V j 16), .ref (vA V j 17), .ref (vA V j 18), .ref (vA V j 19), .ref (vA V j 20)])
  | 1 => .inr (4, [.int (B 1 0), .ref (vA V j 3), .ref (vA V j 4), .ref (vA V j 5), .ref (vA V j 6), .ref (vA V j 7), .ref (vA V j 8), .ref (vA V j 9), .ref (vA V j 10), .ref (vA V j 11)])
  | 2 => .inr (0, [.int (B 2 0), .ref (vA V j 12), .ref (vA V j 13), .ref (vA V j 14), .ref (vA V j 15)])
  | 3 => .inl (vI V, 24, .inl (B 3))
  | 4 => .inl (vI V, 24, .inl (B 4))
  | 5 => .inl (vI V, 24, .inl (B 5))
  | 6 => .inl (vI V, 24, .inl (B 6))
  | 7 => .inl (vI V, 24, .inl (B 7))
  | 8 => .inl (vI V, 96, .inl (B 8))
  | 9 => .inl (vI V, 4, .inl (B 9))
  | 10 => .inl (vI V, 4, .inl (B 10))
  | 11 => .inl (vI V, 24, .inl (B 11))
  | 12 => .inl (vI V, 40, .inl (B 12))
  | 13 => .inl (vI V, 40, .inl (B 13))
  | 14 => .inl (vI V, 40, .inl (B 14))
  | 15 => .inl (vI V, 40, .inl (B 15))
  | 16 => .inl (vI V, 24, .inl (B 16))
  | 17 => .inl (vI V, 24, .inl (B 17))
  | 18 => .inl (vI V, 24, .inl (B 18))
  | 19 => .inl (vI V, 24, .inl (B 19))
  | _ => .inl (vI V, 24, .inl (B o))
def cellX (V : VT) (B : Blk) : Nat → va_E := fun o => match o with
  | 0 => .inr (5, [.ref (vA V 0 0), .ref (vA V 1 0), .ref (vA V 11 3), .ref (vA V 11 1), .ref (vA V 11 2), .ref (vA V 11 5)])
  | 1 => .inl (vM V, 2, .inr (.inr (.inr (.inr (fun i => some (vA V (2 + i) 0))))))
  | 2 => .inl (vZ V, 2, .inl (B 2))
  | 3 => .inr (1, [.ref (vA V 11 4), .int (B 3 1), .int (B 3 2)])
  | 4 => .inl (vM V, 7, .inr (.inr (.inr (.inr (fun i => some (vA V (4 + i) 0))))))
  | 5 => .inr (3, [.ref (vA V 11 6), .int (B 5 1), .int (B 5 2), .int (B 5 3), .ref (vA V 11 7), .int (B 5 5)])
  | 6 => .inl (vC V, 80, .inl (B 6))
  | _ => .inl (vI V, 5, .inl (B o))
def cellZ (V : VT) (B : Blk) : Nat → va_E := fun o => .inl (vI V, 24, .inl (B o))
def cellOf (V : VT) (M : Mem) (q : Nat × Nat) : va_E := if q.1 < 11 then cellM V q.1 (M q.1) q.2 else if q.1 = 11 then cellX V (M q.1) q.2 else cellZ V (M q.1) q.2
def places : List (Nat × Nat) := ((List.range 11).flatMap fun j => (List.range 21).map fun o => (j, o)) ++ (((List.range 8).map fun o => (11, o)) ++ ((List.range 1).map fun o => (12, o)))
def wsOf (V : VT) (M : Mem) : va_W := places.map fun q => (vA V q.1 q.2, cellOf V M q)
theorem places_nodup : places.Nodup := by decide +kernel
def isPl (j o : Nat) : Prop := ∃ i : Nat, places[i]? = some (j, o)
theorem pl_M {j o : Nat} (hj : j < 11) (ho : o < 21) : isPl j o := by
  have h : ∀ j, j < 11 → ∀ o, o < 21 → places[21 * j + o]? = some (j, o) := by decide +kernel
  exact ⟨_, h j hj o ho⟩
theorem pl_X {o : Nat} (ho : o < 8) : isPl 11 o := by
  have h : ∀ o, o < 8 → places[231 + o]? = some (11, o) := by decide +kernel
  exact ⟨_, h o ho⟩
theorem pl_Z {o : Nat} (ho : o < 1) : isPl 12 o := by
  have h : ∀ o, o < 1 → places[239 + o]? = some (12, o) := by decide +kernel
  exact ⟨_, h o ho⟩
theorem cellM_congr {V : VT} {j o : Nat} {B B' : Blk} (h : B o = B' o) : cellM V j B o = cellM V j B' o := by
  unfold cellM
  split <;> simp_all
theorem cellX_congr {V : VT} {o : Nat} {B B' : Blk} (h : B o = B' o) : cellX V B o = cellX V B' o := by
  unfold cellX
  split <;> simp_all
theorem cellZ_congr {V : VT} {o : Nat} {B B' : Blk} (h : B o = B' o) : cellZ V B o = cellZ V B' o := by
  unfold cellZ
  rw [h]
theorem cellOf_congr {V : VT} {M M' : Mem} {j o : Nat} (h : M j o = M' j o) : cellOf V M (j, o) = cellOf V M' (j, o) := by
  unfold cellOf
  dsimp only
  split
  · exact cellM_congr h
  · split
    · exact cellX_congr h
    · exact cellZ_congr h
theorem ws_at {V : VT} {M : Mem} {i j o : Nat} (h : places[i]? = some (j, o)) : (wsOf V M)[i]? = some (vA V j o, cellOf V M (j, o)) := by
  unfold wsOf
  rw [List.getElem?_map, h]
  rfl
theorem ws_set {V : VT} {M M' : Mem} {i j o : Nat} (h : places[i]? = some (j, o)) (hM : ∀ j' o', (j', o') ≠ (j, o) → M' j' o' = M j' o') : (wsOf V M).set i (vA V j o, cellOf V M' (j, o)) = wsOf V M' := by
  have hi : i < places.length := (List.getElem?_eq_some_iff.mp h).1
  refine List.ext_getElem? fun k => ?_
  by_cases hk : i = k
  · subst hk
    rw [ws_at h, List.getElem?_set_self (by unfold wsOf; rw [List.length_map]; exact hi)]
  · rw [List.getElem?_set_ne hk]
    unfold wsOf
    rw [List.getElem?_map, List.getElem?_map]
    cases hp : places[k]? with
    | none => rfl
    | some q =>
      obtain ⟨j', o'⟩ := q
      have hne : (j', o') ≠ (j, o) := fun e => by
        rw [e] at hp
        exact hk ((List.getElem?_inj hi places_nodup).mp (h.trans hp.symm))
      show some (vA V j' o', cellOf V M (j', o')) = some (vA V j' o', cellOf V M' (j', o'))
      rw [cellOf_congr (hM j' o' hne)]
theorem jb_off {M : Mem} {j o : Nat} {B : Blk} (hB : ∀ o', o' ≠ o → B o' = M j o') : ∀ j' o', (j', o') ≠ (j, o) → jb M j B j' o' = M j' o' := by
  intro j' o' h
  by_cases hj : j' = j
  · subst hj
    rw [jb_at]
    exact hB o' (fun e => h (by rw [e]))
  · rw [jb_ne hj]
theorem bs_ne {B : Blk} {o k o' : Nat} {v : Int32} (h : o' ≠ o) : bs B o k v o' = B o' := if_neg h
theorem bs_at {B : Blk} {o k : Nat} {v : Int32} : bs B o k v o = upd (B o) k v := if_pos rfl
theorem bc_ne {B : Blk} {o o' : Nat} {f : Nat → Int32} (h : o' ≠ o) : bc B o f o' = B o' := if_neg h
theorem bc_at {B : Blk} {o : Nat} {f : Nat → Int32} : bc B o f o = f := if_pos rfl
/-- the script lies where V says, outside A -/
def Sc (V : VT) (A : Nat → Prop) (s : State) (H0 : Heap) : Prop := va_X (vSb V) (vScr V).1 (vScr V).2 s H0 ∧ vSb V < H0.size ∧ ¬ A (vSb V) ∧ (vScr V).1 ≤ 260
/-- the world holds the memory M; nothing outside A has changed since H0 -/
def Wd (V : VT) (A : Nat → Prop) (H0 : Heap) (M : Mem) (s : State) (H : Heap) (locs : List Loc) : Prop := va_K (vD V) vwCl (vT V) s ∧ va_P (vD V) vwCl (wsOf V M) H ∧ va_D A (wsOf V M) ∧ va_S A H0 H locs ∧ Sc V A s H0
abbrev WE : Type := Program × Launch × Env × Room × State × MethodId × Array Value × List Frame × Method × Code × Nat × Nat × (State → Prop)
abbrev eP (E : WE) : Program := E.1
abbrev eL (E : WE) : Launch := E.2.1
abbrev eE (E : WE) : Env := E.2.2.1
abbrev eR (E : WE) : Room := E.2.2.2.1
abbrev eS (E : WE) : State := E.2.2.2.2.1
abbrev eM (E : WE) : MethodId := E.2.2.2.2.2.1
abbrev eA (E : WE) : Array Value := E.2.2.2.2.2.2.1
abbrev eB (E : WE) : List Frame := E.2.2.2.2.2.2.2.1
abbrev eH (E : WE) : Method := E.2.2.2.2.2.2.2.2.1
abbrev eC (E : WE) : Code := E.2.2.2.2.2.2.2.2.2.1
abbrev eNc (E : WE) : Nat := E.2.2.2.2.2.2.2.2.2.2.1
abbrev eNs (E : WE) : Nat := E.2.2.2.2.2.2.2.2.2.2.2.1
abbrev eQ (E : WE) : State → Prop := E.2.2.2.2.2.2.2.2.2.2.2.2
def Wq (E : WE) (H : Heap) (locs : List Loc) (pc : Nat) (ls : Array Slot) (st : List Value) : Prop := W (eP E) (eL E) (eE E) (eR E) (eS E) (eM E) (eA E) (eB E) (eH E) (eC E) H locs (eNc E) (eNs E) (eQ E) (F0 (eM E) pc ls st)
/-- what holds all through a method's body: the machine, its code, the words, room for calls -/
def CX (E : WE) (own : String) (cc : ByteArray) (nL fr lo : Nat) : Prop := (eP E).tables.exec = Jvm.exec ∧ (eC E).code = cc ∧ (eC E).maxLocals = nL ∧ (eS E).vm.findClass own = some (eM E).cls ∧ (∀ w ∈ lw_gd, w.before (eA E) (eS E) = true) ∧ fr ≤ (eR E).frames ∧ lo ≤ (eR E).locals ∧ eNc E ≤ (eR E).cells ∧ eNs E ≤ (eR E).slots
