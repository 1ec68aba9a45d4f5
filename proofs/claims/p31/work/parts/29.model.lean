/-! the pure functions of the whole claim's reference (as printed for claims/whole): a second telling of what the class does; no machine stands behind them here -/
set_option maxRecDepth 100000 in
def FX6_in (l0 : Int32) (l1 : Int32) (l2 : Int32) : Option Int32 :=
  if l0 < l1 then
    some (0 : Int32)
  else
    if l2 < l0 then
      some (0 : Int32)
    else
      some (1 : Int32)
set_option maxRecDepth 100000 in
def FX6_record_60s (k60 : Int32 → Blk → Option Blk) (l1 : Int32) (B : Blk) : Option Blk :=
  if (356 : Int32) ≤ l1 then
    lt1 (bs B 0 5 (((B 0) 5) + (1 : Int32))) fun B4 =>
    some B4
  else
    ld (B 1) 356 l1 fun v6 =>
    stb B 2 2136 ((((B 0) 5) * (356 : Int32)) + l1) v6 fun B9 =>
    lt1 (l1 + (1 : Int32)) fun x12 =>
    k60 x12 B9
set_option maxRecDepth 100000 in
def FX6_record_60 : Nat → Int32 → Blk → Option Blk
  | 0 => fun _ _ => none
  | n + 1 => FX6_record_60s (FX6_record_60 n)
set_option maxRecDepth 100000 in
def FX6_record_19s (k19 : Int32 → Blk → Option Blk) (l1 : Int32) (B : Blk) : Option Blk :=
  if (1780 : Int32) ≤ l1 then
    lt1 (bs B 0 5 (((B 0) 5) - (1 : Int32))) fun B15 =>
    FX6_record_60 fu (0 : Int32) B15
  else
    ld (B 2) 2136 (l1 + (356 : Int32)) fun v17 =>
    stb B 2 2136 l1 v17 fun B20 =>
    lt1 (l1 + (1 : Int32)) fun x23 =>
    k19 x23 B20
set_option maxRecDepth 100000 in
def FX6_record_19 : Nat → Int32 → Blk → Option Blk
  | 0 => fun _ _ => none
  | n + 1 => FX6_record_19s (FX6_record_19 n)
set_option maxRecDepth 100000 in
def FX6_record (B : Blk) : Option Blk :=
  if ((B 0) 6) = 0 then
    if ((B 0) 5) = (6 : Int32) then
      FX6_record_19 fu (0 : Int32) B
    else
      FX6_record_60 fu (0 : Int32) B
  else
    some B
set_option maxRecDepth 100000 in
def FX6_undo_22s (k22 : Int32 → Blk → Option (Int32 × Blk)) (l1 : Int32) (B : Blk) : Option (Int32 × Blk) :=
  if (356 : Int32) ≤ l1 then
    some (((B 0) 5), B)
  else
    ld (B 2) 2136 ((((B 0) 5) * (356 : Int32)) + l1) fun v5 =>
    stb B 1 356 l1 v5 fun B8 =>
    lt1 (l1 + (1 : Int32)) fun x11 =>
    k22 x11 B8
set_option maxRecDepth 100000 in
def FX6_undo_22 : Nat → Int32 → Blk → Option (Int32 × Blk)
  | 0 => fun _ _ => none
  | n + 1 => FX6_undo_22s (FX6_undo_22 n)
set_option maxRecDepth 100000 in
def FX6_undo (B : Blk) : Option (Int32 × Blk) :=
  if ((B 0) 5) = 0 then
    some ((-5 : Int32), B)
  else
    lt1 (bs B 0 5 (((B 0) 5) - (1 : Int32))) fun B2 =>
    FX6_undo_22 fu (0 : Int32) B2
set_option maxRecDepth 100000 in
def FX6_save_21s (k21 : Int32 → Int32 → Blk → Option (Int32 × Blk)) (l1 : Int32) (l2 : Int32) (B : Blk) : Option (Int32 × Blk) :=
  if (356 : Int32) ≤ l2 then
    ld (B 1) 356 (0 : Int32) fun v8 =>
    some (v8, B)
  else
    ld (B 1) 356 l2 fun v11 =>
    stb B 3 712 ((l1 * (356 : Int32)) + l2) v11 fun B14 =>
    lt1 (l2 + (1 : Int32)) fun x17 =>
    k21 l1 x17 B14
set_option maxRecDepth 100000 in
def FX6_save_21 : Nat → Int32 → Int32 → Blk → Option (Int32 × Blk)
  | 0 => fun _ _ _ => none
  | n + 1 => FX6_save_21s (FX6_save_21 n)
set_option maxRecDepth 100000 in
def FX6_save (B : Blk) (l1 : Int32) : Option (Int32 × Blk) :=
  c1 (FX6_in l1 (0 : Int32) (1 : Int32)) fun r1 =>
  if r1 = 0 then
    some ((-2 : Int32), B)
  else
    stb B 4 2 l1 (vp_nar .boolean (1 : Int32)) fun B4 =>
    FX6_save_21 fu l1 (0 : Int32) B4
set_option maxRecDepth 100000 in
def FX6_restore_30s (k30 : Int32 → Int32 → Blk → Option (Int32 × Blk)) (l1 : Int32) (l2 : Int32) (B : Blk) : Option (Int32 × Blk) :=
  if (356 : Int32) ≤ l2 then
    ld (B 1) 356 (0 : Int32) fun v12 =>
    some (v12, B)
  else
    ld (B 3) 712 ((l1 * (356 : Int32)) + l2) fun v15 =>
    stb B 1 356 l2 v15 fun B18 =>
    lt1 (l2 + (1 : Int32)) fun x21 =>
    k30 l1 x21 B18
set_option maxRecDepth 100000 in
def FX6_restore_30 : Nat → Int32 → Int32 → Blk → Option (Int32 × Blk)
  | 0 => fun _ _ _ => none
  | n + 1 => FX6_restore_30s (FX6_restore_30 n)
set_option maxRecDepth 100000 in
def FX6_restore (B : Blk) (l1 : Int32) : Option (Int32 × Blk) :=
  c1 (FX6_in l1 (0 : Int32) (1 : Int32)) fun r1 =>
  if r1 = 0 then
    some ((-2 : Int32), B)
  else
    ld (B 4) 2 l1 fun v4 =>
    if v4 = 0 then
      some ((-5 : Int32), B)
    else
      c1 (FX6_record B) fun B10 =>
      FX6_restore_30 fu l1 (0 : Int32) B10
set_option maxRecDepth 100000 in
def FX6_putAside_2s (k2 : Int32 → Blk → Option Blk) (l1 : Int32) (B : Blk) : Option Blk :=
  if (356 : Int32) ≤ l1 then
    some B
  else
    ld (B 1) 356 l1 fun v2 =>
    stb B 5 356 l1 v2 fun B5 =>
    lt1 (l1 + (1 : Int32)) fun x8 =>
    k2 x8 B5
set_option maxRecDepth 100000 in
def FX6_putAside_2 : Nat → Int32 → Blk → Option Blk
  | 0 => fun _ _ => none
  | n + 1 => FX6_putAside_2s (FX6_putAside_2 n)
set_option maxRecDepth 100000 in
def FX6_putAside (B : Blk) : Option Blk :=
  FX6_putAside_2 fu (0 : Int32) B
set_option maxRecDepth 100000 in
def FX6_bringBack_2s (k2 : Int32 → Blk → Option Blk) (l1 : Int32) (B : Blk) : Option Blk :=
  if (356 : Int32) ≤ l1 then
    some B
  else
    ld (B 5) 356 l1 fun v2 =>
    stb B 1 356 l1 v2 fun B5 =>
    lt1 (l1 + (1 : Int32)) fun x8 =>
    k2 x8 B5
set_option maxRecDepth 100000 in
def FX6_bringBack_2 : Nat → Int32 → Blk → Option Blk
  | 0 => fun _ _ => none
  | n + 1 => FX6_bringBack_2s (FX6_bringBack_2 n)
set_option maxRecDepth 100000 in
def FX6_bringBack (B : Blk) : Option Blk :=
  FX6_bringBack_2 fu (0 : Int32) B
set_option maxRecDepth 100000 in
def FX6_isTask (B : Blk) (l1 : Int32) : Option Int32 :=
  if l1 < 0 then
    some (0 : Int32)
  else
    ld (B 1) 356 (0 : Int32) fun v2 =>
    if v2 ≤ l1 then
      some (0 : Int32)
    else
      some (1 : Int32)
set_option maxRecDepth 100000 in
def FX6_manyOn_32 (B : Blk) (k4 : Int32 → Int32 → Int32 → Option Int32) (l1 : Int32) (l3 : Int32) (s0 : Int32) (s1 : Int32) : Option Int32 :=
  lt1 (s1 + s0) fun x9 =>
  lt1 (l3 + (1 : Int32)) fun x11 =>
  k4 l1 x9 x11
set_option maxRecDepth 100000 in
def FX6_manyOn_4s (B : Blk) (k4 : Int32 → Int32 → Int32 → Option Int32) (l1 : Int32) (l2 : Int32) (l3 : Int32) : Option Int32 :=
  ld (B 1) 356 (0 : Int32) fun v1 =>
  if v1 ≤ l3 then
    some l2
  else
    ld (B 1) 356 ((4 : Int32) + l3) fun v5 =>
    if v5 = l1 then
      FX6_manyOn_32 B k4 l1 l3 (1 : Int32) l2
    else
      FX6_manyOn_32 B k4 l1 l3 (0 : Int32) l2
set_option maxRecDepth 100000 in
def FX6_manyOn_4 (B : Blk) : Nat → Int32 → Int32 → Int32 → Option Int32
  | 0 => fun _ _ _ => none
  | n + 1 => FX6_manyOn_4s B (FX6_manyOn_4 B n)
set_option maxRecDepth 100000 in
def FX6_manyOn (B : Blk) (l1 : Int32) : Option Int32 :=
  FX6_manyOn_4 B fu l1 (0 : Int32) (0 : Int32)
set_option maxRecDepth 100000 in
def FX6_taskAt_50 (B : Blk) (k6 : Int32 → Int32 → Int32 → Int32 → Option Int32) (l1 : Int32) (l2 : Int32) (l3 : Int32) (l4 : Int32) : Option Int32 :=
  lt1 (l4 + (1 : Int32)) fun x9 =>
  k6 l1 l2 l3 x9
set_option maxRecDepth 100000 in
def FX6_taskAt_6s (B : Blk) (k6 : Int32 → Int32 → Int32 → Int32 → Option Int32) (l1 : Int32) (l2 : Int32) (l3 : Int32) (l4 : Int32) : Option Int32 :=
  ld (B 1) 356 (0 : Int32) fun v1 =>
  if v1 ≤ l4 then
    some l3
  else
    ld (B 1) 356 ((4 : Int32) + l4) fun v5 =>
    if v5 = l1 then
      ld (B 1) 356 ((172 : Int32) + l4) fun v11 =>
      if v11 = l2 then
        lt1 (l4 + (1 : Int32)) fun x15 =>
        k6 l1 l2 l4 x15
      else
        FX6_taskAt_50 B k6 l1 l2 l3 l4
    else
      FX6_taskAt_50 B k6 l1 l2 l3 l4
set_option maxRecDepth 100000 in
def FX6_taskAt_6 (B : Blk) : Nat → Int32 → Int32 → Int32 → Int32 → Option Int32
  | 0 => fun _ _ _ _ => none
  | n + 1 => FX6_taskAt_6s B (FX6_taskAt_6 B n)
set_option maxRecDepth 100000 in
def FX6_taskAt (B : Blk) (l1 : Int32) (l2 : Int32) : Option Int32 :=
  FX6_taskAt_6 B fu l1 l2 (-6 : Int32) (0 : Int32)
set_option maxRecDepth 100000 in
def FX6_endOf (B : Blk) (l1 : Int32) : Option Int32 :=
  ld (B 7) 24 l1 fun v1 =>
  ld (B 1) 356 ((28 : Int32) + l1) fun v4 =>
  if l1 = ((B 0) 11) then
    some ((v1 + v4) + ((B 0) 12))
  else
    some ((v1 + v4) + (0 : Int32))
set_option maxRecDepth 100000 in
def FX6_reckon_216 (l1 : Int32) (B : Blk) : Option (Int32 × Blk) :=
  if l1 = 0 then
    some ((1 : Int32), B)
  else
    some ((0 : Int32), B)
set_option maxRecDepth 100000 in
def FX6_reckon_184 (k40 : Int32 → Int32 → Blk → Option (Int32 × Blk)) (k58 : Int32 → Int32 → Int32 → Blk → Option (Int32 × Blk)) (l2 : Int32) (l3 : Int32) (l7 : Int32) (s0 : Int32) (B : Blk) : Option (Int32 × Blk) :=
  stb B 7 24 l3 l7 fun B41 =>
  c1 (FX6_endOf B41 l3) fun r44 =>
  stb B41 8 24 l3 r44 fun B46 =>
  lt1 (l3 + (1 : Int32)) fun x49 =>
  k58 s0 l2 x49 B46
set_option maxRecDepth 100000 in
def FX6_reckon_179 (k40 : Int32 → Int32 → Blk → Option (Int32 × Blk)) (k58 : Int32 → Int32 → Int32 → Blk → Option (Int32 × Blk)) (l2 : Int32) (l3 : Int32) (l7 : Int32) (B : Blk) : Option (Int32 × Blk) :=
  FX6_reckon_184 k40 k58 l2 l3 l7 (1 : Int32) B
set_option maxRecDepth 100000 in
def FX6_reckon_162 (k40 : Int32 → Int32 → Blk → Option (Int32 × Blk)) (k58 : Int32 → Int32 → Int32 → Blk → Option (Int32 × Blk)) (l1 : Int32) (l2 : Int32) (l3 : Int32) (s0 : Int32) (B : Blk) : Option (Int32 × Blk) :=
  if l1 = 0 then
    ld (B 7) 24 l3 fun v51 =>
    if s0 = v51 then
      FX6_reckon_184 k40 k58 l2 l3 s0 (0 : Int32) B
    else
      FX6_reckon_179 k40 k58 l2 l3 s0 B
  else
    FX6_reckon_179 k40 k58 l2 l3 s0 B
set_option maxRecDepth 100000 in
def FX6_reckon_146 (k40 : Int32 → Int32 → Blk → Option (Int32 × Blk)) (k58 : Int32 → Int32 → Int32 → Blk → Option (Int32 × Blk)) (l1 : Int32) (l2 : Int32) (l3 : Int32) (l5 : Int32) (s0 : Int32) (B : Blk) : Option (Int32 × Blk) :=
  if l5 ≤ s0 then
    FX6_reckon_162 k40 k58 l1 l2 l3 s0 B
  else
    FX6_reckon_162 k40 k58 l1 l2 l3 l5 B
set_option maxRecDepth 100000 in
def FX6_reckon_112 (k40 : Int32 → Int32 → Blk → Option (Int32 × Blk)) (k58 : Int32 → Int32 → Int32 → Blk → Option (Int32 × Blk)) (l1 : Int32) (l2 : Int32) (l3 : Int32) (s0 : Int32) (B : Blk) : Option (Int32 × Blk) :=
  ld (B 1) 356 ((100 : Int32) + l3) fun v29 =>
  if v29 = (-6 : Int32) then
    FX6_reckon_146 k40 k58 l1 l2 l3 s0 (0 : Int32) B
  else
    ld (B 1) 356 ((100 : Int32) + l3) fun v33 =>
    ld (B 8) 24 v33 fun v36 =>
    FX6_reckon_146 k40 k58 l1 l2 l3 s0 v36 B
set_option maxRecDepth 100000 in
def FX6_reckon_58s (k40 : Int32 → Int32 → Blk → Option (Int32 × Blk)) (k58 : Int32 → Int32 → Int32 → Blk → Option (Int32 × Blk)) (l1 : Int32) (l2 : Int32) (l3 : Int32) (B : Blk) : Option (Int32 × Blk) :=
  ld (B 1) 356 (0 : Int32) fun v11 =>
  if v11 ≤ l3 then
    lt1 (l2 + (1 : Int32)) fun x15 =>
    k40 l1 x15 B
  else
    ld (B 1) 356 ((4 : Int32) + l3) fun v17 =>
    ld (B 1) 356 ((172 : Int32) + l3) fun v20 =>
    c1 (FX6_taskAt B v17 (v20 - (1 : Int32))) fun r23 =>
    if r23 = (-6 : Int32) then
      FX6_reckon_112 k40 k58 l1 l2 l3 (0 : Int32) B
    else
      ld (B 8) 24 r23 fun v26 =>
      FX6_reckon_112 k40 k58 l1 l2 l3 v26 B
set_option maxRecDepth 100000 in
def FX6_reckon_58 (k40 : Int32 → Int32 → Blk → Option (Int32 × Blk)) : Nat → Int32 → Int32 → Int32 → Blk → Option (Int32 × Blk)
  | 0 => fun _ _ _ _ => none
  | n + 1 => FX6_reckon_58s k40 (FX6_reckon_58 k40 n)
set_option maxRecDepth 100000 in
def FX6_reckon_40s (k40 : Int32 → Int32 → Blk → Option (Int32 × Blk)) (l1 : Int32) (l2 : Int32) (B : Blk) : Option (Int32 × Blk) :=
  ld (B 1) 356 (0 : Int32) fun v5 =>
  if v5 < l2 then
    FX6_reckon_216 l1 B
  else
    if l1 = 0 then
      FX6_reckon_216 l1 B
    else
      FX6_reckon_58 k40 fu (0 : Int32) l2 (0 : Int32) B
set_option maxRecDepth 100000 in
def FX6_reckon_40 : Nat → Int32 → Int32 → Blk → Option (Int32 × Blk)
  | 0 => fun _ _ _ => none
  | n + 1 => FX6_reckon_40s (FX6_reckon_40 n)
set_option maxRecDepth 100000 in
def FX6_reckon_4s (k4 : Int32 → Int32 → Blk → Option (Int32 × Blk)) (l1 : Int32) (l2 : Int32) (B : Blk) : Option (Int32 × Blk) :=
  ld (B 1) 356 (0 : Int32) fun v1 =>
  if v1 ≤ l2 then
    FX6_reckon_40 fu l1 (0 : Int32) B
  else
    stb B 7 24 l2 (0 : Int32) fun B55 =>
    c1 (FX6_endOf B55 l2) fun r58 =>
    stb B55 8 24 l2 r58 fun B60 =>
    lt1 (l2 + (1 : Int32)) fun x63 =>
    k4 l1 x63 B60
set_option maxRecDepth 100000 in
def FX6_reckon_4 : Nat → Int32 → Int32 → Blk → Option (Int32 × Blk)
  | 0 => fun _ _ _ => none
  | n + 1 => FX6_reckon_4s (FX6_reckon_4 n)
set_option maxRecDepth 100000 in
def FX6_reckon (B : Blk) : Option (Int32 × Blk) :=
  FX6_reckon_4 fu (1 : Int32) (0 : Int32) B
set_option maxRecDepth 100000 in
def FX6_late (B : Blk) (l1 : Int32) : Option Int32 :=
  ld (B 8) 24 l1 fun v1 =>
  ld (B 1) 356 ((52 : Int32) + l1) fun v4 =>
  lt1 (v1 - v4) fun x7 =>
  if x7 ≤ 0 then
    some (0 : Int32)
  else
    some x7
set_option maxRecDepth 100000 in
def FX6_spared (B : Blk) (l1 : Int32) : Option Int32 :=
  ld (B 1) 356 ((52 : Int32) + l1) fun v1 =>
  ld (B 8) 24 l1 fun v4 =>
  lt1 (v1 - v4) fun x7 =>
  if x7 ≤ 0 then
    some (0 : Int32)
  else
    some x7
set_option maxRecDepth 100000 in
def FX6_lateTogether_4s (B : Blk) (k4 : Int32 → Int32 → Option Int32) (l1 : Int32) (l2 : Int32) : Option Int32 :=
  ld (B 1) 356 (0 : Int32) fun v1 =>
  if v1 ≤ l2 then
    some l1
  else
    c1 (FX6_late B l2) fun r5 =>
    lt1 (l1 + r5) fun x7 =>
    lt1 (l2 + (1 : Int32)) fun x9 =>
    k4 x7 x9
set_option maxRecDepth 100000 in
def FX6_lateTogether_4 (B : Blk) : Nat → Int32 → Int32 → Option Int32
  | 0 => fun _ _ => none
  | n + 1 => FX6_lateTogether_4s B (FX6_lateTogether_4 B n)
set_option maxRecDepth 100000 in
def FX6_lateTogether (B : Blk) : Option Int32 :=
  FX6_lateTogether_4 B fu (0 : Int32) (0 : Int32)
set_option maxRecDepth 100000 in
def FX6_canBeHeld_27 (s0 : Int32) (B : Blk) : Option (Int32 × Blk) :=
  lt1 (bs B 0 11 (-6 : Int32)) fun B11 =>
  lt1 (bs B11 0 12 (0 : Int32)) fun B13 =>
  rZ s0 (some (s0, B13))
set_option maxRecDepth 100000 in
def FX6_canBeHeld (B : Blk) (l1 : Int32) (l2 : Int32) : Option (Int32 × Blk) :=
  lt1 (bs B 0 11 l1) fun B1 =>
  lt1 (bs B1 0 12 l2) fun B3 =>
  c2 (FX6_reckon B3) fun r5 B7 =>
  c1 (FX6_lateTogether B7) fun r8 =>
  if r8 = 0 then
    FX6_canBeHeld_27 (1 : Int32) B7
  else
    FX6_canBeHeld_27 (0 : Int32) B7
set_option maxRecDepth 100000 in
def FX6_slack_51 (k17 : Int32 → Int32 → Int32 → Blk → Option (Int32 × Blk)) (l1 : Int32) (l3 : Int32) (l4 : Int32) (l5 : Int32) (s0 : Int32) (B : Blk) : Option (Int32 × Blk) :=
  if l5 = 0 then
    lt1 (l4 - (1 : Int32)) fun x13 =>
    k17 l1 s0 x13 B
  else
    k17 l1 s0 l3 B
set_option maxRecDepth 100000 in
def FX6_slack_17s (k17 : Int32 → Int32 → Int32 → Blk → Option (Int32 × Blk)) (l1 : Int32) (l2 : Int32) (l3 : Int32) (B : Blk) : Option (Int32 × Blk) :=
  if l3 ≤ l2 then
    some (l2, B)
  else
    lt1 (((l2 + l3) + (1 : Int32)) / (2 : Int32)) fun x6 =>
    c2 (FX6_canBeHeld B l1 x6) fun r8 B10 =>
    if r8 = 0 then
      FX6_slack_51 k17 l1 l3 x6 r8 l2 B10
    else
      FX6_slack_51 k17 l1 l3 x6 r8 x6 B10
set_option maxRecDepth 100000 in
def FX6_slack_17 : Nat → Int32 → Int32 → Int32 → Blk → Option (Int32 × Blk)
  | 0 => fun _ _ _ _ => none
  | n + 1 => FX6_slack_17s (FX6_slack_17 n)
set_option maxRecDepth 100000 in
def FX6_slack (B : Blk) (l1 : Int32) : Option (Int32 × Blk) :=
  c2 (FX6_canBeHeld B l1 (0 : Int32)) fun r1 B3 =>
  if r1 = 0 then
    some ((0 : Int32), B3)
  else
    FX6_slack_17 fu l1 (0 : Int32) (5000 : Int32) B3
set_option maxRecDepth 100000 in
def FX6_set_34 (l1 : Int32) (l2 : Int32) (s0 : Int32) (B : Blk) : Option (Int32 × Blk) :=
  if s0 = 0 then
    some ((-2 : Int32), B)
  else
    c1 (FX6_record B) fun B6 =>
    ld (B6 1) 356 ((1 : Int32) + l1) fun v7 =>
    stb B6 1 356 ((1 : Int32) + l1) l2 fun B10 =>
    some (v7, B10)
set_option maxRecDepth 100000 in
def FX6_set_33 (l1 : Int32) (l2 : Int32) (B : Blk) : Option (Int32 × Blk) :=
  FX6_set_34 l1 l2 (0 : Int32) B
set_option maxRecDepth 100000 in
def FX6_set_29 (l1 : Int32) (l2 : Int32) (B : Blk) : Option (Int32 × Blk) :=
  FX6_set_34 l1 l2 (1 : Int32) B
set_option maxRecDepth 100000 in
def FX6_set_14 (l1 : Int32) (l2 : Int32) (B : Blk) : Option (Int32 × Blk) :=
  if l1 = (1 : Int32) then
    c1 (FX6_in l2 (1 : Int32) (9 : Int32)) fun r13 =>
    if r13 = 0 then
      FX6_set_33 l1 l2 B
    else
      FX6_set_29 l1 l2 B
  else
    FX6_set_33 l1 l2 B
set_option maxRecDepth 100000 in
def FX6_set (B : Blk) (l1 : Int32) (l2 : Int32) : Option (Int32 × Blk) :=
  if l1 = 0 then
    c1 (FX6_in l2 (0 : Int32) (100 : Int32)) fun r16 =>
    if r16 = 0 then
      FX6_set_14 l1 l2 B
    else
      FX6_set_29 l1 l2 B
  else
    FX6_set_14 l1 l2 B
set_option maxRecDepth 100000 in
def FX6_task_27 (l1 : Int32) (l2 : Int32) (l3 : Int32) (l4 : Int32) (l5 : Int32) (B : Blk) : Option (Int32 × Blk) :=
  c1 (FX6_in l2 (1 : Int32) (100 : Int32)) fun r5 =>
  if r5 = 0 then
    some ((-2 : Int32), B)
  else
    c1 (FX6_in l3 (0 : Int32) (3000 : Int32)) fun r8 =>
    if r8 = 0 then
      some ((-2 : Int32), B)
    else
      c1 (FX6_in l4 (0 : Int32) (100000 : Int32)) fun r11 =>
      if r11 = 0 then
        some ((-2 : Int32), B)
      else
        ld (B 1) 356 (0 : Int32) fun v14 =>
        if v14 = (24 : Int32) then
          some ((-4 : Int32), B)
        else
          c1 (FX6_record B) fun B20 =>
          ld (B20 1) 356 (0 : Int32) fun v21 =>
          c1 (FX6_manyOn B20 l1) fun r24 =>
          ld (B20 1) 356 (0 : Int32) fun v26 =>
          stb B20 1 356 (0 : Int32) (v26 + (1 : Int32)) fun B29 =>
          stb B29 1 356 ((4 : Int32) + v21) l1 fun B32 =>
          stb B32 1 356 ((28 : Int32) + v21) l2 fun B35 =>
          stb B35 1 356 ((52 : Int32) + v21) l3 fun B38 =>
          stb B38 1 356 ((76 : Int32) + v21) l4 fun B41 =>
          stb B41 1 356 ((100 : Int32) + v21) l5 fun B44 =>
          stb B44 1 356 ((124 : Int32) + v21) (0 : Int32) fun B47 =>
          stb B47 1 356 ((148 : Int32) + v21) (0 : Int32) fun B50 =>
          stb B50 1 356 ((172 : Int32) + v21) r24 fun B53 =>
          some (v21, B53)
set_option maxRecDepth 100000 in
def FX6_task (B : Blk) (l1 : Int32) (l2 : Int32) (l3 : Int32) (l4 : Int32) (l5 : Int32) : Option (Int32 × Blk) :=
  c1 (FX6_in l1 (0 : Int32) (3 : Int32)) fun r1 =>
  if r1 = 0 then
    some ((-1 : Int32), B)
  else
    if l5 = (-6 : Int32) then
      FX6_task_27 l1 l2 l3 l4 l5 B
    else
      c1 (FX6_isTask B l5) fun r56 =>
      if r56 = 0 then
        some ((-1 : Int32), B)
      else
        FX6_task_27 l1 l2 l3 l4 l5 B
set_option maxRecDepth 100000 in
def FX6_duration (B : Blk) (l1 : Int32) (l2 : Int32) : Option (Int32 × Blk) :=
  c1 (FX6_isTask B l1) fun r1 =>
  if r1 = 0 then
    some ((-1 : Int32), B)
  else
    c1 (FX6_in l2 (1 : Int32) (100 : Int32)) fun r4 =>
    if r4 = 0 then
      some ((-2 : Int32), B)
    else
      c1 (FX6_record B) fun B9 =>
      ld (B9 1) 356 ((28 : Int32) + l1) fun v10 =>
      stb B9 1 356 ((28 : Int32) + l1) l2 fun B13 =>
      some (v10, B13)
set_option maxRecDepth 100000 in
def FX6_putAt_120 (k14 : Int32 → Int32 → Int32 → Int32 → Blk → Option Blk) (l1 : Int32) (l2 : Int32) (l3 : Int32) (l4 : Int32) (s0 : Int32) (s1 : Int32) (B : Blk) : Option Blk :=
  stb B 1 356 s1 s0 fun B31 =>
  lt1 (l4 + (1 : Int32)) fun x34 =>
  k14 l1 l2 l3 x34 B31
set_option maxRecDepth 100000 in
def FX6_putAt_93 (k14 : Int32 → Int32 → Int32 → Int32 → Blk → Option Blk) (l1 : Int32) (l2 : Int32) (l3 : Int32) (l4 : Int32) (s0 : Int32) (B : Blk) : Option Blk :=
  if s0 < l2 then
    FX6_putAt_120 k14 l1 l2 l3 l4 s0 ((172 : Int32) + l4) B
  else
    FX6_putAt_120 k14 l1 l2 l3 l4 (s0 + (1 : Int32)) ((172 : Int32) + l4) B
set_option maxRecDepth 100000 in
def FX6_putAt_14s (k14 : Int32 → Int32 → Int32 → Int32 → Blk → Option Blk) (l1 : Int32) (l2 : Int32) (l3 : Int32) (l4 : Int32) (B : Blk) : Option Blk :=
  ld (B 1) 356 (0 : Int32) fun v4 =>
  if v4 ≤ l4 then
    stb B 1 356 ((172 : Int32) + l1) l2 fun B8 =>
    some B8
  else
    if l4 = l1 then
      lt1 (l4 + (1 : Int32)) fun x12 =>
      k14 l1 l2 l3 x12 B
    else
      ld (B 1) 356 ((4 : Int32) + l4) fun v14 =>
      ld (B 1) 356 ((4 : Int32) + l1) fun v17 =>
      if v14 = v17 then
        ld (B 1) 356 ((172 : Int32) + l4) fun v23 =>
        if v23 ≤ l3 then
          ld (B 1) 356 ((172 : Int32) + l4) fun v27 =>
          FX6_putAt_93 k14 l1 l2 l3 l4 v27 B
        else
          ld (B 1) 356 ((172 : Int32) + l4) fun v36 =>
          FX6_putAt_93 k14 l1 l2 l3 l4 (v36 - (1 : Int32)) B
      else
        lt1 (l4 + (1 : Int32)) fun x21 =>
        k14 l1 l2 l3 x21 B
set_option maxRecDepth 100000 in
def FX6_putAt_14 : Nat → Int32 → Int32 → Int32 → Int32 → Blk → Option Blk
  | 0 => fun _ _ _ _ _ => none
  | n + 1 => FX6_putAt_14s (FX6_putAt_14 n)
set_option maxRecDepth 100000 in
def FX6_putAt (B : Blk) (l1 : Int32) (l2 : Int32) : Option Blk :=
  ld (B 1) 356 ((172 : Int32) + l1) fun v1 =>
  FX6_putAt_14 fu l1 l2 v1 (0 : Int32) B
set_option maxRecDepth 100000 in
def FX6_move (B : Blk) (l1 : Int32) (l2 : Int32) : Option (Int32 × Blk) :=
  c1 (FX6_isTask B l1) fun r1 =>
  if r1 = 0 then
    some ((-1 : Int32), B)
  else
    ld (B 1) 356 ((4 : Int32) + l1) fun v4 =>
    c1 (FX6_manyOn B v4) fun r7 =>
    c1 (FX6_in l2 (0 : Int32) (r7 - (1 : Int32))) fun r9 =>
    if r9 = 0 then
      some ((-1 : Int32), B)
    else
      ld (B 1) 356 ((172 : Int32) + l1) fun v12 =>
      c1 (FX6_putAt B l1 l2) fun B17 =>
      c2 (FX6_reckon B17) fun r18 B20 =>
      c1 (FX6_putAt B20 l1 v12) fun B23 =>
      if r18 = 0 then
        some ((-5 : Int32), B23)
      else
        c1 (FX6_record B23) fun B27 =>
        c1 (FX6_putAt B27 l1 l2) fun B30 =>
        some (v12, B30)
set_option maxRecDepth 100000 in
def FX6_areLinked (B : Blk) (l1 : Int32) (l2 : Int32) : Option Int32 :=
  ld (B 1) 356 ((4 : Int32) + l1) fun v1 =>
  ld (B 1) 356 ((4 : Int32) + l2) fun v4 =>
  if v1 = v4 then
    some (1 : Int32)
  else
    ld (B 1) 356 ((100 : Int32) + l1) fun v8 =>
    if v8 = l2 then
      some (1 : Int32)
    else
      ld (B 1) 356 ((100 : Int32) + l2) fun v12 =>
      if v12 = l1 then
        some (1 : Int32)
      else
        some (0 : Int32)
set_option maxRecDepth 100000 in
def FX6_measure_124 (k37 : Int32 → Blk → Option Blk) (k49 : Int32 → Int32 → Blk → Option Blk) (k62 : Int32 → Int32 → Int32 → Blk → Option Blk) (l2 : Int32) (l3 : Int32) (l4 : Int32) (s0 : Int32) (s1 : Int32) (B : Blk) : Option Blk :=
  stb B 9 24 s1 s0 fun B34 =>
  lt1 (l4 + (1 : Int32)) fun x37 =>
  k62 l2 l3 x37 B34
set_option maxRecDepth 100000 in
def FX6_measure_117 (k37 : Int32 → Blk → Option Blk) (k49 : Int32 → Int32 → Blk → Option Blk) (k62 : Int32 → Int32 → Int32 → Blk → Option Blk) (l2 : Int32) (l3 : Int32) (l4 : Int32) (s0 : Int32) (B : Blk) : Option Blk :=
  ld (B 9) 24 l4 fun v31 =>
  FX6_measure_124 k37 k49 k62 l2 l3 l4 v31 s0 B
set_option maxRecDepth 100000 in
def FX6_measure_62s (k37 : Int32 → Blk → Option Blk) (k49 : Int32 → Int32 → Blk → Option Blk) (k62 : Int32 → Int32 → Int32 → Blk → Option Blk) (l2 : Int32) (l3 : Int32) (l4 : Int32) (B : Blk) : Option Blk :=
  ld (B 1) 356 (0 : Int32) fun v15 =>
  if v15 ≤ l4 then
    lt1 (l3 + (1 : Int32)) fun x19 =>
    k49 l2 x19 B
  else
    ld (B 9) 24 l3 fun v21 =>
    if v21 = l2 then
      ld (B 9) 24 l4 fun v27 =>
      if v27 = (-6 : Int32) then
        c1 (FX6_areLinked B l3 l4) fun r39 =>
        if r39 = 0 then
          FX6_measure_117 k37 k49 k62 l2 l3 l4 l4 B
        else
          FX6_measure_124 k37 k49 k62 l2 l3 l4 (l2 + (1 : Int32)) l4 B
      else
        FX6_measure_117 k37 k49 k62 l2 l3 l4 l4 B
    else
      lt1 (l3 + (1 : Int32)) fun x25 =>
      k49 l2 x25 B
set_option maxRecDepth 100000 in
def FX6_measure_62 (k37 : Int32 → Blk → Option Blk) (k49 : Int32 → Int32 → Blk → Option Blk) : Nat → Int32 → Int32 → Int32 → Blk → Option Blk
  | 0 => fun _ _ _ _ => none
  | n + 1 => FX6_measure_62s k37 k49 (FX6_measure_62 k37 k49 n)
set_option maxRecDepth 100000 in
def FX6_measure_49s (k37 : Int32 → Blk → Option Blk) (k49 : Int32 → Int32 → Blk → Option Blk) (l2 : Int32) (l3 : Int32) (B : Blk) : Option Blk :=
  ld (B 1) 356 (0 : Int32) fun v9 =>
  if v9 ≤ l3 then
    lt1 (l2 + (1 : Int32)) fun x13 =>
    k37 x13 B
  else
    FX6_measure_62 k37 k49 fu l2 l3 (0 : Int32) B
set_option maxRecDepth 100000 in
def FX6_measure_49 (k37 : Int32 → Blk → Option Blk) : Nat → Int32 → Int32 → Blk → Option Blk
  | 0 => fun _ _ _ => none
  | n + 1 => FX6_measure_49s k37 (FX6_measure_49 k37 n)
set_option maxRecDepth 100000 in
def FX6_measure_37s (k37 : Int32 → Blk → Option Blk) (l2 : Int32) (B : Blk) : Option Blk :=
  ld (B 1) 356 (0 : Int32) fun v5 =>
  if v5 ≤ l2 then
    some B
  else
    FX6_measure_49 k37 fu l2 (0 : Int32) B
set_option maxRecDepth 100000 in
def FX6_measure_37 : Nat → Int32 → Blk → Option Blk
  | 0 => fun _ _ => none
  | n + 1 => FX6_measure_37s (FX6_measure_37 n)
set_option maxRecDepth 100000 in
def FX6_measure_28 (k2 : Int32 → Int32 → Blk → Option Blk) (l1 : Int32) (l2 : Int32) (s0 : Int32) (s1 : Int32) (B : Blk) : Option Blk :=
  stb B 9 24 s1 s0 fun B43 =>
  lt1 (l2 + (1 : Int32)) fun x46 =>
  k2 l1 x46 B43
set_option maxRecDepth 100000 in
def FX6_measure_2s (k2 : Int32 → Int32 → Blk → Option Blk) (l1 : Int32) (l2 : Int32) (B : Blk) : Option Blk :=
  ld (B 1) 356 (0 : Int32) fun v1 =>
  if v1 ≤ l2 then
    FX6_measure_37 fu (0 : Int32) B
  else
    if l2 = l1 then
      FX6_measure_28 k2 l1 l2 (0 : Int32) l2 B
    else
      FX6_measure_28 k2 l1 l2 (-6 : Int32) l2 B
set_option maxRecDepth 100000 in
def FX6_measure_2 : Nat → Int32 → Int32 → Blk → Option Blk
  | 0 => fun _ _ _ => none
  | n + 1 => FX6_measure_2s (FX6_measure_2 n)
set_option maxRecDepth 100000 in
def FX6_measure (B : Blk) (l1 : Int32) : Option Blk :=
  FX6_measure_2 fu l1 (0 : Int32) B
set_option maxRecDepth 100000 in
def FX6_distance (B : Blk) (l1 : Int32) (l2 : Int32) : Option (Int32 × Blk) :=
  c1 (FX6_isTask B l1) fun r1 =>
  if r1 = 0 then
    some ((-1 : Int32), B)
  else
    c1 (FX6_isTask B l2) fun r4 =>
    if r4 = 0 then
      some ((-1 : Int32), B)
    else
      c1 (FX6_measure B l1) fun B9 =>
      ld (B9 9) 24 l2 fun v10 =>
      some (v10, B9)
set_option maxRecDepth 100000 in
def FX6_offer_78 (l4 : Int32) (s0 : Int32) (s1 : Int32) (B : Blk) : Option (Int32 × Blk) :=
  stb B 1 356 s1 s0 fun B20 =>
  some (l4, B20)
set_option maxRecDepth 100000 in
def FX6_offer (B : Blk) (l1 : Int32) (l2 : Int32) (l3 : Int32) : Option (Int32 × Blk) :=
  c1 (FX6_isTask B l1) fun r1 =>
  if r1 = 0 then
    some ((-1 : Int32), B)
  else
    c1 (FX6_in l2 (0 : Int32) (500 : Int32)) fun r4 =>
    if r4 = 0 then
      some ((-2 : Int32), B)
    else
      c1 (FX6_in l3 (0 : Int32) (1000 : Int32)) fun r7 =>
      if r7 = 0 then
        some ((-2 : Int32), B)
      else
        c1 (FX6_record B) fun B12 =>
        ld (B12 1) 356 ((124 : Int32) + l1) fun v13 =>
        stb B12 1 356 ((124 : Int32) + l1) l2 fun B16 =>
        if l2 = 0 then
          FX6_offer_78 v13 (0 : Int32) ((148 : Int32) + l1) B16
        else
          FX6_offer_78 v13 l3 ((148 : Int32) + l1) B16
set_option maxRecDepth 100000 in
def FX6_isSooner (B : Blk) (l1 : Int32) (l2 : Int32) : Option Int32 :=
  ld (B 1) 356 ((148 : Int32) + l1) fun v1 =>
  ld (B 1) 356 ((148 : Int32) + l2) fun v4 =>
  if v1 = v4 then
    ld (B 9) 24 l1 fun v8 =>
    ld (B 9) 24 l2 fun v11 =>
    if v11 ≤ v8 then
      some (0 : Int32)
    else
      some (1 : Int32)
  else
    ld (B 1) 356 ((148 : Int32) + l1) fun v15 =>
    ld (B 1) 356 ((148 : Int32) + l2) fun v18 =>
    if v18 ≤ v15 then
      some (0 : Int32)
    else
      some (1 : Int32)
set_option maxRecDepth 100000 in
def FX6_nextOffer_101 (B : Blk) (k6 : Int32 → Int32 → Int32 → Int32 → Option Int32) (l1 : Int32) (l2 : Int32) (l4 : Int32) : Option Int32 :=
  lt1 (l4 + (1 : Int32)) fun x10 =>
  k6 l1 l2 l4 x10
set_option maxRecDepth 100000 in
def FX6_nextOffer_78 (B : Blk) (k6 : Int32 → Int32 → Int32 → Int32 → Option Int32) (l1 : Int32) (l2 : Int32) (l3 : Int32) (l4 : Int32) (s0 : Int32) : Option Int32 :=
  if s0 = 0 then
    lt1 (l4 + (1 : Int32)) fun x7 =>
    k6 l1 l2 l3 x7
  else
    if l3 = (-6 : Int32) then
      FX6_nextOffer_101 B k6 l1 l2 l4
    else
      c1 (FX6_isSooner B l4 l3) fun r12 =>
      if r12 = 0 then
        lt1 (l4 + (1 : Int32)) fun x15 =>
        k6 l1 l2 l3 x15
      else
        FX6_nextOffer_101 B k6 l1 l2 l4
set_option maxRecDepth 100000 in
def FX6_nextOffer_77 (B : Blk) (k6 : Int32 → Int32 → Int32 → Int32 → Option Int32) (l1 : Int32) (l2 : Int32) (l3 : Int32) (l4 : Int32) : Option Int32 :=
  FX6_nextOffer_78 B k6 l1 l2 l3 l4 (0 : Int32)
set_option maxRecDepth 100000 in
def FX6_nextOffer_6s (B : Blk) (k6 : Int32 → Int32 → Int32 → Int32 → Option Int32) (l1 : Int32) (l2 : Int32) (l3 : Int32) (l4 : Int32) : Option Int32 :=
  ld (B 1) 356 (0 : Int32) fun v1 =>
  if v1 ≤ l4 then
    some l3
  else
    if l4 = l1 then
      FX6_nextOffer_77 B k6 l1 l2 l3 l4
    else
      ld (B 1) 356 ((124 : Int32) + l4) fun v17 =>
      if v17 ≤ 0 then
        FX6_nextOffer_77 B k6 l1 l2 l3 l4
      else
        ld (B 9) 24 l4 fun v21 =>
        if v21 = (-6 : Int32) then
          FX6_nextOffer_77 B k6 l1 l2 l3 l4
        else
          ld (B 9) 24 l4 fun v25 =>
          ld (B 1) 356 (2 : Int32) fun v28 =>
          if v28 < v25 then
            FX6_nextOffer_77 B k6 l1 l2 l3 l4
          else
            if ((l2 >>> (l4 &&& 31)) &&& (1 : Int32)) = 0 then
              FX6_nextOffer_78 B k6 l1 l2 l3 l4 (1 : Int32)
            else
              FX6_nextOffer_77 B k6 l1 l2 l3 l4
set_option maxRecDepth 100000 in
def FX6_nextOffer_6 (B : Blk) : Nat → Int32 → Int32 → Int32 → Int32 → Option Int32
  | 0 => fun _ _ _ _ => none
  | n + 1 => FX6_nextOffer_6s B (FX6_nextOffer_6 B n)
set_option maxRecDepth 100000 in
def FX6_nextOffer (B : Blk) (l1 : Int32) (l2 : Int32) : Option Int32 :=
  FX6_nextOffer_6 B fu l1 l2 (-6 : Int32) (0 : Int32)
set_option maxRecDepth 100000 in
def FX6_less (l0 : Int32) (l1 : Int32) : Option Int32 :=
  if l1 ≤ l0 then
    some l1
  else
    some l0
set_option maxRecDepth 100000 in
def FX6_hoursOf (B : Blk) (l1 : Int32) (l2 : Int32) : Option Int32 :=
  c1 (FX6_late B l1) fun r1 =>
  ld (B 1) 356 ((124 : Int32) + l2) fun v3 =>
  c1 (FX6_less r1 v3) fun r6 =>
  c1 (FX6_spared B l2) fun r8 =>
  c1 (FX6_less r6 r8) fun r10 =>
  ld (B 1) 356 ((148 : Int32) + l2) fun v12 =>
  if v12 = 0 then
    some r10
  else
    ld (B 1) 356 ((76 : Int32) + l1) fun v16 =>
    nz v12 <|
    c1 (FX6_less r10 (v16 / v12)) fun r20 =>
    some r20
set_option maxRecDepth 100000 in
def FX6_agree_177 (s0 : Int32) (s1 : Int32) (B : Blk) : Option Blk :=
  stb B 1 356 s1 s0 fun B59 =>
  some B59
set_option maxRecDepth 100000 in
def FX6_agree (B : Blk) (l1 : Int32) (l2 : Int32) (l3 : Int32) : Option Blk :=
  ld (B 1) 356 (3 : Int32) fun v1 =>
  ld (B 1) 356 ((148 : Int32) + l2) fun v4 =>
  ld (B 1) 356 (3 : Int32) fun v7 =>
  stb B 1 356 (3 : Int32) (v7 + (1 : Int32)) fun B10 =>
  stb B10 1 356 ((196 : Int32) + v1) l2 fun B13 =>
  stb B13 1 356 ((236 : Int32) + v1) l1 fun B16 =>
  stb B16 1 356 ((276 : Int32) + v1) l3 fun B19 =>
  stb B19 1 356 ((316 : Int32) + v1) v4 fun B22 =>
  ld (B22 1) 356 ((52 : Int32) + l2) fun v25 =>
  stb B22 1 356 ((52 : Int32) + l2) (v25 - l3) fun B28 =>
  ld (B28 1) 356 ((52 : Int32) + l1) fun v31 =>
  stb B28 1 356 ((52 : Int32) + l1) (v31 + l3) fun B34 =>
  ld (B34 1) 356 ((76 : Int32) + l1) fun v37 =>
  stb B34 1 356 ((76 : Int32) + l1) (v37 - (l3 * v4)) fun B40 =>
  ld (B40 1) 356 ((76 : Int32) + l2) fun v43 =>
  stb B40 1 356 ((76 : Int32) + l2) (v43 + (l3 * v4)) fun B46 =>
  ld (B46 1) 356 ((124 : Int32) + l2) fun v49 =>
  stb B46 1 356 ((124 : Int32) + l2) (v49 - l3) fun B52 =>
  ld (B52 1) 356 ((124 : Int32) + l2) fun v55 =>
  if v55 = 0 then
    FX6_agree_177 (0 : Int32) ((148 : Int32) + l2) B52
  else
    FX6_agree_177 v4 ((148 : Int32) + l2) B52
set_option maxRecDepth 100000 in
def FX6_buys_60 (k14 : Int32 → Int32 → Int32 → Blk → Option Blk) (l1 : Int32) (l2 : Int32) (l3 : Int32) (B : Blk) : Option Blk :=
  lt1 (l2 ||| ((1 : Int32) <<< (l3 &&& 31))) fun x17 =>
  c1 (FX6_nextOffer B l1 x17) fun r19 =>
  k14 l1 x17 r19 B
set_option maxRecDepth 100000 in
def FX6_buys_14s (k14 : Int32 → Int32 → Int32 → Blk → Option Blk) (l1 : Int32) (l2 : Int32) (l3 : Int32) (B : Blk) : Option Blk :=
  if l3 = (-6 : Int32) then
    some B
  else
    c1 (FX6_late B l1) fun r7 =>
    if r7 ≤ 0 then
      some B
    else
      ld (B 1) 356 (3 : Int32) fun v10 =>
      if (40 : Int32) ≤ v10 then
        some B
      else
        c1 (FX6_hoursOf B l1 l3) fun r14 =>
        if r14 ≤ 0 then
          FX6_buys_60 k14 l1 l2 l3 B
        else
          c1 (FX6_agree B l1 l3 r14) fun B23 =>
          FX6_buys_60 k14 l1 l2 l3 B23
set_option maxRecDepth 100000 in
def FX6_buys_14 : Nat → Int32 → Int32 → Int32 → Blk → Option Blk
  | 0 => fun _ _ _ _ => none
  | n + 1 => FX6_buys_14s (FX6_buys_14 n)
set_option maxRecDepth 100000 in
def FX6_buys (B : Blk) (l1 : Int32) : Option Blk :=
  c1 (FX6_measure B l1) fun B3 =>
  c1 (FX6_nextOffer B3 l1 (0 : Int32)) fun r4 =>
  FX6_buys_14 fu l1 (0 : Int32) r4 B3
set_option maxRecDepth 100000 in
def FX6_tradeAll_96 (k36 : Int32 → Blk → Option Blk) (k51 : Int32 → Int32 → Int32 → Blk → Option Blk) (l1 : Int32) (l2 : Int32) (l3 : Int32) (s0 : Int32) (B : Blk) : Option Blk :=
  if s0 = 0 then
    lt1 (l3 + (1 : Int32)) fun x32 =>
    k51 l1 l2 x32 B
  else
    lt1 (l3 + (1 : Int32)) fun x34 =>
    k51 l1 l3 x34 B
set_option maxRecDepth 100000 in
def FX6_tradeAll_95 (k36 : Int32 → Blk → Option Blk) (k51 : Int32 → Int32 → Int32 → Blk → Option Blk) (l1 : Int32) (l2 : Int32) (l3 : Int32) (B : Blk) : Option Blk :=
  FX6_tradeAll_96 k36 k51 l1 l2 l3 (0 : Int32) B
set_option maxRecDepth 100000 in
def FX6_tradeAll_91 (k36 : Int32 → Blk → Option Blk) (k51 : Int32 → Int32 → Int32 → Blk → Option Blk) (l1 : Int32) (l2 : Int32) (l3 : Int32) (B : Blk) : Option Blk :=
  FX6_tradeAll_96 k36 k51 l1 l2 l3 (1 : Int32) B
set_option maxRecDepth 100000 in
def FX6_tradeAll_51s (k36 : Int32 → Blk → Option Blk) (k51 : Int32 → Int32 → Int32 → Blk → Option Blk) (l1 : Int32) (l2 : Int32) (l3 : Int32) (B : Blk) : Option Blk :=
  ld (B 1) 356 (0 : Int32) fun v12 =>
  if v12 ≤ l3 then
    if l2 = (-6 : Int32) then
      lt1 (l1 + (1 : Int32)) fun x17 =>
      k36 x17 B
    else
      stb B 10 24 l2 (0 : Int32) fun B19 =>
      c1 (FX6_buys B19 l2) fun B24 =>
      lt1 (l1 + (1 : Int32)) fun x25 =>
      k36 x25 B24
  else
    ld (B 10) 24 l3 fun v27 =>
    if v27 ≤ 0 then
      FX6_tradeAll_95 k36 k51 l1 l2 l3 B
    else
      if l2 = (-6 : Int32) then
        FX6_tradeAll_91 k36 k51 l1 l2 l3 B
      else
        ld (B 10) 24 l3 fun v37 =>
        ld (B 10) 24 l2 fun v40 =>
        if v37 ≤ v40 then
          FX6_tradeAll_95 k36 k51 l1 l2 l3 B
        else
          FX6_tradeAll_91 k36 k51 l1 l2 l3 B
set_option maxRecDepth 100000 in
def FX6_tradeAll_51 (k36 : Int32 → Blk → Option Blk) : Nat → Int32 → Int32 → Int32 → Blk → Option Blk
  | 0 => fun _ _ _ _ => none
  | n + 1 => FX6_tradeAll_51s k36 (FX6_tradeAll_51 k36 n)
set_option maxRecDepth 100000 in
def FX6_tradeAll_36s (k36 : Int32 → Blk → Option Blk) (l1 : Int32) (B : Blk) : Option Blk :=
  ld (B 1) 356 (0 : Int32) fun v8 =>
  if v8 ≤ l1 then
    some B
  else
    FX6_tradeAll_51 k36 fu l1 (-6 : Int32) (0 : Int32) B
set_option maxRecDepth 100000 in
def FX6_tradeAll_36 : Nat → Int32 → Blk → Option Blk
  | 0 => fun _ _ => none
  | n + 1 => FX6_tradeAll_36s (FX6_tradeAll_36 n)
set_option maxRecDepth 100000 in
def FX6_tradeAll_7s (k7 : Int32 → Blk → Option Blk) (l1 : Int32) (B : Blk) : Option Blk :=
  ld (B 1) 356 (0 : Int32) fun v4 =>
  if v4 ≤ l1 then
    FX6_tradeAll_36 fu (0 : Int32) B
  else
    c1 (FX6_late B l1) fun r44 =>
    stb B 10 24 l1 r44 fun B46 =>
    lt1 (l1 + (1 : Int32)) fun x49 =>
    k7 x49 B46
set_option maxRecDepth 100000 in
def FX6_tradeAll_7 : Nat → Int32 → Blk → Option Blk
  | 0 => fun _ _ => none
  | n + 1 => FX6_tradeAll_7s (FX6_tradeAll_7 n)
set_option maxRecDepth 100000 in
def FX6_tradeAll (B : Blk) : Option Blk :=
  c2 (FX6_reckon B) fun r1 B3 =>
  FX6_tradeAll_7 fu (0 : Int32) B3
set_option maxRecDepth 100000 in
def FX6_trade (B : Blk) : Option (Int32 × Blk) :=
  c1 (FX6_record B) fun B3 =>
  ld (B3 1) 356 (3 : Int32) fun v4 =>
  c1 (FX6_tradeAll B3) fun B9 =>
  ld (B9 1) 356 (3 : Int32) fun v10 =>
  some ((v10 - v4), B9)
set_option maxRecDepth 100000 in
def FX6_isContract (B : Blk) (l1 : Int32) : Option Int32 :=
  if l1 < 0 then
    some (0 : Int32)
  else
    ld (B 1) 356 (3 : Int32) fun v2 =>
    if v2 ≤ l1 then
      some (0 : Int32)
    else
      some (1 : Int32)
set_option maxRecDepth 100000 in
def FX6_dropContract_12s (k12 : Int32 → Blk → Option Blk) (l2 : Int32) (B : Blk) : Option Blk :=
  ld (B 1) 356 (3 : Int32) fun v7 =>
  if v7 ≤ l2 then
    some B
  else
    ld (B 1) 356 (((196 : Int32) + l2) + (1 : Int32)) fun v11 =>
    stb B 1 356 ((196 : Int32) + l2) v11 fun B14 =>
    ld (B14 1) 356 (((236 : Int32) + l2) + (1 : Int32)) fun v17 =>
    stb B14 1 356 ((236 : Int32) + l2) v17 fun B20 =>
    ld (B20 1) 356 (((276 : Int32) + l2) + (1 : Int32)) fun v23 =>
    stb B20 1 356 ((276 : Int32) + l2) v23 fun B26 =>
    ld (B26 1) 356 (((316 : Int32) + l2) + (1 : Int32)) fun v29 =>
    stb B26 1 356 ((316 : Int32) + l2) v29 fun B32 =>
    lt1 (l2 + (1 : Int32)) fun x35 =>
    k12 x35 B32
set_option maxRecDepth 100000 in
def FX6_dropContract_12 : Nat → Int32 → Blk → Option Blk
  | 0 => fun _ _ => none
  | n + 1 => FX6_dropContract_12s (FX6_dropContract_12 n)
set_option maxRecDepth 100000 in
def FX6_dropContract (B : Blk) (l1 : Int32) : Option Blk :=
  ld (B 1) 356 (3 : Int32) fun v1 =>
  stb B 1 356 (3 : Int32) (v1 - (1 : Int32)) fun B4 =>
  FX6_dropContract_12 fu l1 B4
set_option maxRecDepth 100000 in
def FX6_refund (B : Blk) (l1 : Int32) (l2 : Int32) : Option (Int32 × Blk) :=
  c1 (FX6_isContract B l1) fun r1 =>
  if r1 = 0 then
    some ((-1 : Int32), B)
  else
    c1 (FX6_in l2 (1 : Int32) (500 : Int32)) fun r4 =>
    if r4 = 0 then
      some ((-2 : Int32), B)
    else
      ld (B 1) 356 ((276 : Int32) + l1) fun v7 =>
      if l2 ≤ v7 then
        ld (B 1) 356 ((196 : Int32) + l1) fun v11 =>
        ld (B 1) 356 ((236 : Int32) + l1) fun v14 =>
        ld (B 1) 356 ((316 : Int32) + l1) fun v17 =>
        ld (B 1) 356 (1 : Int32) fun v20 =>
        lt1 (((l2 * v17) * v20) / (100 : Int32)) fun x23 =>
        c2 (FX6_reckon B) fun r25 B27 =>
        ld (B27 8) 24 v14 fun v28 =>
        ld (B27 1) 356 ((52 : Int32) + v14) fun v31 =>
        if (v31 - l2) < v28 then
          some ((-5 : Int32), B27)
        else
          ld (B27 1) 356 ((76 : Int32) + v11) fun v35 =>
          if x23 ≤ v35 then
            c1 (FX6_record B27) fun B41 =>
            ld (B41 1) 356 ((52 : Int32) + v14) fun v42 =>
            stb B41 1 356 ((52 : Int32) + v14) (v42 - l2) fun B45 =>
            ld (B45 1) 356 ((52 : Int32) + v11) fun v48 =>
            stb B45 1 356 ((52 : Int32) + v11) (v48 + l2) fun B51 =>
            ld (B51 1) 356 ((76 : Int32) + v11) fun v54 =>
            stb B51 1 356 ((76 : Int32) + v11) (v54 - x23) fun B57 =>
            ld (B57 1) 356 ((76 : Int32) + v14) fun v60 =>
            stb B57 1 356 ((76 : Int32) + v14) (v60 + x23) fun B63 =>
            ld (B63 1) 356 ((276 : Int32) + l1) fun v66 =>
            stb B63 1 356 ((276 : Int32) + l1) (v66 - l2) fun B69 =>
            ld (B69 1) 356 ((276 : Int32) + l1) fun v72 =>
            if v72 = 0 then
              c1 (FX6_dropContract B69 l1) fun B78 =>
              some (v72, B78)
            else
              some (v72, B69)
          else
            some ((-5 : Int32), B27)
      else
        some ((-2 : Int32), B)
set_option maxRecDepth 100000 in
def FX6_give (B : Blk) (l1 : Int32) (l2 : Int32) (l3 : Int32) : Option (Int32 × Blk) :=
  c1 (FX6_isTask B l1) fun r1 =>
  if r1 = 0 then
    some ((-1 : Int32), B)
  else
    c1 (FX6_isTask B l2) fun r4 =>
    if r4 = 0 then
      some ((-1 : Int32), B)
    else
      if l1 = l2 then
        some ((-1 : Int32), B)
      else
        c1 (FX6_in l3 (1 : Int32) (100000 : Int32)) fun r8 =>
        if r8 = 0 then
          some ((-2 : Int32), B)
        else
          ld (B 1) 356 ((76 : Int32) + l1) fun v11 =>
          if l3 ≤ v11 then
            c1 (FX6_record B) fun B17 =>
            ld (B17 1) 356 ((76 : Int32) + l1) fun v18 =>
            stb B17 1 356 ((76 : Int32) + l1) (v18 - l3) fun B21 =>
            ld (B21 1) 356 ((76 : Int32) + l2) fun v24 =>
            stb B21 1 356 ((76 : Int32) + l2) (v24 + l3) fun B27 =>
            ld (B27 1) 356 ((76 : Int32) + l1) fun v30 =>
            some (v30, B27)
          else
            some ((-5 : Int32), B)
set_option maxRecDepth 100000 in
def FX6_hoursBy_45 (B : Blk) (k5 : Int32 → Int32 → Int32 → Int32 → Option Int32) (l1 : Int32) (l2 : Int32) (l4 : Int32) (s0 : Int32) (s1 : Int32) : Option Int32 :=
  lt1 (s1 + s0) fun x9 =>
  lt1 (l4 + (1 : Int32)) fun x11 =>
  k5 l1 l2 x9 x11
set_option maxRecDepth 100000 in
def FX6_hoursBy_5s (B : Blk) (k5 : Int32 → Int32 → Int32 → Int32 → Option Int32) (l1 : Int32) (l2 : Int32) (l3 : Int32) (l4 : Int32) : Option Int32 :=
  ld (B 1) 356 (3 : Int32) fun v1 =>
  if v1 ≤ l4 then
    some l3
  else
    ld (B 1) 356 (l1 + l4) fun v5 =>
    if v5 = l2 then
      ld (B 1) 356 ((276 : Int32) + l4) fun v13 =>
      FX6_hoursBy_45 B k5 l1 l2 l4 v13 l3
    else
      FX6_hoursBy_45 B k5 l1 l2 l4 (0 : Int32) l3
set_option maxRecDepth 100000 in
def FX6_hoursBy_5 (B : Blk) : Nat → Int32 → Int32 → Int32 → Int32 → Option Int32
  | 0 => fun _ _ _ _ => none
  | n + 1 => FX6_hoursBy_5s B (FX6_hoursBy_5 B n)
set_option maxRecDepth 100000 in
def FX6_hoursBy (B : Blk) (l1 : Int32) (l2 : Int32) : Option Int32 :=
  FX6_hoursBy_5 B fu l1 l2 (0 : Int32) (0 : Int32)
set_option maxRecDepth 100000 in
def FX6_behind_91 (B : Blk) (k4 : Int32 → Int32 → Int32 → Option Int32) (l1 : Int32) (l3 : Int32) (s0 : Int32) (s1 : Int32) : Option Int32 :=
  lt1 (s1 ||| s0) fun x13 =>
  lt1 (l3 + (1 : Int32)) fun x15 =>
  k4 l1 x13 x15
set_option maxRecDepth 100000 in
def FX6_behind_84 (B : Blk) (k4 : Int32 → Int32 → Int32 → Option Int32) (l1 : Int32) (l3 : Int32) (s0 : Int32) : Option Int32 :=
  FX6_behind_91 B k4 l1 l3 ((1 : Int32) <<< (l3 &&& 31)) s0
set_option maxRecDepth 100000 in
def FX6_behind_63 (B : Blk) (k4 : Int32 → Int32 → Int32 → Option Int32) (l1 : Int32) (l2 : Int32) (l3 : Int32) (s0 : Int32) : Option Int32 :=
  if s0 = 0 then
    ld (B 1) 356 ((100 : Int32) + l3) fun v17 =>
    if v17 = l1 then
      FX6_behind_84 B k4 l1 l3 l2
    else
      FX6_behind_91 B k4 l1 l3 (0 : Int32) l2
  else
    FX6_behind_84 B k4 l1 l3 l2
set_option maxRecDepth 100000 in
def FX6_behind_62 (B : Blk) (k4 : Int32 → Int32 → Int32 → Option Int32) (l1 : Int32) (l2 : Int32) (l3 : Int32) : Option Int32 :=
  FX6_behind_63 B k4 l1 l2 l3 (0 : Int32)
set_option maxRecDepth 100000 in
def FX6_behind_4s (B : Blk) (k4 : Int32 → Int32 → Int32 → Option Int32) (l1 : Int32) (l2 : Int32) (l3 : Int32) : Option Int32 :=
  ld (B 1) 356 (0 : Int32) fun v1 =>
  if v1 ≤ l3 then
    some l2
  else
    ld (B 1) 356 ((4 : Int32) + l3) fun v5 =>
    ld (B 1) 356 ((4 : Int32) + l1) fun v8 =>
    if v5 = v8 then
      ld (B 1) 356 ((172 : Int32) + l3) fun v21 =>
      ld (B 1) 356 ((172 : Int32) + l1) fun v24 =>
      if v21 = (v24 + (1 : Int32)) then
        FX6_behind_63 B k4 l1 l2 l3 (1 : Int32)
      else
        FX6_behind_62 B k4 l1 l2 l3
    else
      FX6_behind_62 B k4 l1 l2 l3
set_option maxRecDepth 100000 in
def FX6_behind_4 (B : Blk) : Nat → Int32 → Int32 → Int32 → Option Int32
  | 0 => fun _ _ _ => none
  | n + 1 => FX6_behind_4s B (FX6_behind_4 B n)
set_option maxRecDepth 100000 in
def FX6_behind (B : Blk) (l1 : Int32) : Option Int32 :=
  FX6_behind_4 B fu l1 (0 : Int32) (0 : Int32)
set_option maxRecDepth 100000 in
def FX6_ofTask (B : Blk) (l1 : Int32) (l2 : Int32) : Option (Int32 × Blk) :=
  c1 (FX6_isTask B l1) fun r1 =>
  if r1 = 0 then
    some ((-1 : Int32), B)
  else
    c1 (FX6_in l2 (0 : Int32) (13 : Int32)) fun r4 =>
    if r4 = 0 then
      some ((-2 : Int32), B)
    else
      c2 (FX6_reckon B) fun r7 B9 =>
      if l2 = (0 : Int32) then
        ld (B9 1) 356 ((4 : Int32) + l1) fun v11 =>
        some (v11, B9)
      else
        if l2 = (1 : Int32) then
          ld (B9 1) 356 ((28 : Int32) + l1) fun v15 =>
          some (v15, B9)
        else
          if l2 = (2 : Int32) then
            ld (B9 1) 356 ((100 : Int32) + l1) fun v19 =>
            some (v19, B9)
          else
            if l2 = (3 : Int32) then
              ld (B9 1) 356 ((172 : Int32) + l1) fun v23 =>
              some (v23, B9)
            else
              if l2 = (4 : Int32) then
                ld (B9 7) 24 l1 fun v27 =>
                some (v27, B9)
              else
                if l2 = (5 : Int32) then
                  ld (B9 8) 24 l1 fun v31 =>
                  some (v31, B9)
                else
                  if l2 = (6 : Int32) then
                    c1 (FX6_late B9 l1) fun r35 =>
                    some (r35, B9)
                  else
                    if l2 = (7 : Int32) then
                      c1 (FX6_spared B9 l1) fun r38 =>
                      some (r38, B9)
                    else
                      if l2 = (8 : Int32) then
                        c2 (FX6_slack B9 l1) fun r41 B43 =>
                        some (r41, B43)
                      else
                        if l2 = (9 : Int32) then
                          ld (B9 1) 356 ((124 : Int32) + l1) fun v45 =>
                          some (v45, B9)
                        else
                          if l2 = (10 : Int32) then
                            ld (B9 1) 356 ((148 : Int32) + l1) fun v49 =>
                            some (v49, B9)
                          else
                            if l2 = (11 : Int32) then
                              c1 (FX6_hoursBy B9 (196 : Int32) l1) fun r53 =>
                              some (r53, B9)
                            else
                              if l2 = (12 : Int32) then
                                c1 (FX6_hoursBy B9 (236 : Int32) l1) fun r56 =>
                                some (r56, B9)
                              else
                                c1 (FX6_behind B9 l1) fun r58 =>
                                some (r58, B9)
set_option maxRecDepth 100000 in
def FX6_due (B : Blk) (l1 : Int32) : Option Int64 :=
  c1 (FX6_isTask B l1) fun r1 =>
  if r1 = 0 then
    some (-1 : Int64)
  else
    ld (B 1) 356 ((52 : Int32) + l1) fun v4 =>
    some v4.toInt64
set_option maxRecDepth 100000 in
def FX6_money (B : Blk) (l1 : Int32) : Option Int32 :=
  c1 (FX6_isTask B l1) fun r1 =>
  if r1 = 0 then
    some (-1 : Int32)
  else
    ld (B 1) 356 ((76 : Int32) + l1) fun v4 =>
    some v4
set_option maxRecDepth 100000 in
def FX6_at (B : Blk) (l1 : Int32) (l2 : Int32) : Option Int32 :=
  c1 (FX6_in l1 (0 : Int32) (3 : Int32)) fun r1 =>
  if r1 = 0 then
    some (-1 : Int32)
  else
    c1 (FX6_taskAt B l1 l2) fun r4 =>
    some r4
set_option maxRecDepth 100000 in
def FX6_ofContract (B : Blk) (l1 : Int32) (l2 : Int32) : Option Int32 :=
  c1 (FX6_isContract B l1) fun r1 =>
  if r1 = 0 then
    some (-1 : Int32)
  else
    c1 (FX6_in l2 (0 : Int32) (3 : Int32)) fun r4 =>
    if r4 = 0 then
      some (-2 : Int32)
    else
      ld (B 1) 356 (((196 : Int32) + ((40 : Int32) * l2)) + l1) fun v7 =>
      some v7
set_option maxRecDepth 100000 in
def FX6_offers_32 (B : Blk) (k4 : Int32 → Int32 → Option Int32) (l2 : Int32) (s0 : Int32) (s1 : Int32) : Option Int32 :=
  lt1 (s1 + s0) fun x9 =>
  lt1 (l2 + (1 : Int32)) fun x11 =>
  k4 x9 x11
set_option maxRecDepth 100000 in
def FX6_offers_4s (B : Blk) (k4 : Int32 → Int32 → Option Int32) (l1 : Int32) (l2 : Int32) : Option Int32 :=
  ld (B 1) 356 (0 : Int32) fun v1 =>
  if v1 ≤ l2 then
    some l1
  else
    ld (B 1) 356 ((124 : Int32) + l2) fun v5 =>
    if v5 ≤ 0 then
      FX6_offers_32 B k4 l2 (0 : Int32) l1
    else
      FX6_offers_32 B k4 l2 (1 : Int32) l1
set_option maxRecDepth 100000 in
def FX6_offers_4 (B : Blk) : Nat → Int32 → Int32 → Option Int32
  | 0 => fun _ _ => none
  | n + 1 => FX6_offers_4s B (FX6_offers_4 B n)
set_option maxRecDepth 100000 in
def FX6_offers (B : Blk) : Option Int32 :=
  FX6_offers_4 B fu (0 : Int32) (0 : Int32)
set_option maxRecDepth 100000 in
def FX6_lateSet_30 (B : Blk) (k4 : Int32 → Int32 → Option Int32) (l2 : Int32) (s0 : Int32) (s1 : Int32) : Option Int32 :=
  lt1 (s1 ||| s0) fun x8 =>
  lt1 (l2 + (1 : Int32)) fun x10 =>
  k4 x8 x10
set_option maxRecDepth 100000 in
def FX6_lateSet_4s (B : Blk) (k4 : Int32 → Int32 → Option Int32) (l1 : Int32) (l2 : Int32) : Option Int32 :=
  ld (B 1) 356 (0 : Int32) fun v1 =>
  if v1 ≤ l2 then
    some l1
  else
    c1 (FX6_late B l2) fun r5 =>
    if r5 ≤ 0 then
      FX6_lateSet_30 B k4 l2 (0 : Int32) l1
    else
      FX6_lateSet_30 B k4 l2 ((1 : Int32) <<< (l2 &&& 31)) l1
set_option maxRecDepth 100000 in
def FX6_lateSet_4 (B : Blk) : Nat → Int32 → Int32 → Option Int32
  | 0 => fun _ _ => none
  | n + 1 => FX6_lateSet_4s B (FX6_lateSet_4 B n)
set_option maxRecDepth 100000 in
def FX6_lateSet (B : Blk) : Option Int32 :=
  FX6_lateSet_4 B fu (0 : Int32) (0 : Int32)
set_option maxRecDepth 100000 in
def FX6_endOfAll_4s (B : Blk) (k4 : Int32 → Int32 → Option Int32) (l1 : Int32) (l2 : Int32) : Option Int32 :=
  ld (B 1) 356 (0 : Int32) fun v1 =>
  if v1 ≤ l2 then
    some l1
  else
    ld (B 8) 24 l2 fun v5 =>
    if v5 ≤ l1 then
      lt1 (l2 + (1 : Int32)) fun x9 =>
      k4 l1 x9
    else
      ld (B 8) 24 l2 fun v11 =>
      lt1 (l2 + (1 : Int32)) fun x14 =>
      k4 v11 x14
set_option maxRecDepth 100000 in
def FX6_endOfAll_4 (B : Blk) : Nat → Int32 → Int32 → Option Int32
  | 0 => fun _ _ => none
  | n + 1 => FX6_endOfAll_4s B (FX6_endOfAll_4 B n)
set_option maxRecDepth 100000 in
def FX6_endOfAll (B : Blk) : Option Int32 :=
  FX6_endOfAll_4 B fu (0 : Int32) (0 : Int32)
set_option maxRecDepth 100000 in
def FX6_sumOf_5s (B : Blk) (k5 : Int32 → Int32 → Int32 → Int32 → Option Int32) (l1 : Int32) (l2 : Int32) (l3 : Int32) (l4 : Int32) : Option Int32 :=
  if l2 ≤ l4 then
    some l3
  else
    ld (B 1) 356 (l1 + l4) fun v2 =>
    lt1 (l3 + v2) fun x5 =>
    lt1 (l4 + (1 : Int32)) fun x7 =>
    k5 l1 l2 x5 x7
set_option maxRecDepth 100000 in
def FX6_sumOf_5 (B : Blk) : Nat → Int32 → Int32 → Int32 → Int32 → Option Int32
  | 0 => fun _ _ _ _ => none
  | n + 1 => FX6_sumOf_5s B (FX6_sumOf_5 B n)
set_option maxRecDepth 100000 in
def FX6_sumOf (B : Blk) (l1 : Int32) (l2 : Int32) : Option Int32 :=
  FX6_sumOf_5 B fu l1 l2 (0 : Int32) (0 : Int32)
set_option maxRecDepth 100000 in
def FX6_count (B : Blk) (l1 : Int32) : Option (Int32 × Blk) :=
  c1 (FX6_in l1 (0 : Int32) (15 : Int32)) fun r1 =>
  if r1 = 0 then
    some ((-2 : Int32), B)
  else
    c2 (FX6_reckon B) fun r4 B6 =>
    if l1 = (0 : Int32) then
      ld (B6 1) 356 (0 : Int32) fun v8 =>
      some (v8, B6)
    else
      if l1 = (1 : Int32) then
        ld (B6 1) 356 (3 : Int32) fun v12 =>
        some (v12, B6)
      else
        if l1 = (2 : Int32) then
          c1 (FX6_offers B6) fun r16 =>
          some (r16, B6)
        else
          if l1 = (3 : Int32) then
            c1 (FX6_lateSet B6) fun r19 =>
            some (r19, B6)
          else
            if l1 = (4 : Int32) then
              c1 (FX6_lateTogether B6) fun r22 =>
              some (r22, B6)
            else
              if l1 = (5 : Int32) then
                c1 (FX6_endOfAll B6) fun r25 =>
                some (r25, B6)
              else
                if l1 = (6 : Int32) then
                  ld (B6 1) 356 (0 : Int32) fun v28 =>
                  c1 (FX6_sumOf B6 (76 : Int32) v28) fun r31 =>
                  some (r31, B6)
                else
                  if l1 = (7 : Int32) then
                    ld (B6 1) 356 (3 : Int32) fun v34 =>
                    c1 (FX6_sumOf B6 (276 : Int32) v34) fun r37 =>
                    some (r37, B6)
                  else
                    if l1 = (8 : Int32) then
                      some (((B6 0) 8), B6)
                    else
                      if l1 = (9 : Int32) then
                        some (((B6 0) 5), B6)
                      else
                        if (12 : Int32) ≤ l1 then
                          c1 (FX6_manyOn B6 (l1 - (12 : Int32))) fun r42 =>
                          some (r42, B6)
                        else
                          ld (B6 1) 356 (((1 : Int32) + l1) - (10 : Int32)) fun v44 =>
                          some (v44, B6)
set_option maxRecDepth 100000 in
def FX6_wouldBuy_63s (k63 : Int32 → Int32 → Int32 → Int32 → Int32 → Int32 → Blk → Option (Int32 × Blk)) (l1 : Int32) (l2 : Int32) (l4 : Int32) (l5 : Int32) (l6 : Int32) (l7 : Int32) (B : Blk) : Option (Int32 × Blk) :=
  ld (B 1) 356 (3 : Int32) fun v22 =>
  if v22 ≤ l7 then
    ld (B 1) 356 ((76 : Int32) + l1) fun v26 =>
    lt1 (l4 - v26) fun x29 =>
    c1 (FX6_bringBack B) fun B33 =>
    if l2 = 0 then
      some (l5, B33)
    else
      if l2 = (1 : Int32) then
        some (x29, B33)
      else
        some (l6, B33)
  else
    ld (B 1) 356 ((276 : Int32) + l7) fun v36 =>
    lt1 (l5 + v36) fun x39 =>
    ld (B 1) 356 ((196 : Int32) + l7) fun v41 =>
    lt1 (l6 ||| ((1 : Int32) <<< (v41 &&& 31))) fun x44 =>
    lt1 (l7 + (1 : Int32)) fun x46 =>
    k63 l1 l2 l4 x39 x44 x46 B
set_option maxRecDepth 100000 in
def FX6_wouldBuy_63 : Nat → Int32 → Int32 → Int32 → Int32 → Int32 → Int32 → Blk → Option (Int32 × Blk)
  | 0 => fun _ _ _ _ _ _ _ => none
  | n + 1 => FX6_wouldBuy_63s (FX6_wouldBuy_63 n)
set_option maxRecDepth 100000 in
def FX6_wouldBuy (B : Blk) (l1 : Int32) (l2 : Int32) : Option (Int32 × Blk) :=
  c1 (FX6_isTask B l1) fun r1 =>
  if r1 = 0 then
    some ((-1 : Int32), B)
  else
    c1 (FX6_in l2 (0 : Int32) (2 : Int32)) fun r4 =>
    if r4 = 0 then
      some ((-2 : Int32), B)
    else
      c1 (FX6_putAside B) fun B9 =>
      c2 (FX6_reckon B9) fun r10 B12 =>
      ld (B12 1) 356 (3 : Int32) fun v13 =>
      ld (B12 1) 356 ((76 : Int32) + l1) fun v16 =>
      c1 (FX6_buys B12 l1) fun B21 =>
      FX6_wouldBuy_63 fu l1 l2 v16 (0 : Int32) (0 : Int32) v13 B21
set_option maxRecDepth 100000 in
def FX6_leastMoney_61 (l2 : Int32) (s0 : Int32) (B : Blk) : Option (Int32 × Blk) :=
  c1 (FX6_bringBack B) fun B26 =>
  if s0 = 0 then
    some ((-6 : Int32), B26)
  else
    some (l2, B26)
set_option maxRecDepth 100000 in
def FX6_leastMoney (B : Blk) (l1 : Int32) : Option (Int32 × Blk) :=
  c1 (FX6_isTask B l1) fun r1 =>
  if r1 = 0 then
    some ((-1 : Int32), B)
  else
    c1 (FX6_putAside B) fun B6 =>
    c2 (FX6_reckon B6) fun r7 B9 =>
    stb B9 1 356 ((76 : Int32) + l1) (100000000 : Int32) fun B10 =>
    c1 (FX6_buys B10 l1) fun B15 =>
    ld (B15 1) 356 ((76 : Int32) + l1) fun v16 =>
    lt1 ((100000000 : Int32) - v16) fun x19 =>
    c1 (FX6_late B15 l1) fun r21 =>
    if r21 = 0 then
      FX6_leastMoney_61 x19 (1 : Int32) B15
    else
      FX6_leastMoney_61 x19 (0 : Int32) B15
set_option maxRecDepth 100000 in
def FX6_endIf (B : Blk) (l1 : Int32) (l2 : Int32) (l3 : Int32) : Option (Int32 × Blk) :=
  c1 (FX6_isTask B l1) fun r1 =>
  if r1 = 0 then
    some ((-1 : Int32), B)
  else
    c1 (FX6_isTask B l2) fun r4 =>
    if r4 = 0 then
      some ((-1 : Int32), B)
    else
      c1 (FX6_in l3 (1 : Int32) (100 : Int32)) fun r7 =>
      if r7 = 0 then
        some ((-2 : Int32), B)
      else
        ld (B 1) 356 ((28 : Int32) + l2) fun v10 =>
        stb B 1 356 ((28 : Int32) + l2) l3 fun B13 =>
        c2 (FX6_reckon B13) fun r16 B18 =>
        stb B18 1 356 ((28 : Int32) + l2) v10 fun B19 =>
        ld (B19 8) 24 l1 fun v22 =>
        some (v22, B19)
set_option maxRecDepth 100000 in
def FX6_bestPlace_88 (k44 : Int32 → Int32 → Int32 → Int32 → Int32 → Int32 → Blk → Option (Int32 × Blk)) (l1 : Int32) (l2 : Int32) (l5 : Int32) (l6 : Int32) (l8 : Int32) (B : Blk) : Option (Int32 × Blk) :=
  lt1 (l6 + (1 : Int32)) fun x28 =>
  k44 l1 l2 l6 l8 l5 x28 B
set_option maxRecDepth 100000 in
def FX6_bestPlace_44s (k44 : Int32 → Int32 → Int32 → Int32 → Int32 → Int32 → Blk → Option (Int32 × Blk)) (l1 : Int32) (l2 : Int32) (l3 : Int32) (l4 : Int32) (l5 : Int32) (l6 : Int32) (B : Blk) : Option (Int32 × Blk) :=
  if l5 ≤ l6 then
    c1 (FX6_putAt B l1 l2) fun B15 =>
    some (l3, B15)
  else
    c1 (FX6_putAt B l1 l6) fun B18 =>
    c2 (FX6_reckon B18) fun r19 B21 =>
    c1 (FX6_lateTogether B21) fun r22 =>
    if r19 = 0 then
      lt1 (l6 + (1 : Int32)) fun x25 =>
      k44 l1 l2 l3 l4 l5 x25 B21
    else
      if l3 = (-6 : Int32) then
        FX6_bestPlace_88 k44 l1 l2 l5 l6 r22 B21
      else
        if l4 ≤ r22 then
          lt1 (l6 + (1 : Int32)) fun x31 =>
          k44 l1 l2 l3 l4 l5 x31 B21
        else
          FX6_bestPlace_88 k44 l1 l2 l5 l6 r22 B21
set_option maxRecDepth 100000 in
def FX6_bestPlace_44 : Nat → Int32 → Int32 → Int32 → Int32 → Int32 → Int32 → Blk → Option (Int32 × Blk)
  | 0 => fun _ _ _ _ _ _ _ => none
  | n + 1 => FX6_bestPlace_44s (FX6_bestPlace_44 n)
set_option maxRecDepth 100000 in
def FX6_bestPlace (B : Blk) (l1 : Int32) : Option (Int32 × Blk) :=
  c1 (FX6_isTask B l1) fun r1 =>
  if r1 = 0 then
    some ((-1 : Int32), B)
  else
    ld (B 1) 356 ((172 : Int32) + l1) fun v4 =>
    ld (B 1) 356 ((4 : Int32) + l1) fun v7 =>
    c1 (FX6_manyOn B v7) fun r10 =>
    FX6_bestPlace_44 fu l1 v4 (-6 : Int32) (0 : Int32) r10 (0 : Int32) B
set_option maxRecDepth 100000 in
def FX6_critical_146 (k50 : Int32 → Int32 → Blk → Option (Int32 × Blk)) (k62 : Int32 → Int32 → Int32 → Blk → Option (Int32 × Blk)) (k75 : Int32 → Int32 → Int32 → Int32 → Blk → Option (Int32 × Blk)) (l2 : Int32) (l3 : Int32) (l4 : Int32) (s0 : Int32) (s1 : Int32) (B : Blk) : Option (Int32 × Blk) :=
  lt1 (s1 ||| s0) fun x31 =>
  lt1 (l4 + (1 : Int32)) fun x33 =>
  k75 x31 l2 l3 x33 B
set_option maxRecDepth 100000 in
def FX6_critical_130 (k50 : Int32 → Int32 → Blk → Option (Int32 × Blk)) (k62 : Int32 → Int32 → Int32 → Blk → Option (Int32 × Blk)) (k75 : Int32 → Int32 → Int32 → Int32 → Blk → Option (Int32 × Blk)) (l1 : Int32) (l2 : Int32) (l3 : Int32) (l4 : Int32) (s0 : Int32) (B : Blk) : Option (Int32 × Blk) :=
  if s0 = 0 then
    FX6_critical_146 k50 k62 k75 l2 l3 l4 (0 : Int32) l1 B
  else
    FX6_critical_146 k50 k62 k75 l2 l3 l4 ((1 : Int32) <<< (l4 &&& 31)) l1 B
set_option maxRecDepth 100000 in
def FX6_critical_129 (k50 : Int32 → Int32 → Blk → Option (Int32 × Blk)) (k62 : Int32 → Int32 → Int32 → Blk → Option (Int32 × Blk)) (k75 : Int32 → Int32 → Int32 → Int32 → Blk → Option (Int32 × Blk)) (l1 : Int32) (l2 : Int32) (l3 : Int32) (l4 : Int32) (B : Blk) : Option (Int32 × Blk) :=
  FX6_critical_130 k50 k62 k75 l1 l2 l3 l4 (0 : Int32) B
set_option maxRecDepth 100000 in
def FX6_critical_75s (k50 : Int32 → Int32 → Blk → Option (Int32 × Blk)) (k62 : Int32 → Int32 → Int32 → Blk → Option (Int32 × Blk)) (k75 : Int32 → Int32 → Int32 → Int32 → Blk → Option (Int32 × Blk)) (l1 : Int32) (l2 : Int32) (l3 : Int32) (l4 : Int32) (B : Blk) : Option (Int32 × Blk) :=
  ld (B 1) 356 (0 : Int32) fun v18 =>
  if v18 ≤ l4 then
    lt1 (l3 + (1 : Int32)) fun x22 =>
    k62 l1 l2 x22 B
  else
    if ((l1 >>> (l3 &&& 31)) &&& (1 : Int32)) = (1 : Int32) then
      c1 (FX6_behind B l4) fun r27 =>
      if ((r27 >>> (l3 &&& 31)) &&& (1 : Int32)) = (1 : Int32) then
        ld (B 8) 24 l4 fun v35 =>
        ld (B 7) 24 l3 fun v38 =>
        if v35 = v38 then
          FX6_critical_130 k50 k62 k75 l1 l2 l3 l4 (1 : Int32) B
        else
          FX6_critical_129 k50 k62 k75 l1 l2 l3 l4 B
      else
        FX6_critical_129 k50 k62 k75 l1 l2 l3 l4 B
    else
      lt1 (l3 + (1 : Int32)) fun x25 =>
      k62 l1 l2 x25 B
set_option maxRecDepth 100000 in
def FX6_critical_75 (k50 : Int32 → Int32 → Blk → Option (Int32 × Blk)) (k62 : Int32 → Int32 → Int32 → Blk → Option (Int32 × Blk)) : Nat → Int32 → Int32 → Int32 → Int32 → Blk → Option (Int32 × Blk)
  | 0 => fun _ _ _ _ _ => none
  | n + 1 => FX6_critical_75s k50 k62 (FX6_critical_75 k50 k62 n)
set_option maxRecDepth 100000 in
def FX6_critical_62s (k50 : Int32 → Int32 → Blk → Option (Int32 × Blk)) (k62 : Int32 → Int32 → Int32 → Blk → Option (Int32 × Blk)) (l1 : Int32) (l2 : Int32) (l3 : Int32) (B : Blk) : Option (Int32 × Blk) :=
  ld (B 1) 356 (0 : Int32) fun v12 =>
  if v12 ≤ l3 then
    lt1 (l2 + (1 : Int32)) fun x16 =>
    k50 l1 x16 B
  else
    FX6_critical_75 k50 k62 fu l1 l2 l3 (0 : Int32) B
set_option maxRecDepth 100000 in
def FX6_critical_62 (k50 : Int32 → Int32 → Blk → Option (Int32 × Blk)) : Nat → Int32 → Int32 → Int32 → Blk → Option (Int32 × Blk)
  | 0 => fun _ _ _ _ => none
  | n + 1 => FX6_critical_62s k50 (FX6_critical_62 k50 n)
set_option maxRecDepth 100000 in
def FX6_critical_50s (k50 : Int32 → Int32 → Blk → Option (Int32 × Blk)) (l1 : Int32) (l2 : Int32) (B : Blk) : Option (Int32 × Blk) :=
  ld (B 1) 356 (0 : Int32) fun v8 =>
  if v8 ≤ l2 then
    some (l1, B)
  else
    FX6_critical_62 k50 fu l1 l2 (0 : Int32) B
set_option maxRecDepth 100000 in
def FX6_critical_50 : Nat → Int32 → Int32 → Blk → Option (Int32 × Blk)
  | 0 => fun _ _ _ => none
  | n + 1 => FX6_critical_50s (FX6_critical_50 n)
set_option maxRecDepth 100000 in
def FX6_critical_40 (k9 : Int32 → Int32 → Blk → Option (Int32 × Blk)) (l2 : Int32) (s0 : Int32) (s1 : Int32) (B : Blk) : Option (Int32 × Blk) :=
  lt1 (s1 ||| s0) fun x48 =>
  lt1 (l2 + (1 : Int32)) fun x50 =>
  k9 x48 x50 B
set_option maxRecDepth 100000 in
def FX6_critical_9s (k9 : Int32 → Int32 → Blk → Option (Int32 × Blk)) (l1 : Int32) (l2 : Int32) (B : Blk) : Option (Int32 × Blk) :=
  ld (B 1) 356 (0 : Int32) fun v4 =>
  if v4 ≤ l2 then
    FX6_critical_50 fu l1 (0 : Int32) B
  else
    ld (B 8) 24 l2 fun v42 =>
    c1 (FX6_endOfAll B) fun r45 =>
    if v42 = r45 then
      FX6_critical_40 k9 l2 ((1 : Int32) <<< (l2 &&& 31)) l1 B
    else
      FX6_critical_40 k9 l2 (0 : Int32) l1 B
set_option maxRecDepth 100000 in
def FX6_critical_9 : Nat → Int32 → Int32 → Blk → Option (Int32 × Blk)
  | 0 => fun _ _ _ => none
  | n + 1 => FX6_critical_9s (FX6_critical_9 n)
set_option maxRecDepth 100000 in
def FX6_critical (B : Blk) : Option (Int32 × Blk) :=
  c2 (FX6_reckon B) fun r1 B3 =>
  FX6_critical_9 fu (0 : Int32) (0 : Int32) B3
set_option maxRecDepth 100000 in
def FX6_lateBehind (B : Blk) : Option (Int32 × Blk) :=
  c1 (FX6_putAside B) fun B3 =>
  c1 (FX6_tradeAll B3) fun B6 =>
  c1 (FX6_lateTogether B6) fun r7 =>
  c1 (FX6_bringBack B6) fun B11 =>
  some (r7, B11)
set_option maxRecDepth 100000 in
def FX6_put_97s (k97 : Int64 → Int32 → Blk → Option (Int32 × Blk)) (l1 : Int64) (l7 : Int32) (B : Blk) : Option (Int32 × Blk) :=
  if l7 < 0 then
    some (((B 0) 8), B)
  else
    stb B 6 80 ((B 0) 8) (vp_nar .char ((((((l1.toUInt64 >>> (((8 : Int32) * l7).toInt64.toUInt64 &&& Int64.toUInt64 63)).toInt64) &&& (255 : Int64)).toInt32).toUInt32 % 65536).toInt32)) fun B8 =>
    lt1 (bs B8 0 8 (((B8 0) 8) + (1 : Int32))) fun B11 =>
    lt1 (l7 + (-1 : Int32)) fun x13 =>
    k97 l1 x13 B11
set_option maxRecDepth 100000 in
def FX6_put_97 : Nat → Int64 → Int32 → Blk → Option (Int32 × Blk)
  | 0 => fun _ _ _ => none
  | n + 1 => FX6_put_97s (FX6_put_97 n)
set_option maxRecDepth 100000 in
def FX6_put_66 (l1 : Int64) (l3 : Int32) (l6 : Int32) (B : Blk) : Option (Int32 × Blk) :=
  if l3 = 0 then
    some ((-2 : Int32), B)
  else
    if l6 = 0 then
      some ((-2 : Int32), B)
    else
      if (((B 0) 8) + l3) ≤ (80 : Int32) then
        lt1 (l3 - (1 : Int32)) fun x5 =>
        FX6_put_97 fu l1 x5 B
      else
        some ((-4 : Int32), B)
set_option maxRecDepth 100000 in
def FX6_put_11s (k11 : Int64 → Int32 → Int64 → Int32 → Int32 → Blk → Option (Int32 × Blk)) (l1 : Int64) (l3 : Int32) (l4 : Int64) (l6 : Int32) (l7 : Int32) (B : Blk) : Option (Int32 × Blk) :=
  if (8 : Int32) ≤ l7 then
    FX6_put_66 l1 l3 l6 B
  else
    if (lg_cmp l4 (0 : Int64)) = 0 then
      FX6_put_66 l1 l3 l6 B
    else
      if l6 = 0 then
        FX6_put_66 l1 l3 l6 B
      else
        lt1 ((l4 &&& (255 : Int64)).toInt32) fun x17 =>
        c1 (FX6_in x17 (33 : Int32) (126 : Int32)) fun r19 =>
        lt1 ((l4.toUInt64 >>> ((8 : Int32).toInt64.toUInt64 &&& Int64.toUInt64 63)).toInt64) fun x21 =>
        lt1 (l3 + (1 : Int32)) fun x23 =>
        lt1 (l7 + (1 : Int32)) fun x25 =>
        k11 l1 x23 x21 r19 x25 B
set_option maxRecDepth 100000 in
def FX6_put_11 : Nat → Int64 → Int32 → Int64 → Int32 → Int32 → Blk → Option (Int32 × Blk)
  | 0 => fun _ _ _ _ _ _ => none
  | n + 1 => FX6_put_11s (FX6_put_11 n)
set_option maxRecDepth 100000 in
def FX6_put (B : Blk) (l1 : Int64) : Option (Int32 × Blk) :=
  FX6_put_11 fu l1 (0 : Int32) l1 (1 : Int32) (0 : Int32) B
set_option maxRecDepth 100000 in
def FX6_wipe (B : Blk) : Option (Int32 × Blk) :=
  lt1 ((B 0) 8) fun x1 =>
  lt1 (bs B 0 8 (0 : Int32)) fun B3 =>
  some (x1, B3)
set_option maxRecDepth 100000 in
def FX6_letter (B : Blk) (l1 : Int32) : Option Int32 :=
  if ((B 0) 8) ≤ l1 then
    some (-1 : Int32)
  else
    ld (B 6) 80 l1 fun v2 =>
    some v2
set_option maxRecDepth 100000 in
def FX6_isDigit (B : Blk) (l1 : Int32) : Option Int32 :=
  c1 (FX6_letter B l1) fun r1 =>
  if r1 < (48 : Int32) then
    some (0 : Int32)
  else
    c1 (FX6_letter B l1) fun r4 =>
    if (57 : Int32) < r4 then
      some (0 : Int32)
    else
      some (1 : Int32)
set_option maxRecDepth 100000 in
def FX6_fail_21 (s0 : Int32) (B : Blk) : Option Blk :=
  lt1 (bs B 0 18 s0) fun B2 =>
  some B2
set_option maxRecDepth 100000 in
def FX6_fail (B : Blk) : Option Blk :=
  if ((B 0) 18) = (-6 : Int32) then
    FX6_fail_21 ((B 0) 17) B
  else
    FX6_fail_21 ((B 0) 18) B
set_option maxRecDepth 100000 in
def FX6_takes_16 (B : Blk) : Option Blk :=
  lt1 (bs B 0 17 (((B 0) 17) + (1 : Int32))) fun B4 =>
  some B4
set_option maxRecDepth 100000 in
def FX6_takes (B : Blk) (l1 : Int32) : Option Blk :=
  c1 (FX6_letter B ((B 0) 17)) fun r1 =>
  if r1 = l1 then
    FX6_takes_16 B
  else
    c1 (FX6_fail B) fun B8 =>
    FX6_takes_16 B8
set_option maxRecDepth 100000 in
def FX6_takesNumber_39s (k39 : Int32 → Int32 → Blk → Option (Int32 × Blk)) (l1 : Int32) (l2 : Int32) (B : Blk) : Option (Int32 × Blk) :=
  if (5 : Int32) ≤ l2 then
    some (l1, B)
  else
    if l1 ≤ 0 then
      some (l1, B)
    else
      c1 (FX6_isDigit B ((B 0) 17)) fun r12 =>
      if r12 = 0 then
        some (l1, B)
      else
        c1 (FX6_letter B ((B 0) 17)) fun r15 =>
        lt1 ((((10 : Int32) * l1) + r15) - (48 : Int32)) fun x17 =>
        lt1 (bs B 0 17 (((B 0) 17) + (1 : Int32))) fun B19 =>
        lt1 (l2 + (1 : Int32)) fun x21 =>
        k39 x17 x21 B19
set_option maxRecDepth 100000 in
def FX6_takesNumber_39 : Nat → Int32 → Int32 → Blk → Option (Int32 × Blk)
  | 0 => fun _ _ _ => none
  | n + 1 => FX6_takesNumber_39s (FX6_takesNumber_39 n)
set_option maxRecDepth 100000 in
def FX6_takesNumber_15 (B : Blk) : Option (Int32 × Blk) :=
  c1 (FX6_letter B ((B 0) 17)) fun r4 =>
  lt1 (r4 - (48 : Int32)) fun x6 =>
  lt1 (bs B 0 17 (((B 0) 17) + (1 : Int32))) fun B8 =>
  FX6_takesNumber_39 fu x6 (1 : Int32) B8
set_option maxRecDepth 100000 in
def FX6_takesNumber (B : Blk) : Option (Int32 × Blk) :=
  c1 (FX6_isDigit B ((B 0) 17)) fun r1 =>
  if r1 = 0 then
    c1 (FX6_fail B) fun B25 =>
    FX6_takesNumber_15 B25
  else
    FX6_takesNumber_15 B
set_option maxRecDepth 100000 in
def FX6_takesMachine_30 (B : Blk) : Option (Int32 × Blk) :=
  lt1 (bs B 0 17 (((B 0) 17) + (1 : Int32))) fun B7 =>
  c1 (FX6_letter B7 (((B7 0) 17) - (1 : Int32))) fun r9 =>
  some ((r9 - (48 : Int32)), B7)
set_option maxRecDepth 100000 in
def FX6_takesMachine_26 (B : Blk) : Option (Int32 × Blk) :=
  c1 (FX6_fail B) fun B6 =>
  FX6_takesMachine_30 B6
set_option maxRecDepth 100000 in
def FX6_takesMachine (B : Blk) : Option (Int32 × Blk) :=
  c1 (FX6_letter B ((B 0) 17)) fun r1 =>
  if r1 < (48 : Int32) then
    FX6_takesMachine_26 B
  else
    c1 (FX6_letter B ((B 0) 17)) fun r11 =>
    if r11 ≤ (51 : Int32) then
      FX6_takesMachine_30 B
    else
      FX6_takesMachine_26 B
set_option maxRecDepth 100000 in
def FX6_readTask_104 (l1 : Int32) (s0 : Int32) (s1 : Int32) (B : Blk) : Option Blk :=
  stb B 11 252 s1 s0 fun B25 =>
  stb B25 11 252 (l1 + (5 : Int32)) (-6 : Int32) fun B28 =>
  if ((B28 0) 18) = (-6 : Int32) then
    c1 (FX6_letter B28 ((B28 0) 17)) fun r32 =>
    if r32 = (94 : Int32) then
      lt1 (bs B28 0 17 (((B28 0) 17) + (1 : Int32))) fun B35 =>
      c2 (FX6_takesNumber B35) fun r37 B39 =>
      stb B39 11 252 (l1 + (5 : Int32)) r37 fun B40 =>
      some B40
    else
      some B28
  else
    some B28
set_option maxRecDepth 100000 in
def FX6_readTask_73 (l1 : Int32) (s0 : Int32) (s1 : Int32) (B : Blk) : Option Blk :=
  stb B 11 252 s1 s0 fun B18 =>
  c1 (FX6_takes B18 (36 : Int32)) fun B23 =>
  if ((B23 0) 18) = (-6 : Int32) then
    c2 (FX6_takesNumber B23) fun r43 B45 =>
    FX6_readTask_104 l1 r43 (l1 + (4 : Int32)) B45
  else
    FX6_readTask_104 l1 (0 : Int32) (l1 + (4 : Int32)) B23
set_option maxRecDepth 100000 in
def FX6_readTask_42 (l1 : Int32) (s0 : Int32) (s1 : Int32) (B : Blk) : Option Blk :=
  stb B 11 252 s1 s0 fun B11 =>
  c1 (FX6_takes B11 (60 : Int32)) fun B16 =>
  if ((B16 0) 18) = (-6 : Int32) then
    c2 (FX6_takesNumber B16) fun r46 B48 =>
    FX6_readTask_73 l1 r46 (l1 + (3 : Int32)) B48
  else
    FX6_readTask_73 l1 (0 : Int32) (l1 + (3 : Int32)) B16
set_option maxRecDepth 100000 in
def FX6_readTask (B : Blk) (l1 : Int32) : Option Blk :=
  c2 (FX6_takesMachine B) fun r1 B3 =>
  stb B3 11 252 (l1 + (1 : Int32)) r1 fun B4 =>
  c1 (FX6_takes B4 (47 : Int32)) fun B9 =>
  if ((B9 0) 18) = (-6 : Int32) then
    c2 (FX6_takesNumber B9) fun r49 B51 =>
    FX6_readTask_42 l1 r49 (l1 + (2 : Int32)) B51
  else
    FX6_readTask_42 l1 (0 : Int32) (l1 + (2 : Int32)) B9
set_option maxRecDepth 100000 in
def FX6_readTwo_41 (s0 : Int32) (s1 : Int32) (B : Blk) : Option Blk :=
  stb B 11 252 s1 s0 fun B11 =>
  some B11
set_option maxRecDepth 100000 in
def FX6_readTwo (B : Blk) (l1 : Int32) (l2 : Int32) : Option Blk :=
  c2 (FX6_takesNumber B) fun r1 B3 =>
  stb B3 11 252 (l1 + (1 : Int32)) r1 fun B4 =>
  c1 (FX6_takes B4 l2) fun B9 =>
  if ((B9 0) 18) = (-6 : Int32) then
    c2 (FX6_takesNumber B9) fun r14 B16 =>
    FX6_readTwo_41 r14 (l1 + (2 : Int32)) B16
  else
    FX6_readTwo_41 (0 : Int32) (l1 + (2 : Int32)) B9
set_option maxRecDepth 100000 in
def FX6_readOrder_161 (s0 : Int32) (s1 : Int32) (B : Blk) : Option Blk :=
  stb B 11 252 s1 s0 fun B28 =>
  some B28
set_option maxRecDepth 100000 in
def FX6_readOrder (B : Blk) (l1 : Int32) : Option Blk :=
  c1 (FX6_letter B ((B 0) 17)) fun r1 =>
  stb B 11 252 l1 r1 fun B3 =>
  if r1 = (100 : Int32) then
    lt1 (bs B3 0 17 (((B3 0) 17) + (1 : Int32))) fun B7 =>
    c1 (FX6_readTwo B7 l1 (61 : Int32)) fun B11 =>
    some B11
  else
    if r1 = (109 : Int32) then
      lt1 (bs B3 0 17 (((B3 0) 17) + (1 : Int32))) fun B13 =>
      c1 (FX6_readTwo B13 l1 (58 : Int32)) fun B17 =>
      some B17
    else
      if r1 = (111 : Int32) then
        lt1 (bs B3 0 17 (((B3 0) 17) + (1 : Int32))) fun B19 =>
        c1 (FX6_readTwo B19 l1 (42 : Int32)) fun B23 =>
        c1 (FX6_takes B23 (64 : Int32)) fun B26 =>
        if ((B26 0) 18) = (-6 : Int32) then
          c2 (FX6_takesNumber B26) fun r31 B33 =>
          FX6_readOrder_161 r31 (l1 + (3 : Int32)) B33
        else
          FX6_readOrder_161 (0 : Int32) (l1 + (3 : Int32)) B26
      else
        if r1 = (114 : Int32) then
          lt1 (bs B3 0 17 (((B3 0) 17) + (1 : Int32))) fun B35 =>
          c1 (FX6_readTwo B35 l1 (42 : Int32)) fun B39 =>
          some B39
        else
          if r1 = (116 : Int32) then
            lt1 (bs B3 0 17 (((B3 0) 17) + (1 : Int32))) fun B41 =>
            c1 (FX6_readTask B41 l1) fun B45 =>
            some B45
          else
            if r1 = (120 : Int32) then
              lt1 (bs B3 0 17 (((B3 0) 17) + (1 : Int32))) fun B47 =>
              some B47
            else
              c1 (FX6_fail B3) fun B51 =>
              some B51
set_option maxRecDepth 100000 in
def FX6_readPad_120 (s0 : Int32) (B : Blk) : Option Blk :=
  lt1 (bs B 0 18 s0) fun B9 =>
  some B9
set_option maxRecDepth 100000 in
def FX6_readPad_68 (k18 : Int32 → Blk → Option Blk) (s0 : Int32) (B : Blk) : Option Blk :=
  if s0 = 0 then
    k18 s0 B
  else
    c1 (FX6_takes B (59 : Int32)) fun B20 =>
    if ((B20 0) 18) = (-6 : Int32) then
      k18 (1 : Int32) B20
    else
      k18 (0 : Int32) B20
set_option maxRecDepth 100000 in
def FX6_readPad_67 (k18 : Int32 → Blk → Option Blk) (B : Blk) : Option Blk :=
  FX6_readPad_68 k18 (0 : Int32) B
set_option maxRecDepth 100000 in
def FX6_readPad_18s (k18 : Int32 → Blk → Option Blk) (l1 : Int32) (B : Blk) : Option Blk :=
  if l1 = 0 then
    if ((B 0) 18) ≤ ((B 0) 8) then
      FX6_readPad_120 ((B 0) 18) B
    else
      FX6_readPad_120 ((B 0) 8) B
  else
    c1 (FX6_readOrder B ((6 : Int32) * ((B 0) 16))) fun B13 =>
    lt1 (bs B13 0 16 (((B13 0) 16) + (1 : Int32))) fun B14 =>
    if ((B14 0) 18) = (-6 : Int32) then
      if ((B14 0) 8) ≤ ((B14 0) 17) then
        FX6_readPad_67 k18 B14
      else
        FX6_readPad_68 k18 (1 : Int32) B14
    else
      FX6_readPad_67 k18 B14
set_option maxRecDepth 100000 in
def FX6_readPad_18 : Nat → Int32 → Blk → Option Blk
  | 0 => fun _ _ => none
  | n + 1 => FX6_readPad_18s (FX6_readPad_18 n)
set_option maxRecDepth 100000 in
def FX6_readPad (B : Blk) : Option Blk :=
  lt1 (bs B 0 18 (-6 : Int32)) fun B1 =>
  lt1 (bs B1 0 17 (0 : Int32)) fun B3 =>
  lt1 (bs B3 0 16 (0 : Int32)) fun B5 =>
  FX6_readPad_18 fu (1 : Int32) B5
set_option maxRecDepth 100000 in
def FX6_fault (B : Blk) : Option (Int32 × Blk) :=
  c1 (FX6_readPad B) fun B3 =>
  some (((B3 0) 18), B3)
set_option maxRecDepth 100000 in
def FX6_does (B : Blk) (l1 : Int32) : Option (Int32 × Blk) :=
  ld (B 11) 252 (l1 + (1 : Int32)) fun v1 =>
  ld (B 11) 252 (l1 + (2 : Int32)) fun v4 =>
  ld (B 11) 252 l1 fun v7 =>
  if v7 = (100 : Int32) then
    c2 (FX6_duration B v1 v4) fun r11 B13 =>
    some (r11, B13)
  else
    if v7 = (109 : Int32) then
      c2 (FX6_move B v1 v4) fun r15 B17 =>
      some (r15, B17)
    else
      if v7 = (111 : Int32) then
        ld (B 11) 252 (l1 + (3 : Int32)) fun v19 =>
        c2 (FX6_offer B v1 v4 v19) fun r22 B24 =>
        some (r22, B24)
      else
        if v7 = (114 : Int32) then
          c2 (FX6_refund B v1 v4) fun r26 B28 =>
          some (r26, B28)
        else
          if v7 = (116 : Int32) then
            ld (B 11) 252 (l1 + (3 : Int32)) fun v30 =>
            ld (B 11) 252 (l1 + (4 : Int32)) fun v33 =>
            ld (B 11) 252 (l1 + (5 : Int32)) fun v36 =>
            c2 (FX6_task B v1 v4 v30 v33 v36) fun r39 B41 =>
            some (r39, B41)
          else
            c2 (FX6_trade B) fun r42 B44 =>
            some (r42, B44)
set_option maxRecDepth 100000 in
def FX6_carryOut_52 (l1 : Int32) (B : Blk) : Option (Int32 × Blk) :=
  lt1 (bs B 0 6 (0 : Int32)) fun B11 =>
  lt1 (bs B11 0 8 (0 : Int32)) fun B13 =>
  some (l1, B13)
set_option maxRecDepth 100000 in
def FX6_carryOut_27s (k27 : Int32 → Blk → Option (Int32 × Blk)) (l1 : Int32) (B : Blk) : Option (Int32 × Blk) :=
  if ((B 0) 16) ≤ l1 then
    FX6_carryOut_52 l1 B
  else
    c2 (FX6_does B ((6 : Int32) * l1)) fun r15 B17 =>
    if r15 < 0 then
      FX6_carryOut_52 l1 B17
    else
      lt1 (l1 + (1 : Int32)) fun x19 =>
      k27 x19 B17
set_option maxRecDepth 100000 in
def FX6_carryOut_27 : Nat → Int32 → Blk → Option (Int32 × Blk)
  | 0 => fun _ _ => none
  | n + 1 => FX6_carryOut_27s (FX6_carryOut_27 n)
set_option maxRecDepth 100000 in
def FX6_carryOut (B : Blk) : Option (Int32 × Blk) :=
  c1 (FX6_readPad B) fun B3 =>
  if ((B3 0) 18) = (-6 : Int32) then
    c1 (FX6_record B3) fun B7 =>
    lt1 (bs B7 0 6 (1 : Int32)) fun B8 =>
    FX6_carryOut_27 fu (0 : Int32) B8
  else
    some ((-3 : Int32), B3)
