/-! all calls; the start -/
theorem step_ok : StepOK Inv := ⟨s_set, s_task, s_duration, s_move, s_offer, s_trade, s_refund, s_give, s_ofTask, s_due, s_money, s_at, s_ofContract, s_count, s_distance, s_wouldBuy, s_leastMoney, s_endIf, s_bestPlace, s_critical, s_lateBehind, s_put, s_wipe, s_fault, s_carryOut, s_undo, s_save, s_restore⟩
theorem inv_start : Inv mM0 := by
  have e0 : mM0 0 = mB0 := rfl
  have e11 : mM0 11 = mX0 := rfl
  have e12 : mM0 12 = mZ0 := rfl
  refine ⟨⟨(0, fun _ => 0, fun _ => 0, fun _ => 99, fun _ => 0), fun _ => 0, fun _ => 0, ?_⟩, ?_, ?_, ⟨0, 0, rfl, rfl, rfl, by omega, by omega, fun i hi => by omega⟩, fun s hs => ?_, ?_⟩
  · rw [e0, e12]
    refine ⟨⟨Nat.zero_le _, fun t ht => absurd ht (Nat.not_lt_zero t), fun t u ht => absurd ht (Nat.not_lt_zero t), fun m p hm hp => absurd hp (Nat.not_lt_zero p)⟩, ⟨rfl, fun t ht => absurd ht (Nat.not_lt_zero t)⟩, ⟨rfl, fun t ht => absurd ht (Nat.not_lt_zero t), fun m hm => rfl, fun t ht => absurd ht (Nat.not_lt_zero t)⟩, fun t ht => absurd ht (Nat.not_lt_zero t), ⟨fun t ht => absurd ht (Nat.not_lt_zero t), fun t ht => absurd ht (Nat.not_lt_zero t), fun t u ht => absurd ht (Nat.not_lt_zero t), fun t ht => absurd ht (Nat.not_lt_zero t)⟩, fun t ht => absurd ht (Nat.not_lt_zero t), fun t ht => absurd ht (Nat.not_lt_zero t), ?_⟩
    exact ⟨⟨rfl, rfl, ⟨50, by omega, rfl⟩, ⟨2, by omega, by omega, rfl⟩⟩, fun t ht => absurd ht (Nat.not_lt_zero t), ⟨fun _ => 0, fun t ht => absurd ht (Nat.not_lt_zero t), Nat.le_refl _⟩, fun t ht => absurd ht (Nat.not_lt_zero t), fun t ht => absurd ht (Nat.not_lt_zero t), 0, by omega, rfl, rfl, fun c hc => by omega⟩
  · rw [e12]; exact ⟨rfl, rfl⟩
  · rw [e12]; rfl
  · rw [e11, e12]
    exact ⟨rfl, Or.inl rfl⟩
  · rw [e11, e12]
    exact ⟨0, by omega, rfl, rfl, fun i hi => by omega⟩
