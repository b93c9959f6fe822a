/-! the start -/
theorem z_start : gR 0 S0X S0Y := by
  have hk : ∀ s, s < 8 → kX (47 + 2 * s) = 13 := by decide
  have c0 : ∀ c m, zopB 0 0 (gA S0Y 5) c = false ∧ zcnt (zopB 0 0 (gA S0Y 5)) m = 0 := fun c m => by
    have e : ∀ c, zopB 0 0 (gA S0Y 5) c = false := fun c => by
      unfold zopB
      simp
    refine ⟨e c, ?_⟩
    rw [zcnt_flat (a := 0) (Nat.zero_le m) (fun i _ _ => e i)]
    rfl
  refine ⟨⟨rfl, fun s hs => ⟨Or.inl ⟨?_, rfl⟩, ⟨0, by omega, ?_, rfl⟩, fun k hk => rfl⟩⟩, ⟨rfl, rfl, fun b hb => ⟨⟨0, by omega, rfl, rfl⟩, ⟨0, by omega, rfl, rfl⟩⟩⟩, 0, 0, 0, 0, 0, fun _ _ => 0, fun _ => 0, ⟨rfl, rfl, rfl, rfl, Or.inl ⟨rfl, rfl⟩, fun c hc => ⟨rfl, rfl, rfl, ⟨0, by omega, rfl⟩, ⟨0, by omega, rfl⟩⟩, ?_, fun c hc ho => absurd ho.2.1 (by omega)⟩, by omega, by omega, by omega, by omega, rfl, rfl, rfl, rfl, rfl, rfl, z_none (fun _ _ => rfl) (fun _ _ => rfl) (fun _ _ => rfl) (fun _ _ => rfl) (fun _ _ => rfl), fun j hj => absurd hj (by omega)⟩
  · show (if 47 + 2 * s = 2 ∧ 1 = 3 then 1000 else if kX (47 + 2 * s) = 13 ∧ 1 = 1 then 1 else 0) = (1 : Int32)
    rw [if_neg (by omega), if_pos ⟨hk s hs, rfl⟩]
  · show (if 47 + 2 * s = 2 ∧ 3 = 3 then 1000 else if kX (47 + 2 * s) = 13 ∧ 3 = 1 then 1 else 0) = nI 0
    rw [if_neg (by omega), if_neg (by omega)]
    rfl
  · rw [(c0 0 64).2]
    rfl
