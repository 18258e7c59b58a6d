/-! THE START -/
theorem RR_start (xs : Nat → Int32) (L : Nat) : RR xs L (s2_S xs L) := by
  have z : ∀ k i j, Nat.beq k 57 = false → (s2_S xs L).1 k i j = 0 := fun k i j h => by
    show (bif Nat.beq k 57 then xs j else 0) = 0
    rw [h]; rfl
  refine ⟨⟨0, by omega, rfl, rfl, fun j hj => absurd hj (Nat.not_lt_zero j)⟩, ⟨0, 0, fun _ => 0, fun _ _ => 0, fun _ => 0, fun _ => 0, fun _ _ => 0, fun _ => 0, fun _ => none, ⟨by omega, by omega, fun i hi => absurd hi (Nat.not_lt_zero i), fun j b hj => absurd hj (Nat.not_lt_zero j)⟩, ⟨rfl, rfl, fun j hj => absurd hj (Nat.not_lt_zero j), fun i hi => absurd hi (Nat.not_lt_zero i)⟩, ⟨rfl, rfl, fun j hj => absurd hj (Nat.not_lt_zero j), fun i hi => absurd hi (Nat.not_lt_zero i)⟩, ?_⟩, ⟨0, fun _ => 0, ⟨by omega, fun j hj => absurd hj (Nat.not_lt_zero j)⟩, ⟨rfl, fun j hj => absurd hj (Nat.not_lt_zero j)⟩, ⟨rfl, fun j hj => absurd hj (Nat.not_lt_zero j)⟩⟩, ⟨rfl, rfl, rfl, rfl, fun _ _ => rfl⟩, fun i j _ _ => ⟨0, by omega, rfl⟩, ⟨rfl, Nat.zero_lt_one, ⟨0, Nat.zero_le _, rfl⟩, Nat.le_refl 16, (by decide : 16 ≤ 200), fun i j => ?_⟩, rfl, fun j => rfl⟩
  · refine ⟨fun _ => false, ⟨0, Nat.le_refl _, rfl, fun i hi => absurd hi (Nat.not_lt_zero i), fun j hj => absurd hj (Nat.not_lt_zero j)⟩, fun i hi => absurd hi (Nat.not_lt_zero i), rfl, rfl⟩
  · rw [z 25 i j rfl]; decide
theorem pu_law {xs : Nat → Int32} {L : Nat} (hL : L ≤ 1536) : ∃ σ' : st_S, eg_ev st_X pg_T 134 18 (s2_S xs L) (422, 5051) lw_ls [] σ' (some (.inl 1)) := by
  have h : pw_E 134 18 (s2_S xs L) (422, 5051) lw_ls [] (fun _ r => r = some (.inl 1)) := pw_sub [(0, .inr (57, 0)), (1, .inr (2, 0)), (2, .inr (26, 0)), (3, .inl (Int32.ofNat (3 * 0)))] ⟨rfl, rfl, rfl, rfl, trivial⟩ (lw_loop hL 513 0 (s2_S xs L) 422 5051 rfl (RR_start xs L) (Nat.le_refl _) (Nat.le_refl _))
  obtain ⟨σ', r, e, rfl⟩ := h
  exact ⟨σ', e⟩
/-- from the entry, for every script of at most 1536 ints, the law comes to its end with true -/
theorem whole_start {p : Program} {e : Env} {s : State} {m : MethodId} {below : List Frame} {meth : Method} {c : Code} (l : Launch) {b L : Nat} {xs : Nat → Int32} (hL : L ≤ 1536) (C0 : lw_At p s m meth c b L xs) : W p l e room_1 s m #[Value.ref b] below meth c s.heap [] 0 0 (lw_Z below #[Value.ref b] s) (entryFrame m ([Value.ref b] : List Value).toArray 4) := lw_begin l C0 (pu_law hL)
