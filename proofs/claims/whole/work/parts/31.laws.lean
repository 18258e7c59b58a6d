/-! LAWS of the store of the running system -/
def st_Q (k : Nat) : Prop := ∀ j, (st_wt k j = 1 → ∀ i x, st_ds k i j x = .inl x ∧ ¬ (k = 24 ∧ j = 0)) ∧ (st_wt k j = 2 → ∀ i x, st_ds k i j x = .inr (50, x.toNatClampNeg) ∧ ¬ (k = 24 ∧ j = 0)) ∧ (st_wt k j = 3 → k = 24 ∧ j = 0)
theorem st_q0 : st_Q 0 := fun j => ⟨(fun h => nomatch (show (0 : Nat) = 1 from h)), (fun h => nomatch (show (0 : Nat) = 2 from h)), (fun h => nomatch (show (0 : Nat) = 3 from h))⟩
theorem st_q1 : st_Q 1 := fun j => ⟨(fun h => nomatch (show (0 : Nat) = 1 from h)), (fun h => nomatch (show (0 : Nat) = 2 from h)), (fun h => nomatch (show (0 : Nat) = 3 from h))⟩
theorem st_q2 : st_Q 2
  | 0 => ⟨(fun h => absurd h (by decide)), (fun h => absurd h (by decide)), (fun h => absurd h (by decide))⟩
  | 1 => ⟨(fun h => absurd h (by decide)), (fun h => absurd h (by decide)), (fun h => absurd h (by decide))⟩
  | 2 => ⟨(fun h => absurd h (by decide)), (fun h => absurd h (by decide)), (fun h => absurd h (by decide))⟩
  | 3 => ⟨(fun h => absurd h (by decide)), (fun h => absurd h (by decide)), (fun h => absurd h (by decide))⟩
  | 4 => ⟨(fun h => absurd h (by decide)), (fun h => absurd h (by decide)), (fun h => absurd h (by decide))⟩
  | 5 => ⟨(fun h => absurd h (by decide)), (fun h => absurd h (by decide)), (fun h => absurd h (by decide))⟩
  | j + 6 => ⟨(fun h => nomatch (show (0 : Nat) = 1 from h)), (fun h => nomatch (show (0 : Nat) = 2 from h)), (fun h => nomatch (show (0 : Nat) = 3 from h))⟩
theorem st_q3 : st_Q 3
  | 0 => ⟨(fun h => absurd h (by decide)), (fun h => absurd h (by decide)), (fun h => absurd h (by decide))⟩
  | 1 => ⟨(fun _ i x => ⟨rfl, (fun z => absurd z (by decide))⟩), (fun h => absurd h (by decide)), (fun h => absurd h (by decide))⟩
  | 2 => ⟨(fun h => absurd h (by decide)), (fun h => absurd h (by decide)), (fun h => absurd h (by decide))⟩
  | 3 => ⟨(fun h => absurd h (by decide)), (fun h => absurd h (by decide)), (fun h => absurd h (by decide))⟩
  | 4 => ⟨(fun _ i x => ⟨rfl, (fun z => absurd z (by decide))⟩), (fun h => absurd h (by decide)), (fun h => absurd h (by decide))⟩
  | j + 5 => ⟨(fun h => nomatch (show (0 : Nat) = 1 from h)), (fun h => nomatch (show (0 : Nat) = 2 from h)), (fun h => nomatch (show (0 : Nat) = 3 from h))⟩
theorem st_q4 : st_Q 4 := fun j => ⟨(fun _ i x => ⟨rfl, (fun z => absurd z.1 (by decide))⟩), (fun h => nomatch (show (1 : Nat) = 2 from h)), (fun h => nomatch (show (1 : Nat) = 3 from h))⟩
theorem st_q5 : st_Q 5 := fun j => ⟨(fun _ i x => ⟨rfl, (fun z => absurd z.1 (by decide))⟩), (fun h => nomatch (show (1 : Nat) = 2 from h)), (fun h => nomatch (show (1 : Nat) = 3 from h))⟩
theorem st_q6 : st_Q 6 := fun j => ⟨(fun _ i x => ⟨rfl, (fun z => absurd z.1 (by decide))⟩), (fun h => nomatch (show (1 : Nat) = 2 from h)), (fun h => nomatch (show (1 : Nat) = 3 from h))⟩
theorem st_q7 : st_Q 7
  | 0 => ⟨(fun h => absurd h (by decide)), (fun h => absurd h (by decide)), (fun h => absurd h (by decide))⟩
  | 1 => ⟨(fun _ i x => ⟨rfl, (fun z => absurd z (by decide))⟩), (fun h => absurd h (by decide)), (fun h => absurd h (by decide))⟩
  | 2 => ⟨(fun h => absurd h (by decide)), (fun h => absurd h (by decide)), (fun h => absurd h (by decide))⟩
  | 3 => ⟨(fun _ i x => ⟨rfl, (fun z => absurd z (by decide))⟩), (fun h => absurd h (by decide)), (fun h => absurd h (by decide))⟩
  | 4 => ⟨(fun _ i x => ⟨rfl, (fun z => absurd z (by decide))⟩), (fun h => absurd h (by decide)), (fun h => absurd h (by decide))⟩
  | j + 5 => ⟨(fun h => nomatch (show (0 : Nat) = 1 from h)), (fun h => nomatch (show (0 : Nat) = 2 from h)), (fun h => nomatch (show (0 : Nat) = 3 from h))⟩
theorem st_q8 : st_Q 8 := fun j => ⟨(fun h => nomatch (show (0 : Nat) = 1 from h)), (fun h => nomatch (show (0 : Nat) = 2 from h)), (fun h => nomatch (show (0 : Nat) = 3 from h))⟩
theorem st_q9 : st_Q 9
  | 0 => ⟨(fun h => absurd h (by decide)), (fun _ i x => ⟨rfl, (fun z => absurd z (by decide))⟩), (fun h => absurd h (by decide))⟩
  | 1 => ⟨(fun _ i x => ⟨rfl, (fun z => absurd z (by decide))⟩), (fun h => absurd h (by decide)), (fun h => absurd h (by decide))⟩
  | 2 => ⟨(fun h => absurd h (by decide)), (fun h => absurd h (by decide)), (fun h => absurd h (by decide))⟩
  | 3 => ⟨(fun _ i x => ⟨rfl, (fun z => absurd z (by decide))⟩), (fun h => absurd h (by decide)), (fun h => absurd h (by decide))⟩
  | 4 => ⟨(fun _ i x => ⟨rfl, (fun z => absurd z (by decide))⟩), (fun h => absurd h (by decide)), (fun h => absurd h (by decide))⟩
  | 5 => ⟨(fun h => absurd h (by decide)), (fun h => absurd h (by decide)), (fun h => absurd h (by decide))⟩
  | 6 => ⟨(fun h => absurd h (by decide)), (fun h => absurd h (by decide)), (fun h => absurd h (by decide))⟩
  | 7 => ⟨(fun _ i x => ⟨rfl, (fun z => absurd z (by decide))⟩), (fun h => absurd h (by decide)), (fun h => absurd h (by decide))⟩
  | j + 8 => ⟨(fun h => nomatch (show (0 : Nat) = 1 from h)), (fun h => nomatch (show (0 : Nat) = 2 from h)), (fun h => nomatch (show (0 : Nat) = 3 from h))⟩
theorem st_q10 : st_Q 10 := fun j => ⟨(fun _ i x => ⟨rfl, (fun z => absurd z.1 (by decide))⟩), (fun h => nomatch (show (1 : Nat) = 2 from h)), (fun h => nomatch (show (1 : Nat) = 3 from h))⟩
theorem st_q11 : st_Q 11 := fun j => ⟨(fun _ i x => ⟨rfl, (fun z => absurd z.1 (by decide))⟩), (fun h => nomatch (show (1 : Nat) = 2 from h)), (fun h => nomatch (show (1 : Nat) = 3 from h))⟩
theorem st_q12 : st_Q 12 := fun j => ⟨(fun _ i x => ⟨rfl, (fun z => absurd z.1 (by decide))⟩), (fun h => nomatch (show (1 : Nat) = 2 from h)), (fun h => nomatch (show (1 : Nat) = 3 from h))⟩
theorem st_q13 : st_Q 13
  | 0 => ⟨(fun h => absurd h (by decide)), (fun h => absurd h (by decide)), (fun h => absurd h (by decide))⟩
  | 1 => ⟨(fun h => absurd h (by decide)), (fun h => absurd h (by decide)), (fun h => absurd h (by decide))⟩
  | 2 => ⟨(fun _ i x => ⟨rfl, (fun z => absurd z (by decide))⟩), (fun h => absurd h (by decide)), (fun h => absurd h (by decide))⟩
  | j + 3 => ⟨(fun h => nomatch (show (0 : Nat) = 1 from h)), (fun h => nomatch (show (0 : Nat) = 2 from h)), (fun h => nomatch (show (0 : Nat) = 3 from h))⟩
theorem st_q14 : st_Q 14 := fun j => ⟨(fun _ i x => ⟨rfl, (fun z => absurd z.1 (by decide))⟩), (fun h => nomatch (show (1 : Nat) = 2 from h)), (fun h => nomatch (show (1 : Nat) = 3 from h))⟩
theorem st_q15 : st_Q 15 := fun j => ⟨(fun _ i x => ⟨rfl, (fun z => absurd z.1 (by decide))⟩), (fun h => nomatch (show (1 : Nat) = 2 from h)), (fun h => nomatch (show (1 : Nat) = 3 from h))⟩
theorem st_q16 : st_Q 16
  | 0 => ⟨(fun h => absurd h (by decide)), (fun h => absurd h (by decide)), (fun h => absurd h (by decide))⟩
  | 1 => ⟨(fun _ i x => ⟨rfl, (fun z => absurd z (by decide))⟩), (fun h => absurd h (by decide)), (fun h => absurd h (by decide))⟩
  | 2 => ⟨(fun h => absurd h (by decide)), (fun h => absurd h (by decide)), (fun h => absurd h (by decide))⟩
  | j + 3 => ⟨(fun h => nomatch (show (0 : Nat) = 1 from h)), (fun h => nomatch (show (0 : Nat) = 2 from h)), (fun h => nomatch (show (0 : Nat) = 3 from h))⟩
theorem st_q17 : st_Q 17 := fun j => ⟨(fun _ i x => ⟨rfl, (fun z => absurd z.1 (by decide))⟩), (fun h => nomatch (show (1 : Nat) = 2 from h)), (fun h => nomatch (show (1 : Nat) = 3 from h))⟩
theorem st_q18 : st_Q 18 := fun j => ⟨(fun _ i x => ⟨rfl, (fun z => absurd z.1 (by decide))⟩), (fun h => nomatch (show (1 : Nat) = 2 from h)), (fun h => nomatch (show (1 : Nat) = 3 from h))⟩
theorem st_q19 : st_Q 19
  | 0 => ⟨(fun h => absurd h (by decide)), (fun _ i x => ⟨rfl, (fun z => absurd z (by decide))⟩), (fun h => absurd h (by decide))⟩
  | 1 => ⟨(fun _ i x => ⟨rfl, (fun z => absurd z (by decide))⟩), (fun h => absurd h (by decide)), (fun h => absurd h (by decide))⟩
  | 2 => ⟨(fun _ i x => ⟨rfl, (fun z => absurd z (by decide))⟩), (fun h => absurd h (by decide)), (fun h => absurd h (by decide))⟩
  | 3 => ⟨(fun h => absurd h (by decide)), (fun h => absurd h (by decide)), (fun h => absurd h (by decide))⟩
  | 4 => ⟨(fun _ i x => ⟨rfl, (fun z => absurd z (by decide))⟩), (fun h => absurd h (by decide)), (fun h => absurd h (by decide))⟩
  | 5 => ⟨(fun _ i x => ⟨rfl, (fun z => absurd z (by decide))⟩), (fun h => absurd h (by decide)), (fun h => absurd h (by decide))⟩
  | 6 => ⟨(fun h => absurd h (by decide)), (fun h => absurd h (by decide)), (fun h => absurd h (by decide))⟩
  | j + 7 => ⟨(fun h => nomatch (show (0 : Nat) = 1 from h)), (fun h => nomatch (show (0 : Nat) = 2 from h)), (fun h => nomatch (show (0 : Nat) = 3 from h))⟩
theorem st_q20 : st_Q 20 := fun j => ⟨(fun _ i x => ⟨rfl, (fun z => absurd z.1 (by decide))⟩), (fun h => nomatch (show (1 : Nat) = 2 from h)), (fun h => nomatch (show (1 : Nat) = 3 from h))⟩
theorem st_q21 : st_Q 21 := fun j => ⟨(fun _ i x => ⟨rfl, (fun z => absurd z.1 (by decide))⟩), (fun h => nomatch (show (1 : Nat) = 2 from h)), (fun h => nomatch (show (1 : Nat) = 3 from h))⟩
theorem st_q22 : st_Q 22
  | 0 => ⟨(fun h => absurd h (by decide)), (fun h => absurd h (by decide)), (fun h => absurd h (by decide))⟩
  | 1 => ⟨(fun _ i x => ⟨rfl, (fun z => absurd z (by decide))⟩), (fun h => absurd h (by decide)), (fun h => absurd h (by decide))⟩
  | 2 => ⟨(fun _ i x => ⟨rfl, (fun z => absurd z (by decide))⟩), (fun h => absurd h (by decide)), (fun h => absurd h (by decide))⟩
  | 3 => ⟨(fun _ i x => ⟨rfl, (fun z => absurd z (by decide))⟩), (fun h => absurd h (by decide)), (fun h => absurd h (by decide))⟩
  | 4 => ⟨(fun _ i x => ⟨rfl, (fun z => absurd z (by decide))⟩), (fun h => absurd h (by decide)), (fun h => absurd h (by decide))⟩
  | 5 => ⟨(fun h => absurd h (by decide)), (fun h => absurd h (by decide)), (fun h => absurd h (by decide))⟩
  | j + 6 => ⟨(fun h => nomatch (show (0 : Nat) = 1 from h)), (fun h => nomatch (show (0 : Nat) = 2 from h)), (fun h => nomatch (show (0 : Nat) = 3 from h))⟩
theorem st_q23 : st_Q 23 := fun j => ⟨(fun _ i x => ⟨rfl, (fun z => absurd z.1 (by decide))⟩), (fun h => nomatch (show (1 : Nat) = 2 from h)), (fun h => nomatch (show (1 : Nat) = 3 from h))⟩
theorem st_q24 : st_Q 24
  | 0 => ⟨(fun h => absurd h (by decide)), (fun h => absurd h (by decide)), (fun _ => ⟨rfl, rfl⟩)⟩
  | 1 => ⟨(fun _ i x => ⟨rfl, (fun z => absurd z (by decide))⟩), (fun h => absurd h (by decide)), (fun h => absurd h (by decide))⟩
  | 2 => ⟨(fun _ i x => ⟨rfl, (fun z => absurd z (by decide))⟩), (fun h => absurd h (by decide)), (fun h => absurd h (by decide))⟩
  | 3 => ⟨(fun _ i x => ⟨rfl, (fun z => absurd z (by decide))⟩), (fun h => absurd h (by decide)), (fun h => absurd h (by decide))⟩
  | j + 4 => ⟨(fun h => nomatch (show (0 : Nat) = 1 from h)), (fun h => nomatch (show (0 : Nat) = 2 from h)), (fun h => nomatch (show (0 : Nat) = 3 from h))⟩
theorem st_q25 : st_Q 25 := fun j => ⟨(fun _ i x => ⟨rfl, (fun z => absurd z.1 (by decide))⟩), (fun h => nomatch (show (1 : Nat) = 2 from h)), (fun h => nomatch (show (1 : Nat) = 3 from h))⟩
theorem st_q26 : st_Q 26
  | 0 => ⟨(fun h => absurd h (by decide)), (fun h => absurd h (by decide)), (fun h => absurd h (by decide))⟩
  | 1 => ⟨(fun h => absurd h (by decide)), (fun h => absurd h (by decide)), (fun h => absurd h (by decide))⟩
  | 2 => ⟨(fun h => absurd h (by decide)), (fun h => absurd h (by decide)), (fun h => absurd h (by decide))⟩
  | 3 => ⟨(fun _ i x => ⟨rfl, (fun z => absurd z (by decide))⟩), (fun h => absurd h (by decide)), (fun h => absurd h (by decide))⟩
  | 4 => ⟨(fun _ i x => ⟨rfl, (fun z => absurd z (by decide))⟩), (fun h => absurd h (by decide)), (fun h => absurd h (by decide))⟩
  | 5 => ⟨(fun h => absurd h (by decide)), (fun h => absurd h (by decide)), (fun h => absurd h (by decide))⟩
  | 6 => ⟨(fun h => absurd h (by decide)), (fun h => absurd h (by decide)), (fun h => absurd h (by decide))⟩
  | 7 => ⟨(fun h => absurd h (by decide)), (fun h => absurd h (by decide)), (fun h => absurd h (by decide))⟩
  | 8 => ⟨(fun h => absurd h (by decide)), (fun h => absurd h (by decide)), (fun h => absurd h (by decide))⟩
  | 9 => ⟨(fun h => absurd h (by decide)), (fun h => absurd h (by decide)), (fun h => absurd h (by decide))⟩
  | 10 => ⟨(fun h => absurd h (by decide)), (fun h => absurd h (by decide)), (fun h => absurd h (by decide))⟩
  | 11 => ⟨(fun h => absurd h (by decide)), (fun h => absurd h (by decide)), (fun h => absurd h (by decide))⟩
  | 12 => ⟨(fun _ i x => ⟨rfl, (fun z => absurd z (by decide))⟩), (fun h => absurd h (by decide)), (fun h => absurd h (by decide))⟩
  | 13 => ⟨(fun h => absurd h (by decide)), (fun h => absurd h (by decide)), (fun h => absurd h (by decide))⟩
  | 14 => ⟨(fun h => absurd h (by decide)), (fun h => absurd h (by decide)), (fun h => absurd h (by decide))⟩
  | 15 => ⟨(fun _ i x => ⟨rfl, (fun z => absurd z (by decide))⟩), (fun h => absurd h (by decide)), (fun h => absurd h (by decide))⟩
  | 16 => ⟨(fun _ i x => ⟨rfl, (fun z => absurd z (by decide))⟩), (fun h => absurd h (by decide)), (fun h => absurd h (by decide))⟩
  | 17 => ⟨(fun _ i x => ⟨rfl, (fun z => absurd z (by decide))⟩), (fun h => absurd h (by decide)), (fun h => absurd h (by decide))⟩
  | 18 => ⟨(fun _ i x => ⟨rfl, (fun z => absurd z (by decide))⟩), (fun h => absurd h (by decide)), (fun h => absurd h (by decide))⟩
  | 19 => ⟨(fun _ i x => ⟨rfl, (fun z => absurd z (by decide))⟩), (fun h => absurd h (by decide)), (fun h => absurd h (by decide))⟩
  | 20 => ⟨(fun _ i x => ⟨rfl, (fun z => absurd z (by decide))⟩), (fun h => absurd h (by decide)), (fun h => absurd h (by decide))⟩
  | 21 => ⟨(fun _ i x => ⟨rfl, (fun z => absurd z (by decide))⟩), (fun h => absurd h (by decide)), (fun h => absurd h (by decide))⟩
  | 22 => ⟨(fun h => absurd h (by decide)), (fun h => absurd h (by decide)), (fun h => absurd h (by decide))⟩
  | 23 => ⟨(fun h => absurd h (by decide)), (fun h => absurd h (by decide)), (fun h => absurd h (by decide))⟩
  | 24 => ⟨(fun h => absurd h (by decide)), (fun h => absurd h (by decide)), (fun h => absurd h (by decide))⟩
  | 25 => ⟨(fun _ i x => ⟨rfl, (fun z => absurd z (by decide))⟩), (fun h => absurd h (by decide)), (fun h => absurd h (by decide))⟩
  | 26 => ⟨(fun h => absurd h (by decide)), (fun h => absurd h (by decide)), (fun h => absurd h (by decide))⟩
  | 27 => ⟨(fun _ i x => ⟨rfl, (fun z => absurd z (by decide))⟩), (fun h => absurd h (by decide)), (fun h => absurd h (by decide))⟩
  | 28 => ⟨(fun _ i x => ⟨rfl, (fun z => absurd z (by decide))⟩), (fun h => absurd h (by decide)), (fun h => absurd h (by decide))⟩
  | 29 => ⟨(fun _ i x => ⟨rfl, (fun z => absurd z (by decide))⟩), (fun h => absurd h (by decide)), (fun h => absurd h (by decide))⟩
  | 30 => ⟨(fun _ i x => ⟨rfl, (fun z => absurd z (by decide))⟩), (fun h => absurd h (by decide)), (fun h => absurd h (by decide))⟩
  | 31 => ⟨(fun _ i x => ⟨rfl, (fun z => absurd z (by decide))⟩), (fun h => absurd h (by decide)), (fun h => absurd h (by decide))⟩
  | 32 => ⟨(fun _ i x => ⟨rfl, (fun z => absurd z (by decide))⟩), (fun h => absurd h (by decide)), (fun h => absurd h (by decide))⟩
  | 33 => ⟨(fun _ i x => ⟨rfl, (fun z => absurd z (by decide))⟩), (fun h => absurd h (by decide)), (fun h => absurd h (by decide))⟩
  | 34 => ⟨(fun _ i x => ⟨rfl, (fun z => absurd z (by decide))⟩), (fun h => absurd h (by decide)), (fun h => absurd h (by decide))⟩
  | 35 => ⟨(fun _ i x => ⟨rfl, (fun z => absurd z (by decide))⟩), (fun h => absurd h (by decide)), (fun h => absurd h (by decide))⟩
  | 36 => ⟨(fun h => absurd h (by decide)), (fun h => absurd h (by decide)), (fun h => absurd h (by decide))⟩
  | 37 => ⟨(fun h => absurd h (by decide)), (fun h => absurd h (by decide)), (fun h => absurd h (by decide))⟩
  | 38 => ⟨(fun h => absurd h (by decide)), (fun h => absurd h (by decide)), (fun h => absurd h (by decide))⟩
  | 39 => ⟨(fun _ i x => ⟨rfl, (fun z => absurd z (by decide))⟩), (fun h => absurd h (by decide)), (fun h => absurd h (by decide))⟩
  | 40 => ⟨(fun h => absurd h (by decide)), (fun h => absurd h (by decide)), (fun h => absurd h (by decide))⟩
  | 41 => ⟨(fun _ i x => ⟨rfl, (fun z => absurd z (by decide))⟩), (fun h => absurd h (by decide)), (fun h => absurd h (by decide))⟩
  | 42 => ⟨(fun _ i x => ⟨rfl, (fun z => absurd z (by decide))⟩), (fun h => absurd h (by decide)), (fun h => absurd h (by decide))⟩
  | 43 => ⟨(fun _ i x => ⟨rfl, (fun z => absurd z (by decide))⟩), (fun h => absurd h (by decide)), (fun h => absurd h (by decide))⟩
  | 44 => ⟨(fun _ i x => ⟨rfl, (fun z => absurd z (by decide))⟩), (fun h => absurd h (by decide)), (fun h => absurd h (by decide))⟩
  | j + 45 => ⟨(fun h => nomatch (show (0 : Nat) = 1 from h)), (fun h => nomatch (show (0 : Nat) = 2 from h)), (fun h => nomatch (show (0 : Nat) = 3 from h))⟩
theorem st_q27 : st_Q 27 := fun j => ⟨(fun _ i x => ⟨rfl, (fun z => absurd z.1 (by decide))⟩), (fun h => nomatch (show (1 : Nat) = 2 from h)), (fun h => nomatch (show (1 : Nat) = 3 from h))⟩
theorem st_q28 : st_Q 28 := fun j => ⟨(fun _ i x => ⟨rfl, (fun z => absurd z.1 (by decide))⟩), (fun h => nomatch (show (1 : Nat) = 2 from h)), (fun h => nomatch (show (1 : Nat) = 3 from h))⟩
theorem st_q29 : st_Q 29 := fun j => ⟨(fun _ i x => ⟨rfl, (fun z => absurd z.1 (by decide))⟩), (fun h => nomatch (show (1 : Nat) = 2 from h)), (fun h => nomatch (show (1 : Nat) = 3 from h))⟩
theorem st_q30 : st_Q 30 := fun j => ⟨(fun _ i x => ⟨rfl, (fun z => absurd z.1 (by decide))⟩), (fun h => nomatch (show (1 : Nat) = 2 from h)), (fun h => nomatch (show (1 : Nat) = 3 from h))⟩
theorem st_q31 : st_Q 31 := fun j => ⟨(fun _ i x => ⟨rfl, (fun z => absurd z.1 (by decide))⟩), (fun h => nomatch (show (1 : Nat) = 2 from h)), (fun h => nomatch (show (1 : Nat) = 3 from h))⟩
theorem st_q32 : st_Q 32 := fun j => ⟨(fun _ i x => ⟨rfl, (fun z => absurd z.1 (by decide))⟩), (fun h => nomatch (show (1 : Nat) = 2 from h)), (fun h => nomatch (show (1 : Nat) = 3 from h))⟩
theorem st_q33 : st_Q 33 := fun j => ⟨(fun _ i x => ⟨rfl, (fun z => absurd z.1 (by decide))⟩), (fun h => nomatch (show (1 : Nat) = 2 from h)), (fun h => nomatch (show (1 : Nat) = 3 from h))⟩
theorem st_q34 : st_Q 34 := fun j => ⟨(fun _ i x => ⟨rfl, (fun z => absurd z.1 (by decide))⟩), (fun h => nomatch (show (1 : Nat) = 2 from h)), (fun h => nomatch (show (1 : Nat) = 3 from h))⟩
theorem st_q35 : st_Q 35 := fun j => ⟨(fun _ i x => ⟨rfl, (fun z => absurd z.1 (by decide))⟩), (fun h => nomatch (show (1 : Nat) = 2 from h)), (fun h => nomatch (show (1 : Nat) = 3 from h))⟩
theorem st_q36 : st_Q 36 := fun j => ⟨(fun _ i x => ⟨rfl, (fun z => absurd z.1 (by decide))⟩), (fun h => nomatch (show (1 : Nat) = 2 from h)), (fun h => nomatch (show (1 : Nat) = 3 from h))⟩
theorem st_q37 : st_Q 37 := fun j => ⟨(fun _ i x => ⟨rfl, (fun z => absurd z.1 (by decide))⟩), (fun h => nomatch (show (1 : Nat) = 2 from h)), (fun h => nomatch (show (1 : Nat) = 3 from h))⟩
theorem st_q38 : st_Q 38 := fun j => ⟨(fun _ i x => ⟨rfl, (fun z => absurd z.1 (by decide))⟩), (fun h => nomatch (show (1 : Nat) = 2 from h)), (fun h => nomatch (show (1 : Nat) = 3 from h))⟩
theorem st_q39 : st_Q 39 := fun j => ⟨(fun _ i x => ⟨rfl, (fun z => absurd z.1 (by decide))⟩), (fun h => nomatch (show (1 : Nat) = 2 from h)), (fun h => nomatch (show (1 : Nat) = 3 from h))⟩
theorem st_q40 : st_Q 40 := fun j => ⟨(fun _ i x => ⟨rfl, (fun z => absurd z.1 (by decide))⟩), (fun h => nomatch (show (1 : Nat) = 2 from h)), (fun h => nomatch (show (1 : Nat) = 3 from h))⟩
theorem st_q41 : st_Q 41 := fun j => ⟨(fun _ i x => ⟨rfl, (fun z => absurd z.1 (by decide))⟩), (fun h => nomatch (show (1 : Nat) = 2 from h)), (fun h => nomatch (show (1 : Nat) = 3 from h))⟩
theorem st_q42 : st_Q 42 := fun j => ⟨(fun _ i x => ⟨rfl, (fun z => absurd z.1 (by decide))⟩), (fun h => nomatch (show (1 : Nat) = 2 from h)), (fun h => nomatch (show (1 : Nat) = 3 from h))⟩
theorem st_q43 : st_Q 43 := fun j => ⟨(fun _ i x => ⟨rfl, (fun z => absurd z.1 (by decide))⟩), (fun h => nomatch (show (1 : Nat) = 2 from h)), (fun h => nomatch (show (1 : Nat) = 3 from h))⟩
theorem st_q44 : st_Q 44 := fun j => ⟨(fun _ i x => ⟨rfl, (fun z => absurd z.1 (by decide))⟩), (fun h => nomatch (show (1 : Nat) = 2 from h)), (fun h => nomatch (show (1 : Nat) = 3 from h))⟩
theorem st_q45 : st_Q 45 := fun j => ⟨(fun _ i x => ⟨rfl, (fun z => absurd z.1 (by decide))⟩), (fun h => nomatch (show (1 : Nat) = 2 from h)), (fun h => nomatch (show (1 : Nat) = 3 from h))⟩
theorem st_q46 : st_Q 46 := fun j => ⟨(fun _ i x => ⟨rfl, (fun z => absurd z.1 (by decide))⟩), (fun h => nomatch (show (1 : Nat) = 2 from h)), (fun h => nomatch (show (1 : Nat) = 3 from h))⟩
theorem st_q47 : st_Q 47 := fun j => ⟨(fun h => nomatch (show (0 : Nat) = 1 from h)), (fun h => nomatch (show (0 : Nat) = 2 from h)), (fun h => nomatch (show (0 : Nat) = 3 from h))⟩
theorem st_q48 : st_Q 48 := fun j => ⟨(fun h => nomatch (show (0 : Nat) = 1 from h)), (fun h => nomatch (show (0 : Nat) = 2 from h)), (fun h => nomatch (show (0 : Nat) = 3 from h))⟩
theorem st_q49 : st_Q 49 := fun j => ⟨(fun h => nomatch (show (0 : Nat) = 1 from h)), (fun h => nomatch (show (0 : Nat) = 2 from h)), (fun h => nomatch (show (0 : Nat) = 3 from h))⟩
theorem st_q50 : st_Q 50
  | 0 => ⟨(fun h => absurd h (by decide)), (fun h => absurd h (by decide)), (fun h => absurd h (by decide))⟩
  | 1 => ⟨(fun h => absurd h (by decide)), (fun h => absurd h (by decide)), (fun h => absurd h (by decide))⟩
  | 2 => ⟨(fun h => absurd h (by decide)), (fun h => absurd h (by decide)), (fun h => absurd h (by decide))⟩
  | 3 => ⟨(fun h => absurd h (by decide)), (fun h => absurd h (by decide)), (fun h => absurd h (by decide))⟩
  | 4 => ⟨(fun h => absurd h (by decide)), (fun h => absurd h (by decide)), (fun h => absurd h (by decide))⟩
  | 5 => ⟨(fun h => absurd h (by decide)), (fun h => absurd h (by decide)), (fun h => absurd h (by decide))⟩
  | 6 => ⟨(fun h => absurd h (by decide)), (fun h => absurd h (by decide)), (fun h => absurd h (by decide))⟩
  | 7 => ⟨(fun h => absurd h (by decide)), (fun h => absurd h (by decide)), (fun h => absurd h (by decide))⟩
  | j + 8 => ⟨(fun h => nomatch (show (0 : Nat) = 1 from h)), (fun h => nomatch (show (0 : Nat) = 2 from h)), (fun h => nomatch (show (0 : Nat) = 3 from h))⟩
theorem st_q51 : st_Q 51 := fun j => ⟨(fun h => nomatch (show (0 : Nat) = 1 from h)), (fun h => nomatch (show (0 : Nat) = 2 from h)), (fun h => nomatch (show (0 : Nat) = 3 from h))⟩
theorem st_q52 : st_Q 52 := fun j => ⟨(fun h => nomatch (show (0 : Nat) = 1 from h)), (fun h => nomatch (show (0 : Nat) = 2 from h)), (fun h => nomatch (show (0 : Nat) = 3 from h))⟩
theorem st_q53 : st_Q 53
  | 0 => ⟨(fun h => absurd h (by decide)), (fun h => absurd h (by decide)), (fun h => absurd h (by decide))⟩
  | 1 => ⟨(fun h => absurd h (by decide)), (fun h => absurd h (by decide)), (fun h => absurd h (by decide))⟩
  | j + 2 => ⟨(fun h => nomatch (show (0 : Nat) = 1 from h)), (fun h => nomatch (show (0 : Nat) = 2 from h)), (fun h => nomatch (show (0 : Nat) = 3 from h))⟩
theorem st_q54 : st_Q 54 := fun j => ⟨(fun h => nomatch (show (0 : Nat) = 1 from h)), (fun h => nomatch (show (0 : Nat) = 2 from h)), (fun h => nomatch (show (0 : Nat) = 3 from h))⟩
theorem st_q55 : st_Q 55 := fun j => ⟨(fun h => nomatch (show (0 : Nat) = 1 from h)), (fun h => nomatch (show (0 : Nat) = 2 from h)), (fun h => nomatch (show (0 : Nat) = 3 from h))⟩
theorem st_q56 : st_Q 56 := fun j => ⟨(fun h => nomatch (show (0 : Nat) = 1 from h)), (fun h => nomatch (show (0 : Nat) = 2 from h)), (fun h => nomatch (show (0 : Nat) = 3 from h))⟩
theorem st_q57 : st_Q 57 := fun j => ⟨(fun h => nomatch (show (0 : Nat) = 1 from h)), (fun h => nomatch (show (0 : Nat) = 2 from h)), (fun h => nomatch (show (0 : Nat) = 3 from h))⟩
theorem st_qlt : ∀ k, k < 58 → st_Q k := (lt_s (lt_s (lt_s (lt_s (lt_s (lt_s (lt_s (lt_s (lt_s (lt_s (lt_s (lt_s (lt_s (lt_s (lt_s (lt_s (lt_s (lt_s (lt_s (lt_s (lt_s (lt_s (lt_s (lt_s (lt_s (lt_s (lt_s (lt_s (lt_s (lt_s (lt_s (lt_s (lt_s (lt_s (lt_s (lt_s (lt_s (lt_s (lt_s (lt_s (lt_s (lt_s (lt_s (lt_s (lt_s (lt_s (lt_s (lt_s (lt_s (lt_s (lt_s (lt_s (lt_s (lt_s (lt_s (lt_s (lt_s (lt_s lt_0 st_q0) st_q1) st_q2) st_q3) st_q4) st_q5) st_q6) st_q7) st_q8) st_q9) st_q10) st_q11) st_q12) st_q13) st_q14) st_q15) st_q16) st_q17) st_q18) st_q19) st_q20) st_q21) st_q22) st_q23) st_q24) st_q25) st_q26) st_q27) st_q28) st_q29) st_q30) st_q31) st_q32) st_q33) st_q34) st_q35) st_q36) st_q37) st_q38) st_q39) st_q40) st_q41) st_q42) st_q43) st_q44) st_q45) st_q46) st_q47) st_q48) st_q49) st_q50) st_q51) st_q52) st_q53) st_q54) st_q55) st_q56) st_q57)
theorem st_wt_out {k j : Nat} (h : 58 ≤ k) : st_wt k j = 0 := by
  have ha : pg_ak k = 0 := eg_getD_out _ _ (show 58 ≤ k from h)
  unfold st_wt
  rw [ha]
  have hw : st_wl k = [] := eg_getD_out _ _ (show 58 ≤ k from h)
  rw [hw]
  rfl
theorem st_q (k : Nat) : st_Q k := by
  rcases Nat.lt_or_ge k 58 with h | h
  · exact st_qlt k h
  · intro j
    rw [st_wt_out h]
    exact ⟨(fun h => nomatch h), (fun h => nomatch h), (fun h => nomatch h)⟩
def st_W (k : Nat) : Prop := ∀ j, st_wt k j ≠ 0 → 2 ≤ k ∧ k < 50
theorem st_w0 : st_W 0 := fun j h => absurd (show st_wt 0 j = 0 from rfl) h
theorem st_w1 : st_W 1 := fun j h => absurd (show st_wt 1 j = 0 from rfl) h
theorem st_w2 : st_W 2 := fun _ _ => ⟨by decide, by decide⟩
theorem st_w3 : st_W 3 := fun _ _ => ⟨by decide, by decide⟩
theorem st_w4 : st_W 4 := fun _ _ => ⟨by decide, by decide⟩
theorem st_w5 : st_W 5 := fun _ _ => ⟨by decide, by decide⟩
theorem st_w6 : st_W 6 := fun _ _ => ⟨by decide, by decide⟩
theorem st_w7 : st_W 7 := fun _ _ => ⟨by decide, by decide⟩
theorem st_w8 : st_W 8 := fun _ _ => ⟨by decide, by decide⟩
theorem st_w9 : st_W 9 := fun _ _ => ⟨by decide, by decide⟩
theorem st_w10 : st_W 10 := fun _ _ => ⟨by decide, by decide⟩
theorem st_w11 : st_W 11 := fun _ _ => ⟨by decide, by decide⟩
theorem st_w12 : st_W 12 := fun _ _ => ⟨by decide, by decide⟩
theorem st_w13 : st_W 13 := fun _ _ => ⟨by decide, by decide⟩
theorem st_w14 : st_W 14 := fun _ _ => ⟨by decide, by decide⟩
theorem st_w15 : st_W 15 := fun _ _ => ⟨by decide, by decide⟩
theorem st_w16 : st_W 16 := fun _ _ => ⟨by decide, by decide⟩
theorem st_w17 : st_W 17 := fun _ _ => ⟨by decide, by decide⟩
theorem st_w18 : st_W 18 := fun _ _ => ⟨by decide, by decide⟩
theorem st_w19 : st_W 19 := fun _ _ => ⟨by decide, by decide⟩
theorem st_w20 : st_W 20 := fun _ _ => ⟨by decide, by decide⟩
theorem st_w21 : st_W 21 := fun _ _ => ⟨by decide, by decide⟩
theorem st_w22 : st_W 22 := fun _ _ => ⟨by decide, by decide⟩
theorem st_w23 : st_W 23 := fun _ _ => ⟨by decide, by decide⟩
theorem st_w24 : st_W 24 := fun _ _ => ⟨by decide, by decide⟩
theorem st_w25 : st_W 25 := fun _ _ => ⟨by decide, by decide⟩
theorem st_w26 : st_W 26 := fun _ _ => ⟨by decide, by decide⟩
theorem st_w27 : st_W 27 := fun _ _ => ⟨by decide, by decide⟩
theorem st_w28 : st_W 28 := fun _ _ => ⟨by decide, by decide⟩
theorem st_w29 : st_W 29 := fun _ _ => ⟨by decide, by decide⟩
theorem st_w30 : st_W 30 := fun _ _ => ⟨by decide, by decide⟩
theorem st_w31 : st_W 31 := fun _ _ => ⟨by decide, by decide⟩
theorem st_w32 : st_W 32 := fun _ _ => ⟨by decide, by decide⟩
theorem st_w33 : st_W 33 := fun _ _ => ⟨by decide, by decide⟩
theorem st_w34 : st_W 34 := fun _ _ => ⟨by decide, by decide⟩
theorem st_w35 : st_W 35 := fun _ _ => ⟨by decide, by decide⟩
theorem st_w36 : st_W 36 := fun _ _ => ⟨by decide, by decide⟩
theorem st_w37 : st_W 37 := fun _ _ => ⟨by decide, by decide⟩
theorem st_w38 : st_W 38 := fun _ _ => ⟨by decide, by decide⟩
theorem st_w39 : st_W 39 := fun _ _ => ⟨by decide, by decide⟩
theorem st_w40 : st_W 40 := fun _ _ => ⟨by decide, by decide⟩
theorem st_w41 : st_W 41 := fun _ _ => ⟨by decide, by decide⟩
theorem st_w42 : st_W 42 := fun _ _ => ⟨by decide, by decide⟩
theorem st_w43 : st_W 43 := fun _ _ => ⟨by decide, by decide⟩
theorem st_w44 : st_W 44 := fun _ _ => ⟨by decide, by decide⟩
theorem st_w45 : st_W 45 := fun _ _ => ⟨by decide, by decide⟩
theorem st_w46 : st_W 46 := fun _ _ => ⟨by decide, by decide⟩
theorem st_w47 : st_W 47 := fun _ _ => ⟨by decide, by decide⟩
theorem st_w48 : st_W 48 := fun _ _ => ⟨by decide, by decide⟩
theorem st_w49 : st_W 49 := fun _ _ => ⟨by decide, by decide⟩
theorem st_w50 : st_W 50
  | 0 => (fun h => absurd rfl h)
  | 1 => (fun h => absurd rfl h)
  | 2 => (fun h => absurd rfl h)
  | 3 => (fun h => absurd rfl h)
  | 4 => (fun h => absurd rfl h)
  | 5 => (fun h => absurd rfl h)
  | 6 => (fun h => absurd rfl h)
  | 7 => (fun h => absurd rfl h)
  | j + 8 => (fun h => absurd (show st_wt 50 (j + 8) = 0 from rfl) h)
theorem st_w51 : st_W 51 := fun j h => absurd (show st_wt 51 j = 0 from rfl) h
theorem st_w52 : st_W 52 := fun j h => absurd (show st_wt 52 j = 0 from rfl) h
theorem st_w53 : st_W 53
  | 0 => (fun h => absurd rfl h)
  | 1 => (fun h => absurd rfl h)
  | j + 2 => (fun h => absurd (show st_wt 53 (j + 2) = 0 from rfl) h)
theorem st_w54 : st_W 54 := fun j h => absurd (show st_wt 54 j = 0 from rfl) h
theorem st_w55 : st_W 55 := fun j h => absurd (show st_wt 55 j = 0 from rfl) h
theorem st_w56 : st_W 56 := fun j h => absurd (show st_wt 56 j = 0 from rfl) h
theorem st_w57 : st_W 57 := fun j h => absurd (show st_wt 57 j = 0 from rfl) h
theorem st_wlt : ∀ k, k < 58 → st_W k := (lt_s (lt_s (lt_s (lt_s (lt_s (lt_s (lt_s (lt_s (lt_s (lt_s (lt_s (lt_s (lt_s (lt_s (lt_s (lt_s (lt_s (lt_s (lt_s (lt_s (lt_s (lt_s (lt_s (lt_s (lt_s (lt_s (lt_s (lt_s (lt_s (lt_s (lt_s (lt_s (lt_s (lt_s (lt_s (lt_s (lt_s (lt_s (lt_s (lt_s (lt_s (lt_s (lt_s (lt_s (lt_s (lt_s (lt_s (lt_s (lt_s (lt_s (lt_s (lt_s (lt_s (lt_s (lt_s (lt_s (lt_s (lt_s lt_0 st_w0) st_w1) st_w2) st_w3) st_w4) st_w5) st_w6) st_w7) st_w8) st_w9) st_w10) st_w11) st_w12) st_w13) st_w14) st_w15) st_w16) st_w17) st_w18) st_w19) st_w20) st_w21) st_w22) st_w23) st_w24) st_w25) st_w26) st_w27) st_w28) st_w29) st_w30) st_w31) st_w32) st_w33) st_w34) st_w35) st_w36) st_w37) st_w38) st_w39) st_w40) st_w41) st_w42) st_w43) st_w44) st_w45) st_w46) st_w47) st_w48) st_w49) st_w50) st_w51) st_w52) st_w53) st_w54) st_w55) st_w56) st_w57)
theorem st_w (k : Nat) : st_W k := by
  rcases Nat.lt_or_ge k 58 with h | h
  · exact st_wlt k h
  · exact fun j hj => absurd (st_wt_out h) hj
theorem st_up_at {σ : st_S} {k i j : Nat} {x : Int32} (k2 i2 j2 : Nat) : (st_up σ k i j x).1 k2 i2 j2 = if k2 = k ∧ i2 = i ∧ j2 = j then x else σ.1 k2 i2 j2 := by
  show (bif Nat.beq k2 k && (Nat.beq j2 j && Nat.beq i2 i) then x else σ.1 k2 i2 j2) = _
  by_cases h : k2 = k ∧ i2 = i ∧ j2 = j
  · obtain ⟨rfl, rfl, rfl⟩ := h
    rw [if_pos ⟨rfl, rfl, rfl⟩]
    simp only [Nat.beq_refl, Bool.and_self, cond_true]
  · rw [if_neg h]
    cases hb : (Nat.beq k2 k && (Nat.beq j2 j && Nat.beq i2 i)) with
    | false => rfl
    | true =>
      simp only [Bool.and_eq_true] at hb
      exact absurd ⟨Nat.eq_of_beq_eq_true hb.1, Nat.eq_of_beq_eq_true hb.2.2, Nat.eq_of_beq_eq_true hb.2.1⟩ h
theorem beq_ff {a b : Nat} (h : a ≠ b) : Nat.beq a b = false := by
  cases hb : Nat.beq a b with
  | false => rfl
  | true => exact absurd (Nat.eq_of_beq_eq_true hb) h
theorem st_rd_up {σ : st_S} {k i j : Nat} {x : Int32} {v : eg_V} (hne : ¬ (k = 24 ∧ j = 0)) (hv : st_ds k i j x = v) (k2 i2 j2 : Nat) : st_rd (st_up σ k i j x) k2 i2 j2 = if k2 = k ∧ i2 = i ∧ j2 = j then v else st_rd σ k2 i2 j2 := by
  unfold st_rd
  cases hb : (Nat.beq k2 24 && Nat.beq j2 0) with
  | true =>
    simp only [Bool.and_eq_true] at hb
    rw [if_neg]
    · rfl
    · intro z
      exact hne ⟨by rw [← z.1]; exact Nat.eq_of_beq_eq_true hb.1, by rw [← z.2.2]; exact Nat.eq_of_beq_eq_true hb.2⟩
  | false =>
    simp only [cond_false]
    rw [st_up_at]
    by_cases h : k2 = k ∧ i2 = i ∧ j2 = j
    · rw [if_pos h, if_pos h, h.1, h.2.1, h.2.2, hv]
    · rw [if_neg h, if_neg h]
theorem st_Lwr : eg_Lwr st_X st_lv := by
  intro σ k i j v σ2 hl hj hv h
  cases v with
  | inl x =>
    replace h : (bif Nat.beq (st_wt k j) 1 then some (st_up σ k i j x) else none) = some σ2 := h
    cases hb : Nat.beq (st_wt k j) 1 with
    | false => rw [hb] at h; cases h
    | true =>
      rw [hb] at h
      cases h
      have h1 := Nat.eq_of_beq_eq_true hb
      have hq := (st_q k j).1 h1 i x
      refine ⟨(st_w k j (by rw [h1]; decide)).2, fun _ _ => Iff.rfl, fun _ _ => rfl, fun k2 i2 j2 _ => st_rd_up hq.2 hq.1 k2 i2 j2⟩
  | inr q =>
    replace h : (bif Nat.beq (st_wt k j) 2 && Nat.beq q.1 50 then some (st_up σ k i j (Int32.ofNat q.2)) else bif Nat.beq (st_wt k j) 3 && Nat.beq q.1 25 then some (σ.1, σ.2.1, σ.2.2.1, q.2, σ.2.2.2.2) else none) = some σ2 := h
    cases hb : (Nat.beq (st_wt k j) 2 && Nat.beq q.1 50) with
    | true =>
      rw [hb] at h
      cases h
      simp only [Bool.and_eq_true] at hb
      have h1 := Nat.eq_of_beq_eq_true hb.1
      have h2 : q.1 = 50 := Nat.eq_of_beq_eq_true hb.2
      have hq := (st_q k j).2.1 h1 i (Int32.ofNat q.2)
      have hlq : q.2 < 16 := by
        rcases hv with z | z | z
        · rw [h2] at z; cases z
        · rw [h2] at z; cases z
        · unfold st_lv at z
          rw [h2] at z
          exact z
      refine ⟨(st_w k j (by rw [h1]; decide)).2, fun _ _ => Iff.rfl, fun _ _ => rfl, fun k2 i2 j2 _ => st_rd_up hq.2 (hq.1.trans ?_) k2 i2 j2⟩
      have : (Int32.ofNat q.2).toNatClampNeg = q.2 := nI_clamp (n := q.2) (by omega)
      rw [this, ← h2]
    | false =>
      rw [hb] at h
      simp only [cond_false] at h
      cases hb2 : (Nat.beq (st_wt k j) 3 && Nat.beq q.1 25) with
      | false => rw [hb2] at h; cases h
      | true =>
        rw [hb2] at h
        cases h
        simp only [Bool.and_eq_true] at hb2
        have h1 := Nat.eq_of_beq_eq_true hb2.1
        have h2 : q.1 = 25 := Nat.eq_of_beq_eq_true hb2.2
        obtain ⟨rfl, rfl⟩ := (st_q k j).2.2 h1
        have hi : i = 0 := by
          have : i < 1 := hl
          omega
        subst hi
        refine ⟨by decide, fun _ _ => Iff.rfl, fun _ _ => rfl, fun k2 i2 j2 hl2 => ?_⟩
        show (bif Nat.beq k2 24 && Nat.beq j2 0 then Sum.inr (25, q.2) else st_ds k2 i2 j2 (σ.1 k2 i2 j2)) = if k2 = 24 ∧ i2 = 0 ∧ j2 = 0 then Sum.inr q else (bif Nat.beq k2 24 && Nat.beq j2 0 then Sum.inr (25, σ.2.2.2.1) else st_ds k2 i2 j2 (σ.1 k2 i2 j2))
        cases hb3 : (Nat.beq k2 24 && Nat.beq j2 0) with
        | true =>
          simp only [Bool.and_eq_true] at hb3
          have e1 : k2 = 24 := Nat.eq_of_beq_eq_true hb3.1
          have e2 : j2 = 0 := Nat.eq_of_beq_eq_true hb3.2
          subst e1; subst e2
          have e3 : i2 = 0 := by
            have : i2 < 1 := hl2
            omega
          subst e3
          rw [if_pos ⟨rfl, rfl, rfl⟩]
          show Sum.inr (25, q.2) = Sum.inr q
          rw [← h2]
        | false =>
          rw [if_neg (fun z => by rw [z.1, z.2.2] at hb3; cases hb3)]
          rfl
theorem st_Lnw : eg_Lnw st_X st_lv := by
  intro σ k n σ2 i hn h
  replace h : st_nw σ k n = some (σ2, i) := h
  unfold st_nw at h
  cases hb : Nat.beq k 25 with
  | false => rw [hb] at h; cases h
  | true =>
    rw [hb] at h
    have hk := Nat.eq_of_beq_eq_true hb
    subst hk
    cases h
    refine ⟨by decide, by decide, ?_, fun k2 i2 => ?_, fun k2 i2 h2 => ?_, fun _ => ?_, fun j hj => ?_⟩
    · show ¬ (if 25 = 25 then σ.2.1 < σ.2.1 else _)
      rw [if_pos rfl]
      exact Nat.lt_irrefl _
    · unfold st_lv
      by_cases hk : k2 = 25
      · subst hk
        rw [if_pos rfl, if_pos rfl]
        show i2 < σ.2.1 + 1 ↔ _
        omega
      · rw [if_neg hk, if_neg hk]
        exact ⟨Or.inl, fun z => z.elim id (fun z => absurd z.1 hk)⟩
    · refine ⟨?_, fun j => ?_⟩
      · show st_sz _ k2 i2 = st_sz σ k2 i2
        unfold st_sz
        cases hb2 : Nat.beq k2 25 with
        | false => rfl
        | true =>
          have hk := Nat.eq_of_beq_eq_true hb2
          subst hk
          show (bif Nat.beq i2 σ.2.1 then n else σ.2.2.1 i2) = σ.2.2.1 i2
          have : i2 < σ.2.1 := h2
          rw [beq_ff (by omega)]
          rfl
      · show st_rd _ k2 i2 j = st_rd σ k2 i2 j
        unfold st_rd
        cases (Nat.beq k2 24 && Nat.beq j 0) with
        | true => rfl
        | false =>
          simp only [cond_false]
          have e1 : (bif Nat.beq k2 25 && Nat.beq i2 σ.2.1 then (0 : Int32) else σ.1 k2 i2 j) = σ.1 k2 i2 j := by
            cases hb2 : Nat.beq k2 25 with
            | false => rfl
            | true =>
              have hk := Nat.eq_of_beq_eq_true hb2
              subst hk
              have : i2 < σ.2.1 := h2
              rw [beq_ff (by omega)]
              rfl
          exact congrArg _ e1
    · show (bif Nat.beq σ.2.1 σ.2.1 then n else _) = n
      rw [Nat.beq_refl]
      rfl
    · show st_ds 25 σ.2.1 j (bif Nat.beq 25 25 && Nat.beq σ.2.1 σ.2.1 then (0 : Int32) else σ.1 25 σ.2.1 j) = eg_dft 25 j
      rw [show Nat.beq σ.2.1 σ.2.1 = true from Nat.beq_refl _]
      rfl
theorem st_Lcp : eg_Lcp st_X st_lv := by
  intro σ q sp d dp n σ2 hq hd hk h
  replace h : st_cp σ q sp d dp n = some σ2 := h
  unfold st_cp at h
  cases hb : Nat.beq d.1 25 with
  | false => rw [hb] at h; cases h
  | true =>
    rw [hb] at h
    have hd25 := Nat.eq_of_beq_eq_true hb
    cases h
    refine ⟨by rw [hd25]; decide, fun _ _ => Iff.rfl, fun _ _ => rfl, fun k2 i2 j2 h2 => ?_⟩
    show st_rd _ k2 i2 j2 = _
    unfold st_rd
    rw [hd25]
    by_cases hk2 : k2 = 25
    · subst hk2
      show st_ds 25 i2 j2 (bif Nat.beq 25 25 && (Nat.beq i2 d.2 && (Nat.ble dp j2 && Nat.blt j2 (dp + n))) then eg_int (st_rd σ q.1 q.2 (sp + (j2 - dp))) else σ.1 25 i2 j2) = if 25 = 25 ∧ i2 = d.2 ∧ dp ≤ j2 ∧ j2 < dp + n then Sum.inl (eg_int (st_rd σ q.1 q.2 (sp + (j2 - dp)))) else st_ds 25 i2 j2 (σ.1 25 i2 j2)
      by_cases hc : i2 = d.2 ∧ dp ≤ j2 ∧ j2 < dp + n
      · rw [if_pos ⟨rfl, hc⟩]
        have e1 : Nat.beq i2 d.2 = true := by rw [hc.1]; exact Nat.beq_refl _
        have e2 : Nat.ble dp j2 = true := Nat.ble_eq_true_of_le hc.2.1
        have e3 : Nat.blt j2 (dp + n) = true := Nat.ble_eq_true_of_le hc.2.2
        rw [e1, e2, e3]
        rfl
      · rw [if_neg (fun z => hc z.2)]
        cases hb2 : (Nat.beq 25 25 && (Nat.beq i2 d.2 && (Nat.ble dp j2 && Nat.blt j2 (dp + n)))) with
        | false => rfl
        | true =>
          simp only [Bool.and_eq_true] at hb2
          exact absurd ⟨Nat.eq_of_beq_eq_true hb2.2.1, Nat.le_of_ble_eq_true hb2.2.2.1, Nat.le_of_ble_eq_true hb2.2.2.2⟩ hc
    · rw [if_neg (fun z => hk2 z.1)]
      show (bif Nat.beq k2 24 && Nat.beq j2 0 then Sum.inr (25, σ.2.2.2.1) else st_ds k2 i2 j2 (bif Nat.beq k2 25 && (Nat.beq i2 d.2 && (Nat.ble dp j2 && Nat.blt j2 (dp + n))) then eg_int (st_rd σ q.1 q.2 (sp + (j2 - dp))) else σ.1 k2 i2 j2)) = (bif Nat.beq k2 24 && Nat.beq j2 0 then Sum.inr (25, σ.2.2.2.1) else st_ds k2 i2 j2 (σ.1 k2 i2 j2))
      rw [beq_ff hk2]
      rfl
theorem st_Lst : eg_Lst st_lv := by
  intro σ
  refine ⟨?_, ?_⟩
  · exact (lt_s (lt_s (lt_s (lt_s (lt_s (lt_s (lt_s (lt_s (lt_s (lt_s (lt_s (lt_s (lt_s (lt_s (lt_s (lt_s (lt_s (lt_s (lt_s (lt_s (lt_s (lt_s lt_0 (Or.inr (Or.inr (show (if 50 = 25 then _ else 0 < st_pop 50) from Nat.le_of_ble_eq_true rfl)))) (Or.inr (Or.inr (show (if 50 = 25 then _ else 1 < st_pop 50) from Nat.le_of_ble_eq_true rfl)))) (Or.inr (Or.inr (show (if 50 = 25 then _ else 2 < st_pop 50) from Nat.le_of_ble_eq_true rfl)))) (Or.inr (Or.inr (show (if 50 = 25 then _ else 3 < st_pop 50) from Nat.le_of_ble_eq_true rfl)))) (Or.inr (Or.inr (show (if 50 = 25 then _ else 4 < st_pop 50) from Nat.le_of_ble_eq_true rfl)))) (Or.inr (Or.inr (show (if 50 = 25 then _ else 5 < st_pop 50) from Nat.le_of_ble_eq_true rfl)))) (Or.inr (Or.inr (show (if 50 = 25 then _ else 6 < st_pop 50) from Nat.le_of_ble_eq_true rfl)))) (Or.inr (Or.inr (show (if 50 = 25 then _ else 7 < st_pop 50) from Nat.le_of_ble_eq_true rfl)))) (Or.inr (Or.inr (show (if 50 = 25 then _ else 8 < st_pop 50) from Nat.le_of_ble_eq_true rfl)))) (Or.inr (Or.inr (show (if 50 = 25 then _ else 9 < st_pop 50) from Nat.le_of_ble_eq_true rfl)))) (Or.inr (Or.inr (show (if 50 = 25 then _ else 10 < st_pop 50) from Nat.le_of_ble_eq_true rfl)))) (Or.inr (Or.inr (show (if 50 = 25 then _ else 11 < st_pop 50) from Nat.le_of_ble_eq_true rfl)))) (Or.inr (Or.inr (show (if 50 = 25 then _ else 12 < st_pop 50) from Nat.le_of_ble_eq_true rfl)))) (Or.inr (Or.inr (show (if 50 = 25 then _ else 13 < st_pop 50) from Nat.le_of_ble_eq_true rfl)))) (Or.inr (Or.inr (show (if 50 = 25 then _ else 14 < st_pop 50) from Nat.le_of_ble_eq_true rfl)))) (Or.inr (Or.inr (show (if 50 = 25 then _ else 15 < st_pop 50) from Nat.le_of_ble_eq_true rfl)))) (Or.inr (Or.inr (show (if 51 = 25 then _ else 0 < st_pop 51) from Nat.le_of_ble_eq_true rfl)))) (Or.inr (Or.inr (show (if 52 = 25 then _ else 0 < st_pop 52) from Nat.le_of_ble_eq_true rfl)))) (trivial)) (Or.inr (Or.inr (show (if 55 = 25 then _ else 0 < st_pop 55) from Nat.le_of_ble_eq_true rfl)))) (Or.inr (Or.inr (show (if 56 = 25 then _ else 0 < st_pop 56) from Nat.le_of_ble_eq_true rfl)))) (Or.inr (Or.inl rfl)))
  · show (if 53 = 25 then _ else 0 < st_pop 53)
    rw [if_neg (by decide)]
    decide
theorem st_Lmn : eg_Lmn st_X st_lv := by
  refine ⟨fun σ k i j v σ2 h k2 i2 h2 => ?_, fun σ k n σ2 i h k2 i2 h2 => ?_, fun σ q sp d dp n σ2 h k2 i2 h2 => ?_⟩
  · replace h : st_wr σ k i j v = some σ2 := h
    have : σ2.2.1 = σ.2.1 := by
      unfold st_wr at h
      split at h
      · simp only [cond_eq_ite] at h
        split at h
        · cases h; rfl
        · cases h
      · simp only [cond_eq_ite] at h
        split at h
        · cases h; rfl
        · split at h
          · cases h; rfl
          · cases h
    unfold st_lv at h2 ⊢
    rw [this]
    exact h2
  · replace h : st_nw σ k n = some (σ2, i) := h
    have : σ2.2.1 = σ.2.1 + 1 := by
      unfold st_nw at h
      simp only [cond_eq_ite] at h
      split at h
      · cases h; rfl
      · cases h
    unfold st_lv at h2 ⊢
    rw [this]
    split
    · rename_i h9
      rw [if_pos h9] at h2
      omega
    · rename_i h9
      rw [if_neg h9] at h2
      exact h2
  · replace h : st_cp σ q sp d dp n = some σ2 := h
    have : σ2.2.1 = σ.2.1 := by
      unfold st_cp at h
      simp only [cond_eq_ite] at h
      split at h
      · cases h; rfl
      · cases h
    unfold st_lv at h2 ⊢
    rw [this]
    exact h2
theorem st_sound {D : va_G} {A : Nat → Prop} {l : Launch} (n : Nat) : eg_Snd st_X st_lv D A l n := eg_sound eg_tbl_ok st_Lwr st_Lnw st_Lcp st_Lst st_Lmn n
