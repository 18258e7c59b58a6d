/-! RUNS of the engine: more steps do no harm; rules -/
section EGV
variable {S : Type} (X : eg_X S) (T : eg_T)
theorem eg_ip_succ : ∀ (n mi pc : Nat) (σ : S) (u : Nat × Nat) (ls : eg_L) (st : List eg_V) (x : S × Option eg_V), eg_ip X T n mi pc σ u ls st = some x → eg_ip X T (n + 1) mi pc σ u ls st = some x := by
  intro n
  induction n with
  | zero => intro mi pc σ u ls st x h; simp [eg_ip] at h
  | succ n ih =>
    intro mi pc σ u ls st x h
    rw [eg_ip] at h ⊢
    split at h
    · exact ih _ _ _ _ _ _ _ h
    · split at h
      · rename_i h2
        rw [ih _ _ _ _ _ _ _ h2]
        exact ih _ _ _ _ _ _ _ h
      · cases h
    · exact h
    · cases h
theorem eg_ip_le {n k mi pc : Nat} {σ : S} {u : Nat × Nat} {ls : eg_L} {st : List eg_V} {x : S × Option eg_V} (h : eg_ip X T n mi pc σ u ls st = some x) (hk : n ≤ k) : eg_ip X T k mi pc σ u ls st = some x := by
  induction hk with
  | refl => exact h
  | step _ ih => exact eg_ip_succ X T _ _ _ _ _ _ _ _ ih
/-- from here the method comes to its end with store σ' and answer r -/
def eg_ev (mi pc : Nat) (σ : S) (u : Nat × Nat) (ls : eg_L) (st : List eg_V) (σ' : S) (r : Option eg_V) : Prop := ∃ n, eg_ip X T n mi pc σ u ls st = some (σ', r)
variable {X T}
theorem eg_ev_nx {mi pc pc' : Nat} {σ σ1 σ' : S} {u u' : Nat × Nat} {ls ls' : eg_L} {st st' : List eg_V} {r : Option eg_V} (h : eg_step X T mi pc σ u ls st = some (true, .inl (pc', σ1, u', ls', st'))) (k : eg_ev X T mi pc' σ1 u' ls' st' σ' r) : eg_ev X T mi pc σ u ls st σ' r := by
  obtain ⟨n, hn⟩ := k
  exact ⟨n + 1, by rw [eg_ip, h]; exact hn⟩
theorem eg_ev_call {mi pc pc' j : Nat} {σ σ1 σ' : S} {u : Nat × Nat} {ls : eg_L} {st st' av : List eg_V} {r r1 : Option eg_V} (h : eg_step X T mi pc σ u ls st = some (true, .inr (.inl (j, av, pc', st')))) (k1 : eg_ev X T j 0 σ (0, 0) (eg_ent 0 av) [] σ1 r1) (k : eg_ev X T mi pc' σ1 (u.1 + (T.2.2.2.2.1 j).2.1, u.2 + (T.2.2.2.2.1 j).2.2) ls (r1.toList ++ st') σ' r) : eg_ev X T mi pc σ u ls st σ' r := by
  obtain ⟨n1, h1⟩ := k1
  obtain ⟨n, hn⟩ := k
  refine ⟨max n1 n + 1, ?_⟩
  rw [eg_ip, h]
  dsimp only
  rw [eg_ip_le X T h1 (Nat.le_max_left _ _)]
  exact eg_ip_le X T hn (Nat.le_max_right _ _)
theorem eg_ev_ret {mi pc : Nat} {σ : S} {u : Nat × Nat} {ls : eg_L} {st : List eg_V} {r : Option eg_V} (h : eg_step X T mi pc σ u ls st = some (true, .inr (.inr r))) : eg_ev X T mi pc σ u ls st σ r := ⟨1, by rw [eg_ip, h]⟩
variable (X T)
/-- n steps without a call; what they ask for (places in their arrays, divisors) is told, not looked at -/
def eg_run : Nat → Nat → Nat → S → Nat × Nat → eg_L → List eg_V → Option (Bool × eg_C S)
  | 0, _, pc, σ, u, ls, st => some (true, (pc, σ, u, ls, st))
  | n + 1, mi, pc, σ, u, ls, st => match eg_step X T mi pc σ u ls st with
    | some (g, .inl (pc', σ', u', ls', st')) => (match eg_run n mi pc' σ' u' ls' st' with
      | some (g', c) => some (g && g', c)
      | none => none)
    | _ => none
variable {X T}
theorem eg_ev_run : ∀ (n : Nat) {mi pc pc' : Nat} {σ σ1 σ' : S} {u u' : Nat × Nat} {ls ls' : eg_L} {st st' : List eg_V} {r : Option eg_V} {g : Bool}, eg_run X T n mi pc σ u ls st = some (g, (pc', σ1, u', ls', st')) → g = true → eg_ev X T mi pc' σ1 u' ls' st' σ' r → eg_ev X T mi pc σ u ls st σ' r := by
  intro n
  induction n with
  | zero =>
    intro mi pc pc' σ σ1 σ' u u' ls ls' st st' r g h hg k
    simp only [eg_run, Option.some.injEq, Prod.mk.injEq] at h
    obtain ⟨-, rfl, rfl, rfl, rfl, rfl⟩ := h
    exact k
  | succ n ih =>
    intro mi pc pc' σ σ1 σ' u u' ls ls' st st' r g h hg k
    rw [eg_run] at h
    split at h
    · rename_i g1 pc1 s1 u1 l1 t1 h1
      split at h
      · rename_i g2 c2 h2
        simp only [Option.some.injEq, Prod.mk.injEq] at h
        obtain ⟨h3, rfl⟩ := h
        subst h3
        simp only [Bool.and_eq_true] at hg
        obtain ⟨hg1, hg2⟩ := hg
        subst hg1
        exact eg_ev_nx h1 (ih h2 hg2 k)
      · cases h
    · cases h
theorem eg_ev_if {mi t f : Nat} {b : Bool} {σ σ' : S} {u : Nat × Nat} {ls : eg_L} {st : List eg_V} {r : Option eg_V} (ht : b = true → eg_ev X T mi t σ u ls st σ' r) (hf : b = false → eg_ev X T mi f σ u ls st σ' r) : eg_ev X T mi (bif b then t else f) σ u ls st σ' r := by
  cases b
  · exact hf rfl
  · exact ht rfl
end EGV
