/-! WHAT A STEP'S RESULT LOOKS LIKE -/
section EGSH
variable {S : Type}
def eg_Ok (X : eg_X S) (mi : Nat) (σ : S) (u : Nat × Nat) (g : Bool) (c : eg_R S) : Prop := ∃ pc2 σ2 u2 ls2 st2, c = .inl (pc2, σ2, u2, ls2, st2) ∧ (σ2 = σ ∨ (∃ k i j v, X.2.2.1 σ k i j v = some σ2) ∨ (∃ k n i, X.2.2.2.1 σ k n = some (σ2, i)) ∨ ∃ q sp d dp n, X.2.2.2.2 σ q sp d dp n = some σ2) ∧ (u2 = u ∨ (g = true → u2.1 ≤ (pg_mt mi).2.1 ∧ u2.2 ≤ (pg_mt mi).2.2))
variable {X : eg_X S} {mi : Nat} {σ : S} {u : Nat × Nat} {g : Bool} {c : eg_R S} {pc a b t i : Nat} {ls : eg_L} {st : List eg_V}
theorem eg_Ok.same {pc2 : Nat} {ls2 : eg_L} {st2 : List eg_V} : eg_Ok X mi σ u g (.inl (pc2, σ, u, ls2, st2)) := ⟨_, _, _, _, _, rfl, Or.inl rfl, Or.inl rfl⟩
theorem eg_ok_stk {o : Option (List eg_V)} (h : eg_stk o pc σ u ls = some (g, c)) : eg_Ok X mi σ u g c := by
  cases o with
  | none => cases h
  | some w => cases h; exact .same
theorem eg_ok_psh {o : Option eg_V} (h : eg_psh o pc σ u ls st = some (g, c)) : eg_Ok X mi σ u g c := by
  cases o with
  | none => cases h
  | some w => cases h; exact .same
theorem eg_ok_sti (h : eg_sti i pc σ u ls st = some (g, c)) : eg_Ok X mi σ u g c := by
  unfold eg_sti at h
  split at h
  · cases h; exact .same
  · cases h
theorem eg_ok_str (h : eg_str i pc σ u ls st = some (g, c)) : eg_Ok X mi σ u g c := by
  unfold eg_str at h
  split at h
  · cases h; exact .same
  · cases h
theorem eg_ok_inc {n : Int} (h : eg_inc i n pc σ u ls st = some (g, c)) : eg_Ok X mi σ u g c := by
  unfold eg_inc at h
  split at h
  · cases h; exact .same
  · cases h
theorem eg_ok_b1 {f : Int32 → Bool} (h : eg_b1 f t pc σ u ls st = some (g, c)) : eg_Ok X mi σ u g c := by
  unfold eg_b1 at h
  split at h
  · cases h; exact .same
  · cases h
theorem eg_ok_b2 {f : Int32 → Int32 → Bool} (h : eg_b2 f t pc σ u ls st = some (g, c)) : eg_Ok X mi σ u g c := by
  unfold eg_b2 at h
  split at h
  · cases h; exact .same
  · cases h
theorem eg_ok_bn {f : Nat × Nat → Bool} (h : eg_bn f t pc σ u ls st = some (g, c)) : eg_Ok X mi σ u g c := by
  unfold eg_bn at h
  split at h
  · simp only [cond_eq_ite] at h
    split at h
    · cases h
    · cases h; exact .same
  · cases h
theorem eg_ok_ba {f : Nat × Nat → Nat × Nat → Bool} (h : eg_ba f t pc σ u ls st = some (g, c)) : eg_Ok X mi σ u g c := by
  unfold eg_ba at h
  split at h
  · simp only [cond_eq_ite] at h
    split at h
    · cases h; exact .same
    · cases h
  · cases h
theorem eg_ok_dv {f : Int32 → Int32 → Int32} (h : eg_dv f pc σ u ls st = some (g, c)) : eg_Ok X mi σ u g c := by
  unfold eg_dv at h
  split at h
  · cases h; exact .same
  · cases h
theorem eg_ok_mm {f : Int32 → Int32 → Int32} (h : eg_mm f pc σ u ls st = some (g, c)) : eg_Ok X mi σ u g c := by
  unfold eg_mm at h
  split at h
  · simp only [cond_eq_ite] at h
    split at h
    · cases h; exact .same
    · cases h
  · cases h
theorem eg_ok_sw {f : Int32 → Nat} (h : eg_sw f σ u ls st = some (g, c)) : eg_Ok X mi σ u g c := by
  unfold eg_sw at h
  split at h
  · cases h; exact .same
  · cases h
theorem eg_ok_oi {T : eg_T} (h : eg_oi T pc σ u ls st = some (g, c)) : eg_Ok X mi σ u g c := by
  unfold eg_oi at h
  split at h
  · simp only [cond_eq_ite] at h
    split at h
    · cases h; exact .same
    · cases h
  · cases h
theorem eg_ok_gf {T : eg_T} (h : eg_gf X T a b pc σ u ls st = some (g, c)) : eg_Ok X mi σ u g c := by
  unfold eg_gf at h
  split at h
  · simp only [cond_eq_ite] at h
    split at h
    · cases h; exact .same
    · cases h
  · cases h
theorem eg_ok_al {T : eg_T} (h : eg_al X T t pc σ u ls st = some (g, c)) : eg_Ok X mi σ u g c := by
  unfold eg_al at h
  split at h
  · simp only [cond_eq_ite] at h
    split at h
    · cases h; exact .same
    · cases h
  · cases h
theorem eg_ok_ar {T : eg_T} (h : eg_ar X T pc σ u ls st = some (g, c)) : eg_Ok X mi σ u g c := by
  unfold eg_ar at h
  split at h
  · simp only [cond_eq_ite] at h
    split at h
    · cases h; exact .same
    · cases h
  · cases h
theorem eg_ok_len {T : eg_T} (h : eg_len X T pc σ u ls st = some (g, c)) : eg_Ok X mi σ u g c := by
  unfold eg_len at h
  split at h
  · simp only [cond_eq_ite] at h
    split at h
    · cases h
    · cases h; exact .same
  · cases h
theorem eg_ok_pf {T : eg_T} (h : eg_pf X T a b pc σ u ls st = some (g, c)) : eg_Ok X mi σ u g c := by
  unfold eg_pf at h
  split at h
  · simp only [cond_eq_ite] at h
    split at h
    · split at h
      · rename_i hw
        cases h
        exact ⟨_, _, _, _, _, rfl, Or.inr (Or.inl ⟨_, _, _, _, hw⟩), Or.inl rfl⟩
      · cases h
    · cases h
  · cases h
theorem eg_ok_as {T : eg_T} {f : Int32 → Int32} (h : eg_as X T t f pc σ u ls st = some (g, c)) : eg_Ok X mi σ u g c := by
  unfold eg_as at h
  split at h
  · simp only [cond_eq_ite] at h
    split at h
    · split at h
      · rename_i hw
        cases h
        exact ⟨_, _, _, _, _, rfl, Or.inr (Or.inl ⟨_, _, _, _, hw⟩), Or.inl rfl⟩
      · cases h
    · cases h
  · cases h
theorem eg_ok_ast {T : eg_T} (h : eg_ast X T a b pc σ u ls st = some (g, c)) : eg_Ok X mi σ u g c := by
  unfold eg_ast at h
  split at h
  · simp only [cond_eq_ite] at h
    split at h
    · split at h
      · rename_i hw
        cases h
        exact ⟨_, _, _, _, _, rfl, Or.inr (Or.inl ⟨_, _, _, _, hw⟩), Or.inl rfl⟩
      · cases h
    · cases h
  · cases h
theorem eg_ok_cpy {T : eg_T} (h : eg_cpy X T pc σ u ls st = some (g, c)) : eg_Ok X mi σ u g c := by
  unfold eg_cpy at h
  split at h
  · simp only [cond_eq_ite] at h
    split at h
    · split at h
      · rename_i hw
        cases h
        exact ⟨_, _, _, _, _, rfl, Or.inr (Or.inr (Or.inr ⟨_, _, _, _, _, hw⟩)), Or.inl rfl⟩
      · cases h
    · cases h
  · cases h
theorem eg_ok_new (h : eg_new X pg_T a mi pc σ u ls st = some (g, c)) : eg_Ok X mi σ u g c := by
  unfold eg_new at h
  split at h
  · rename_i hw
    cases h
    refine ⟨_, _, _, _, _, rfl, Or.inr (Or.inr (Or.inl ⟨_, _, _, hw⟩)), Or.inr (fun hg => ?_)⟩
    simp only [Bool.and_eq_true] at hg
    exact ⟨Nat.le_of_ble_eq_true hg.1, Nat.le_of_ble_eq_true hg.2⟩
  · cases h
theorem eg_ok_newa (h : eg_newa X pg_T a mi pc σ u ls st = some (g, c)) : eg_Ok X mi σ u g c := by
  unfold eg_newa at h
  split at h
  · split at h
    · rename_i hw
      cases h
      refine ⟨_, _, _, _, _, rfl, Or.inr (Or.inr (Or.inl ⟨_, _, _, hw⟩)), Or.inr (fun hg => ?_)⟩
      simp only [Bool.and_eq_true] at hg
      exact ⟨Nat.le_of_ble_eq_true hg.2.2.1, Nat.le_of_ble_eq_true hg.2.2.2⟩
    · cases h
  · cases h
/-- a step goes on, or is a call, or an end -/
theorem eg_do_shape {I : Jvm.ClassFile.Instr} (h : eg_do X pg_T I a b mi pc σ u ls st = some (g, c)) : eg_Ok X mi σ u g c ∨
    (∃ idx, ((I = .invokevirtual idx) ∨ (I = .invokespecial idx ∧ b ≠ 99)) ∧ (eg_call pg_T a b mi (pc + 3) u st : eg_O S) = some (g, c)) ∨ (∃ idx, I = .invokestatic idx ∧ (b ≠ 99 ∧ b ≠ 98 ∧ b ≠ 97) ∧ (eg_call pg_T a 0 mi (pc + 3) u st : eg_O S) = some (g, c)) ∨
    (I = .ireturn ∧ (eg_ri a st : eg_O S) = some (g, c)) ∨ (I = .areturn ∧ (eg_ra st : eg_O S) = some (g, c)) ∨ (I = .return_ ∧ (eg_rv st : eg_O S) = some (g, c)) := by
  cases I
  case iconst => cases h; exact Or.inl .same
  case bipush => cases h; exact Or.inl .same
  case sipush => cases h; exact Or.inl .same
  case ldc => cases h; exact Or.inl .same
  case aconst_null => cases h; exact Or.inl .same
  case goto => cases h; exact Or.inl .same
  case getstatic => cases h; exact Or.inl .same
  case iload_n => exact Or.inl (eg_ok_psh h)
  case iload => exact Or.inl (eg_ok_psh h)
  case aload_n => exact Or.inl (eg_ok_psh h)
  case aload => exact Or.inl (eg_ok_psh h)
  case istore_n => exact Or.inl (eg_ok_sti h)
  case istore => exact Or.inl (eg_ok_sti h)
  case astore_n => exact Or.inl (eg_ok_str h)
  case astore => exact Or.inl (eg_ok_str h)
  case iinc => exact Or.inl (eg_ok_inc h)
  case idiv => exact Or.inl (eg_ok_dv h)
  case irem => exact Or.inl (eg_ok_dv h)
  case ifCond cd _ => cases cd <;> exact Or.inl (eg_ok_b1 h)
  case if_icmp cd _ => cases cd <;> exact Or.inl (eg_ok_b2 h)
  case if_acmp cd _ => cases cd <;> exact Or.inl (eg_ok_ba h)
  case ifnull => exact Or.inl (eg_ok_bn h)
  case ifnonnull => exact Or.inl (eg_ok_bn h)
  case tableswitch => exact Or.inl (eg_ok_sw h)
  case lookupswitch => exact Or.inl (eg_ok_sw h)
  case getfield => exact Or.inl (eg_ok_gf h)
  case putfield => exact Or.inl (eg_ok_pf h)
  case iaload => exact Or.inl (eg_ok_al h)
  case baload => exact Or.inl (eg_ok_al h)
  case caload => exact Or.inl (eg_ok_al h)
  case aaload => exact Or.inl (eg_ok_ar h)
  case arraylength => exact Or.inl (eg_ok_len h)
  case iastore => exact Or.inl (eg_ok_as h)
  case bastore =>
    replace h : (bif Nat.beq a 4 then eg_as X pg_T 4 (fun x => x &&& 1) (pc + 1) σ u ls st else eg_as X pg_T 2 (fun x => x.toInt8.toInt32) (pc + 1) σ u ls st) = some (g, c) := h
    cases ha : Nat.beq a 4 with
    | true => rw [ha] at h; exact Or.inl (eg_ok_as h)
    | false => rw [ha] at h; exact Or.inl (eg_ok_as h)
  case aastore => exact Or.inl (eg_ok_ast h)
  case new => exact Or.inl (eg_ok_new h)
  case newarray => exact Or.inl (eg_ok_newa h)
  case anewarray => exact Or.inl (eg_ok_newa h)
  case invokevirtual idx => exact Or.inr (Or.inl ⟨idx, Or.inl rfl, h⟩)
  case invokespecial idx =>
    replace h : (bif Nat.beq b 99 then eg_oi pg_T (pc + 3) σ u ls st else eg_call pg_T a b mi (pc + 3) u st) = some (g, c) := h
    cases hb : Nat.beq b 99 with
    | true => rw [hb] at h; exact Or.inl (eg_ok_oi h)
    | false =>
      rw [hb] at h
      exact Or.inr (Or.inl ⟨idx, Or.inr ⟨rfl, fun e => by rw [e] at hb; cases hb⟩, h⟩)
  case invokestatic idx =>
    replace h : (bif Nat.beq b 99 then eg_cpy X pg_T (pc + 3) σ u ls st else bif Nat.beq b 98 then eg_mm (fun x y => if x < y then y else x) (pc + 3) σ u ls st else bif Nat.beq b 97 then eg_mm (fun x y => if y < x then y else x) (pc + 3) σ u ls st else eg_call pg_T a 0 mi (pc + 3) u st) = some (g, c) := h
    cases hb : Nat.beq b 99 with
    | true => rw [hb] at h; exact Or.inl (eg_ok_cpy h)
    | false =>
      rw [hb] at h
      cases hb2 : Nat.beq b 98 with
      | true => rw [hb2] at h; exact Or.inl (eg_ok_mm h)
      | false =>
        rw [hb2] at h
        cases hb3 : Nat.beq b 97 with
        | true => rw [hb3] at h; exact Or.inl (eg_ok_mm h)
        | false =>
          rw [hb3] at h
          exact Or.inr (Or.inr (Or.inl ⟨idx, rfl, ⟨(fun e => by rw [e] at hb; cases hb), (fun e => by rw [e] at hb2; cases hb2), (fun e => by rw [e] at hb3; cases hb3)⟩, h⟩))
  case ireturn => exact Or.inr (Or.inr (Or.inr (Or.inl ⟨rfl, h⟩)))
  case areturn => exact Or.inr (Or.inr (Or.inr (Or.inr (Or.inl ⟨rfl, h⟩))))
  case return_ => exact Or.inr (Or.inr (Or.inr (Or.inr (Or.inr ⟨rfl, h⟩))))
  all_goals first | (cases h; done) | exact Or.inl (eg_ok_stk h)
end EGSH
