/-! ONE STEP that is no call: what the engine does, the machine does -/
def eg_ln : Jvm.ClassFile.Instr → Option Nat
  | .iconst _ | .aconst_null | .iload_n _ | .aload_n _ | .istore_n _ | .astore_n _ | .iadd | .isub | .imul | .iand | .ior | .ixor | .ishl | .ishr | .iushr | .ineg | .i2b | .i2s | .i2c | .idiv | .irem | .dup | .dup_x1 | .dup_x2 | .dup2 | .pop | .iaload | .baload | .caload | .aaload | .iastore | .bastore | .aastore | .arraylength | .ireturn | .areturn | .return_ => some 1
  | .bipush _ | .ldc _ | .iload _ | .aload _ | .istore _ | .astore _ | .newarray _ => some 2
  | .tableswitch .. | .lookupswitch .. => none
  | _ => some 3
theorem eg_beq_ff {a b : Nat} (h : a ≠ b) : Nat.beq a b = false := by
  cases hb : Nat.beq a b with
  | false => rfl
  | true => exact absurd (Nat.eq_of_beq_eq_true hb) h
theorem eg_ba_spec {S : Type} {f : Nat × Nat → Nat × Nat → Bool} {t pc pc2 : Nat} {σ σ2 : S} {u u2 : Nat × Nat} {ls ls2 : eg_L} {st st2 : List eg_V} {g : Bool} (h : eg_ba f t pc σ u ls st = some (g, .inl (pc2, σ2, u2, ls2, st2))) : ∃ x y r, st = .inr y :: .inr x :: r ∧ y.1 = 50 ∧ x.1 = 50 ∧ pc2 = (bif f x y then t else pc) ∧ σ2 = σ ∧ u2 = u ∧ ls2 = ls ∧ st2 = r := by
  unfold eg_ba at h
  split at h
  · rename_i y x r
    cases hq : (Nat.beq y.1 50 && Nat.beq x.1 50) with
    | false => rw [hq] at h; cases h
    | true =>
      rw [hq] at h
      simp only [Bool.and_eq_true] at hq
      cases h
      exact ⟨x, y, _, rfl, Nat.eq_of_beq_eq_true hq.1, Nat.eq_of_beq_eq_true hq.2, rfl, rfl, rfl, rfl, rfl⟩
  · cases h
theorem eg_call_spec {S : Type} {T : eg_T} {j b mi pc : Nat} {u : Nat × Nat} {st : List eg_V} {g : Bool} {c : eg_R S} (h : (eg_call T j b mi pc u st : eg_O S) = some (g, c)) : (T.2.2.2.2.1 j).1 ≤ st.length ∧ (b = 0 ∨ eg_rcv T b (st.drop ((T.2.2.2.2.1 j).1 - 1)) = true) ∧ g = (Nat.ble (st.length - (T.2.2.2.2.1 j).1) 8 && (Nat.ble (u.1 + (T.2.2.2.2.1 j).2.1) (T.2.2.2.2.1 mi).2.1 && Nat.ble (u.2 + (T.2.2.2.2.1 j).2.2) (T.2.2.2.2.1 mi).2.2)) ∧ c = .inr (.inl (j, (st.take (T.2.2.2.2.1 j).1).reverse, pc, st.drop (T.2.2.2.2.1 j).1)) := by
  unfold eg_call at h
  cases hq : (Nat.ble (T.2.2.2.2.1 j).1 st.length && (Nat.beq b 0 || eg_rcv T b (st.drop ((T.2.2.2.2.1 j).1 - 1)))) with
  | false => rw [hq] at h; cases h
  | true =>
    rw [hq] at h
    simp only [Bool.and_eq_true, Bool.or_eq_true] at hq
    cases h
    exact ⟨Nat.le_of_ble_eq_true hq.1, hq.2.elim (fun z => Or.inl (Nat.eq_of_beq_eq_true z)) Or.inr, rfl, rfl⟩
theorem eg_call_inl {S : Type} {T : eg_T} {j b mi pc : Nat} {u : Nat × Nat} {st : List eg_V} {g : Bool} {c : eg_C S} (h : (eg_call T j b mi pc u st : eg_O S) = some (g, .inl c)) : False := by
  obtain ⟨-, -, -, h4⟩ := eg_call_spec h
  cases h4
theorem eg_ret_inl {S : Type} {a : Nat} {st : List eg_V} {g : Bool} {c : eg_C S} : ¬ (eg_ri a st : eg_O S) = some (g, .inl c) ∧ ¬ (eg_ra st : eg_O S) = some (g, .inl c) ∧ ¬ (eg_rv st : eg_O S) = some (g, .inl c) := by
  refine ⟨fun h => ?_, fun h => ?_, fun h => ?_⟩
  · unfold eg_ri at h
    split at h <;> cases h
  · unfold eg_ra at h
    split at h <;> cases h
  · unfold eg_rv at h
    split at h <;> cases h
section EGX
variable {S : Type} {X : eg_X S} {lv : S → Nat → Nat → Prop} {D : va_G} {A : Nat → Prop}
variable {p : Program} {l : Launch} {e : Env} {R : Room} {s : State} {m : MethodId} {args : Array Value} {below : List Frame} {meth : Method} {c : Code} {Q : State → Prop} {mi pc pc2 : Nat} {σ σ2 : S} {u u2 : Nat × Nat} {ls ls2 : eg_L} {st st2 : List eg_V} {ad ad2 : eg_A} {H H2 : Heap} {locs locs2 : List Loc}
theorem eg_nx_oi {idx : Nat} (hC : eg_Cx mi p s m meth c) (hd : decode (pm_b mi) pc = .ok (.invokespecial idx, 3)) (hw1 : Jvm.Cond.methodLink (eg_own mi) idx Lib.objectInit ∈ eg_tbl) (hw2 : Jvm.Cond.instanceMethod Lib.objectInit ∈ eg_tbl) (hw3 : Jvm.Cond.code Lib.objectInit ⟨#[0xb1]⟩ 1 none ∈ eg_tbl) (hR : 1 ≤ R.frames ∧ 20 ≤ R.locals) {g : Bool}
    (h : eg_oi pg_T (pc + 3) σ u ls st = some (g, .inl (pc2, σ2, u2, ls2, st2))) : eg_Nx X lv D A p l e R s m args below meth c Q mi pc σ u ls st pc2 σ2 u2 ls2 st2 := by
  obtain ⟨hx, hb, -, hml, hown, -, -⟩ := hC
  unfold eg_oi at h
  split at h
  · rename_i q r
    cases hq : (!(Nat.beq (pg_T.2.1 q.1) 0) && Nat.ble r.length 8) with
    | false => rw [hq] at h; cases h
    | true =>
      rw [hq] at h
      simp only [cond_true, Option.some.injEq, Prod.mk.injEq, Sum.inl.injEq] at h
      obtain ⟨-, rfl, rfl, rfl, rfl, rfl⟩ := h
      simp only [Bool.and_eq_true, Bool.not_eq_true'] at hq
      have hk0 : pg_kc q.1 ≠ 0 := fun h0 => by
        have h1 : Nat.beq (pg_T.2.1 q.1) 0 = true := by show Nat.beq (pg_kc q.1) 0 = true; rw [h0]; rfl
        rw [h1] at hq
        cases hq.1
      have hrl := Nat.le_of_ble_eq_true hq.2
      refine eg_Nx.same (fun ad H locs LS hS hI hl hv K => ?_)
      have hlv := eg_live_kc hv.top hk0
      show W p l e R s m args below meth c H locs u.1 u.2 Q (F0 m pc LS (eg_cv ad (.inr q) :: r.map (eg_cv ad)))
      rw [eg_cv_ref (hI.1 _ _ hlv).1]
      exact W.objInit hx hb hown (hS.2.1.use hw1 rfl) (hS.2.1.use hw2 rfl) (hS.2.1.use hw3 rfl) rfl (by rw [hml]; exact hl.1) rfl hd hR.1 (by rw [eg_cats hS.2.2.2.2.1]; show 2 * 0 + _ + _ ≤ _; omega) (K LS hl hv.drop)
  · cases h
theorem eg_nx_mm {f : Int32 → Int32 → Int32} {g : Bool} (h : eg_mm f (pc + 3) σ u ls st = some (g, .inl (pc2, σ2, u2, ls2, st2)))
    (row : ∀ (ad : eg_A) (H : Heap) (locs : List Loc) (LS : Array Slot) (x y : Int32) (r : List eg_V), eg_zk ad → lv_has LS (pm_l mi) (eg_hl ad ls) → r.length ≤ 8 → W p l e R s m args below meth c H locs u.1 u.2 Q (F0 m (pc + 3) LS (.int (f x y) :: r.map (eg_cv ad))) → eg_Sta D A s ad → W p l e R s m args below meth c H locs u.1 u.2 Q (F0 m pc LS (.int y :: .int x :: r.map (eg_cv ad)))) : eg_Nx X lv D A p l e R s m args below meth c Q mi pc σ u ls st pc2 σ2 u2 ls2 st2 := by
  unfold eg_mm at h
  split at h
  · rename_i y x r
    cases hq : Nat.ble r.length 8 with
    | false => rw [hq] at h; cases h
    | true =>
      rw [hq] at h
      simp only [cond_true, Option.some.injEq, Prod.mk.injEq, Sum.inl.injEq] at h
      obtain ⟨-, rfl, rfl, rfl, rfl, rfl⟩ := h
      exact eg_Nx.same (fun ad H locs LS hS hI hl hv K => row ad H locs LS x y r hS.2.2.2.2.1 hl (Nat.le_of_ble_eq_true hq) (K LS hl (hv.drop.drop.push trivial)) hS)
  · cases h
set_option maxHeartbeats 4000000 in
theorem eg_next {I : Jvm.ClassFile.Instr} {len a b : Nat} (hLw : eg_Lwr X lv) (hLn : eg_Lnw X lv) (hLc : eg_Lcp X lv) (hLs : eg_Lst lv) (hC : eg_Cx mi p s m meth c) (hR : R = pm_R mi) (hu : u.1 ≤ R.cells ∧ u.2 ≤ R.slots) (hd : decode (pm_b mi) pc = .ok (I, len)) (hs : eg_site mi pc I a b) (hln : ∀ k, eg_ln I = some k → len = k)
    (h : eg_do X pg_T I a b mi pc σ u ls st = some (true, .inl (pc2, σ2, u2, ls2, st2))) : eg_Nx X lv D A p l e R s m args below meth c Q mi pc σ u ls st pc2 σ2 u2 ls2 st2 := by
  obtain ⟨hx, hb, hret, hml, hown, hlk, hnm⟩ := id hC
  have hRm : R.cells = (pg_mt mi).2.1 ∧ R.slots = (pg_mt mi).2.2 := by rw [hR]; exact ⟨rfl, rfl⟩
  have hRf : R.frames = (pm_f mi).1 ∧ R.locals = (pm_f mi).2 := by rw [hR]; exact ⟨rfl, rfl⟩
  cases I
  case iconst n => cases hln _ rfl; cases h; exact eg_Nx.same (fun ad H locs LS hS hI hl hv K => lv_iconst hx hb hd rfl (K LS hl (hv.push trivial)))
  case bipush n => cases hln _ rfl; cases h; exact eg_Nx.same (fun ad H locs LS hS hI hl hv K => lv_bipush hx hb hd rfl (K LS hl (hv.push trivial)))
  case sipush n => cases hln _ rfl; cases h; exact eg_Nx.same (fun ad H locs LS hS hI hl hv K => lv_sipush hx hb hd rfl (K LS hl (hv.push trivial)))
  case aconst_null => cases hln _ rfl; cases h; exact eg_Nx.same (fun ad H locs LS hS hI hl hv K => lv_null hx hb hd (K LS hl (hv.push (Or.inl rfl))))
  case ldc i =>
    cases hln _ rfl
    cases h
    rcases hs with ⟨rfl, hw⟩ | ⟨rfl, rfl, ho, rfl⟩
    · exact eg_Nx.same (fun ad H locs LS hS hI hl hv K => lv_ldc hx hb hown (hS.2.1.use hw rfl) hd (K LS hl (hv.push trivial)))
    · exact eg_Nx.same (fun ad H locs LS hS hI hl hv K => va_ldcS hx hb (own := "UnitDesk$Reading") (by rw [← ho]; exact hown) hS.2.2.2.2.2.1 hd (K LS hl (hv.push (Or.inr (Or.inr (hLs σ).2)))))
  case iload_n k =>
    cases hln _ rfl
    obtain ⟨v, h1, rfl, rfl, rfl, rfl, rfl, -⟩ := eg_psh_spec h
    obtain ⟨x, rfl, h2⟩ := eg_geti_spec h1
    exact eg_Nx.same (fun ad H locs LS hS hI hl hv K => lv_iload_n hx hb hd rfl (eg_at_l hl h2) (K LS hl (hv.push trivial)))
  case iload k =>
    cases hln _ rfl
    obtain ⟨v, h1, rfl, rfl, rfl, rfl, rfl, -⟩ := eg_psh_spec h
    obtain ⟨x, rfl, h2⟩ := eg_geti_spec h1
    exact eg_Nx.same (fun ad H locs LS hS hI hl hv K => lv_iload hx hb hd (eg_at_l hl h2) (K LS hl (hv.push trivial)))
  case aload_n k =>
    cases hln _ rfl
    obtain ⟨v, h1, rfl, rfl, rfl, rfl, rfl, -⟩ := eg_psh_spec h
    obtain ⟨x, rfl, h2⟩ := eg_getr_spec h1
    exact eg_Nx.same (fun ad H locs LS hS hI hl hv K => eg_load_n hx hb hS.2.2.2.2.1 hd (eg_at_l hl h2) (K LS hl (hv.push (hv.get h2))))
  case aload k =>
    cases hln _ rfl
    obtain ⟨v, h1, rfl, rfl, rfl, rfl, rfl, -⟩ := eg_psh_spec h
    obtain ⟨x, rfl, h2⟩ := eg_getr_spec h1
    exact eg_Nx.same (fun ad H locs LS hS hI hl hv K => eg_load hx hb hS.2.2.2.2.1 hd (eg_at_l hl h2) (K LS hl (hv.push (hv.get h2))))
  case istore_n k => cases hln _ rfl; exact eg_nx_sti h (fun ad H locs LS x rest hl hz K => lv_istore_n hx hb hd rfl hl hs rfl (fun LS2 h2 => K LS2 (eg_put_l hz h2)))
  case istore k => cases hln _ rfl; exact eg_nx_sti h (fun ad H locs LS x rest hl hz K => lv_istore hx hb hd hl hs rfl (fun LS2 h2 => K LS2 (eg_put_l hz h2)))
  case astore_n k => cases hln _ rfl; exact eg_nx_str h (fun ad H locs LS q rest hl hz K => eg_store_n hx hb hz hd hl hs K)
  case astore k => cases hln _ rfl; exact eg_nx_str h (fun ad H locs LS q rest hl hz K => eg_store hx hb hz hd hl hs K)
  case iinc i n =>
    cases hln _ rfl
    replace h : eg_inc i n (pc + 3) σ u ls st = some (true, .inl (pc2, σ2, u2, ls2, st2)) := h
    unfold eg_inc at h
    split at h
    · rename_i x hg
      cases h
      refine eg_Nx.same (fun ad H locs LS hS hI hl hv K => ?_)
      obtain ⟨k, hk⟩ := List.getElem?_of_mem (List.mem_map.mpr ⟨(i, Sum.inl x), eg_get_mem hg, rfl⟩ : (i, Value.int x) ∈ eg_hl ad ls)
      exact lv_iinc hx hb hd hl hk rfl hs rfl (fun LS2 h2 => K LS2 (eg_put_l hS.2.2.2.2.1 h2) (hv.put trivial))
    · cases h
  case iadd => cases hln _ rfl; exact eg_nx_bin h (fun H locs LS x y rest K => lv_iadd hx hb hd K)
  case isub => cases hln _ rfl; exact eg_nx_bin h (fun H locs LS x y rest K => lv_isub hx hb hd K)
  case imul => cases hln _ rfl; exact eg_nx_bin h (fun H locs LS x y rest K => lv_imul hx hb hd K)
  case iand => cases hln _ rfl; exact eg_nx_bin h (fun H locs LS x y rest K => lv_iand hx hb hd K)
  case ior => cases hln _ rfl; exact eg_nx_bin h (fun H locs LS x y rest K => lv_ior hx hb hd K)
  case ixor => cases hln _ rfl; exact eg_nx_bin h (fun H locs LS x y rest K => lv_ixor hx hb hd K)
  case ishl => cases hln _ rfl; exact eg_nx_bin h (fun H locs LS x y rest K => lv_ishl hx hb hd K)
  case ishr => cases hln _ rfl; exact eg_nx_bin h (fun H locs LS x y rest K => lv_ishr hx hb hd K)
  case iushr => cases hln _ rfl; exact eg_nx_bin h (fun H locs LS x y rest K => lv_iushr hx hb hd rfl K)
  case ineg => cases hln _ rfl; exact eg_nx_un h (fun H locs LS x rest K => lv_ineg hx hb hd K)
  case i2b => cases hln _ rfl; exact eg_nx_un h (fun H locs LS x rest K => lv_i2b hx hb hd rfl K)
  case i2s => cases hln _ rfl; exact eg_nx_un h (fun H locs LS x rest K => lv_i2s hx hb hd rfl K)
  case i2c => cases hln _ rfl; exact eg_nx_un h (fun H locs LS x rest K => lv_i2c hx hb hd rfl K)
  case idiv => cases hln _ rfl; exact eg_nx_dv h (fun H locs LS x y rest h0 K => lv_idiv hx hb hd h0 K)
  case irem => cases hln _ rfl; exact eg_nx_dv h (fun H locs LS x y rest h0 K => lv_irem hx hb hd h0 K)
  case dup =>
    cases hln _ rfl
    obtain ⟨h1, rfl, rfl, rfl, rfl, -⟩ := eg_stk_spec h
    unfold eg_dup at h1
    split at h1
    · cases h1
      exact eg_Nx.same (fun ad H locs LS hS hI hl hv K => lv_dup hx hb hd (eg_cat hS.2.2.2.2.1 _) (K LS hl (hv.push hv.top)))
    · cases h1
  case dup_x1 =>
    cases hln _ rfl
    obtain ⟨h1, rfl, rfl, rfl, rfl, -⟩ := eg_stk_spec h
    unfold eg_dx1 at h1
    split at h1
    · cases h1
      exact eg_Nx.same (fun ad H locs LS hS hI hl hv K => lv_dup_x1 hx hb hd (eg_cat hS.2.2.2.2.1 _) (eg_cat hS.2.2.2.2.1 _) (K LS hl (((hv.drop.drop.push hv.top).push hv.drop.top).push hv.top)))
    · cases h1
  case dup_x2 =>
    cases hln _ rfl
    obtain ⟨h1, rfl, rfl, rfl, rfl, -⟩ := eg_stk_spec h
    unfold eg_dx2 at h1
    split at h1
    · cases h1
      exact eg_Nx.same (fun ad H locs LS hS hI hl hv K => lv_dup_x2 hx hb hd (eg_cat hS.2.2.2.2.1 _) (eg_cat hS.2.2.2.2.1 _) (eg_cat hS.2.2.2.2.1 _) (K LS hl ((((hv.drop.drop.drop.push hv.top).push hv.drop.drop.top).push hv.drop.top).push hv.top)))
    · cases h1
  case dup2 =>
    cases hln _ rfl
    obtain ⟨h1, rfl, rfl, rfl, rfl, -⟩ := eg_stk_spec h
    unfold eg_d2 at h1
    split at h1
    · cases h1
      exact eg_Nx.same (fun ad H locs LS hS hI hl hv K => lv_dup2_11 hx hb hd (eg_cat hS.2.2.2.2.1 _) (eg_cat hS.2.2.2.2.1 _) (K LS hl ((hv.push hv.drop.top).push hv.top)))
    · cases h1
  case pop =>
    cases hln _ rfl
    obtain ⟨h1, rfl, rfl, rfl, rfl, -⟩ := eg_stk_spec h
    unfold eg_pop at h1
    split at h1
    · cases h1
      exact eg_Nx.same (fun ad H locs LS hS hI hl hv K => lv_pop hx hb hd (eg_cat hS.2.2.2.2.1 _) (K LS hl hv.drop))
    · cases h1
  case ifCond cd off =>
    cases hln _ rfl
    cases cd
    · exact eg_nx_b1 h (fun H locs LS x rest kt kf => lv_if_eq hx hb hd hs (fun z => kt (by simpa using z)) (fun z => kf (by simpa using z)))
    · exact eg_nx_b1 h (fun H locs LS x rest kt kf => lv_if_ne hx hb hd hs (fun z => kt (by simpa using z)) (fun z => kf (by simpa using z)))
    · exact eg_nx_b1 h (fun H locs LS x rest kt kf => lv_if_lt hx hb hd hs (fun z => kt (by simpa using z)) (fun z => kf (by simpa using z)))
    · exact eg_nx_b1 h (fun H locs LS x rest kt kf => lv_if_ge hx hb hd hs (fun z => kt (by simpa using z)) (fun z => kf (by simpa using z)))
    · exact eg_nx_b1 h (fun H locs LS x rest kt kf => lv_if_gt hx hb hd hs (fun z => kt (by simpa using z)) (fun z => kf (by simpa using z)))
    · exact eg_nx_b1 h (fun H locs LS x rest kt kf => lv_if_le hx hb hd hs (fun z => kt (by simpa using z)) (fun z => kf (by simpa using z)))
  case if_icmp cd off =>
    cases hln _ rfl
    cases cd
    · exact eg_nx_b2 h (fun H locs LS x y rest kt kf => lv_icmp_eq hx hb hd hs (fun z => kt (by simpa using z)) (fun z => kf (by simpa using z)))
    · exact eg_nx_b2 h (fun H locs LS x y rest kt kf => lv_icmp_ne hx hb hd hs (fun z => kt (by simpa using z)) (fun z => kf (by simpa using z)))
    · exact eg_nx_b2 h (fun H locs LS x y rest kt kf => lv_icmp_lt hx hb hd hs (fun z => kt (by simpa using z)) (fun z => kf (by simpa using z)))
    · exact eg_nx_b2 h (fun H locs LS x y rest kt kf => lv_icmp_ge hx hb hd hs (fun z => kt (by simpa using z)) (fun z => kf (by simpa using z)))
    · exact eg_nx_b2 h (fun H locs LS x y rest kt kf => lv_icmp_gt hx hb hd hs (fun z => kt (by simpa using z)) (fun z => kf (by simpa using z)))
    · exact eg_nx_b2 h (fun H locs LS x y rest kt kf => lv_icmp_le hx hb hd hs (fun z => kt (by simpa using z)) (fun z => kf (by simpa using z)))
  case ifnull off =>
    cases hln _ rfl
    replace h : eg_bn (fun q => Nat.beq q.1 0) a (pc + 3) σ u ls st = some (true, .inl (pc2, σ2, u2, ls2, st2)) := h
    unfold eg_bn at h
    split at h
    · rename_i q r
      cases h1 : Nat.beq q.1 1 with
      | true => rw [h1] at h; cases h
      | false =>
        rw [h1] at h
        cases h
        refine eg_Nx.same (fun ad H locs LS hS hI hl hv K => ?_)
        have K2 := K LS hl hv.drop
        dsimp only at K2
        cases h0 : Nat.beq q.1 0 with
        | true =>
          rw [h0] at K2
          show W p l e R s m args below meth c H locs _ _ Q (F0 m pc LS (eg_cv ad (.inr q) :: List.map (eg_cv ad) _))
          rw [show eg_cv ad (.inr q) = .null by show (bif Nat.beq q.1 0 then _ else _) = _; rw [h0]; rfl]
          exact lv_ifnullN hx hb hd hs K2
        | false =>
          rw [h0] at K2
          show W p l e R s m args below meth c H locs _ _ Q (F0 m pc LS (eg_cv ad (.inr q) :: List.map (eg_cv ad) _))
          rw [show eg_cv ad (.inr q) = .ref (ad.1 q.1 q.2) by show (bif Nat.beq q.1 0 then _ else bif Nat.beq q.1 1 then _ else _) = _; rw [h0, h1]; rfl]
          exact lv_ifnull hx hb hd K2
    · cases h
  case ifnonnull off =>
    cases hln _ rfl
    replace h : eg_bn (fun q => !(Nat.beq q.1 0)) a (pc + 3) σ u ls st = some (true, .inl (pc2, σ2, u2, ls2, st2)) := h
    unfold eg_bn at h
    split at h
    · rename_i q r
      cases h1 : Nat.beq q.1 1 with
      | true => rw [h1] at h; cases h
      | false =>
        rw [h1] at h
        cases h
        refine eg_Nx.same (fun ad H locs LS hS hI hl hv K => ?_)
        have K2 := K LS hl hv.drop
        dsimp only at K2
        cases h0 : Nat.beq q.1 0 with
        | true =>
          rw [h0] at K2
          show W p l e R s m args below meth c H locs _ _ Q (F0 m pc LS (eg_cv ad (.inr q) :: List.map (eg_cv ad) _))
          rw [show eg_cv ad (.inr q) = .null by show (bif Nat.beq q.1 0 then _ else _) = _; rw [h0]; rfl]
          exact lv_ifnonnullN hx hb hd K2
        | false =>
          rw [h0] at K2
          show W p l e R s m args below meth c H locs _ _ Q (F0 m pc LS (eg_cv ad (.inr q) :: List.map (eg_cv ad) _))
          rw [show eg_cv ad (.inr q) = .ref (ad.1 q.1 q.2) by show (bif Nat.beq q.1 0 then _ else bif Nat.beq q.1 1 then _ else _) = _; rw [h0, h1]; rfl]
          exact lv_ifnonnull hx hb hd hs K2
    · cases h
  case if_acmp cd off =>
    cases hln _ rfl
    have inj : ∀ (ad : eg_A) (H : Heap) (locs : List Loc) (x y : Nat × Nat), eg_Inv X lv D A s ad σ H locs → eg_lvV lv σ (.inr x) → eg_lvV lv σ (.inr y) → x.1 = 50 → y.1 = 50 → (some (ad.1 x.1 x.2) = some (ad.1 y.1 y.2) ↔ eg_same x y = true) := by
      intro ad H locs x y hI hx' hy' ex ey
      have lx := eg_live_kc hx' (by rw [ex]; decide)
      have ly := eg_live_kc hy' (by rw [ey]; decide)
      constructor
      · intro e9
        have := hI.2.2.1 _ _ _ _ lx ly (Or.inr ⟨ex, ey⟩) (Option.some.inj e9)
        unfold eg_same
        rw [this.2]
        exact Nat.beq_refl _
      · intro e9
        have h2 : x.2 = y.2 := Nat.eq_of_beq_eq_true e9
        rw [ex, ey, h2]
    cases cd
    · obtain ⟨x, y, r, rfl, ey, ex, rfl, rfl, rfl, rfl, rfl⟩ := eg_ba_spec (f := eg_same) h
      refine eg_Nx.same (fun ad H locs LS hS hI hl hv K => ?_)
      have K2 := K LS hl hv.drop.drop
      have hij := inj ad H locs x y hI hv.drop.top hv.top ex ey
      show W p l e R s m args below meth c H locs _ _ Q (F0 m pc LS (eg_cv ad (.inr y) :: eg_cv ad (.inr x) :: List.map (eg_cv ad) _))
      rw [eg_cv_ref (by omega), eg_cv_ref (by omega)]
      refine lv_acmp_eq (rx := some (ad.1 x.1 x.2)) (ry := some (ad.1 y.1 y.2)) hx hb hd hs (fun z => ?_) (fun z => ?_)
      · rw [hij.mp z] at K2; exact K2
      · rw [Bool.eq_false_iff.mpr (fun z2 => z (hij.mpr z2))] at K2; exact K2
    · obtain ⟨x, y, r, rfl, ey, ex, rfl, rfl, rfl, rfl, rfl⟩ := eg_ba_spec (f := fun x y => !(eg_same x y)) h
      refine eg_Nx.same (fun ad H locs LS hS hI hl hv K => ?_)
      have K2 := K LS hl hv.drop.drop
      have hij := inj ad H locs x y hI hv.drop.top hv.top ex ey
      show W p l e R s m args below meth c H locs _ _ Q (F0 m pc LS (eg_cv ad (.inr y) :: eg_cv ad (.inr x) :: List.map (eg_cv ad) _))
      rw [eg_cv_ref (by omega), eg_cv_ref (by omega)]
      refine lv_acmp_ne (rx := some (ad.1 x.1 x.2)) (ry := some (ad.1 y.1 y.2)) hx hb hd hs (fun z => ?_) (fun z => ?_)
      · rw [Bool.eq_false_iff.mpr (fun z2 => z (hij.mpr z2))] at K2; exact K2
      · rw [hij.mp z] at K2; exact K2
  case goto off => cases hln _ rfl; cases h; exact eg_Nx.same (fun ad H locs LS hS hI hl hv K => lv_goto hx hb hd hs (K LS hl hv))
  case tableswitch d lo hi offs =>
    replace h : eg_sw (eg_tsw pc d lo hi offs) σ u ls st = some (true, .inl (pc2, σ2, u2, ls2, st2)) := h
    unfold eg_sw at h
    split at h
    · rename_i x r
      cases h
      refine eg_Nx.same (fun ad H locs LS hS hI hl hv K => ?_)
      have K2 := K LS hl hv.drop
      obtain ⟨h1, h2, h3⟩ := hs
      unfold eg_tsw at K2
      by_cases hc : x.toInt < lo ∨ hi < x.toInt
      · rw [if_pos hc] at K2
        exact lv_tableOut hx hb hd hc (by omega) K2
      · rw [if_neg hc] at K2
        have hlt : (x.toInt - lo).toNat < offs.size := by omega
        obtain ⟨off, ho⟩ : ∃ off, offs[(x.toInt - lo).toNat]? = some off := ⟨_, Array.getElem?_eq_getElem hlt⟩
        rw [ho] at K2
        have hm : off ∈ offs.toList := List.mem_of_getElem? (by rw [Array.getElem?_toList]; exact ho)
        have h0 : 0 ≤ (pc : Int) + off := by simpa using List.all_eq_true.mp h3 off hm
        exact lv_tableIn hx hb hd (fun z => hc (Or.inl z)) (fun z => hc (Or.inr z)) ho (by show (pc : Int) + off = (((pc : Int) + off).toNat : Int); omega) K2
    · cases h
  case lookupswitch d ps =>
    replace h : eg_sw (eg_lsw pc d ps) σ u ls st = some (true, .inl (pc2, σ2, u2, ls2, st2)) := h
    unfold eg_sw at h
    split at h
    · rename_i x r
      cases h
      refine eg_Nx.same (fun ad H locs LS hS hI hl hv K => ?_)
      have K2 := K LS hl hv.drop
      obtain ⟨h1, h2, h3⟩ := hs
      have h0 : ∀ L : List (Int × Int), (∀ q ∈ L, 0 ≤ (pc : Int) + q.2) → 0 ≤ (pc : Int) + Op.lookupswitch.offset L d x.toInt := by
        intro L
        induction L with
        | nil => intro _; exact h2
        | cons q L ih =>
          intro hL
          rw [Op.lookupswitch.offset_cons]
          split
          · exact hL q List.mem_cons_self
          · exact ih (fun q hq => hL q (List.mem_cons_of_mem _ hq))
      have h9 := h0 ps.toList (fun q hq => by simpa using List.all_eq_true.mp h3 q hq)
      exact lv_lookup hx hb hd h1 rfl (by show _ = (((pc : Int) + Op.lookupswitch.offset ps.toList d x.toInt).toNat : Int); omega) K2
    · cases h
  case getfield idx => cases hln _ rfl; exact eg_nx_gf hC hd hs h
  case putfield idx => cases hln _ rfl; exact eg_nx_pf hLw hC hd hs.1 hs.2.1 hs.2.2.1 hs.2.2.2 h
  case getstatic idx => cases hln _ rfl; cases h; exact eg_nx_gs hC hd hs ((hLs σ).1 a hs.1)
  case iaload => cases hln _ rfl; exact eg_nx_al (by decide) (by decide) (fun H locs LS a9 cell k x v rest hk c1 c2 c3 c4 c5 K => W.iald hx hb c1 (by rw [(pm_at_of k).1 hk] at c2; exact c2) c3 c4 c5 rfl rfl hd K) h
  case caload => cases hln _ rfl; exact eg_nx_al (by decide) (by decide) (fun H locs LS a9 cell k x v rest hk c1 c2 c3 c4 c5 K => W.cald hx hb c1 (by rw [(pm_at_of k).2.2.1 hk] at c2; exact c2) c3 c4 c5 rfl rfl hd K) h
  case baload =>
    cases hln _ rfl
    rcases hs with rfl | rfl
    · exact eg_nx_al (by decide) (by decide) (fun H locs LS a9 cell k x v rest hk c1 c2 c3 c4 c5 K => W.bald hx hb c1 (by rw [(pm_at_of k).2.1 hk] at c2; exact c2) c3 c4 c5 rfl rfl hd K) h
    · exact eg_nx_al (by decide) (by decide) (fun H locs LS a9 cell k x v rest hk c1 c2 c3 c4 c5 K => W.zald hx hb c1 (by rw [(pm_at_of k).2.2.2.1 hk] at c2; exact c2) c3 c4 c5 rfl rfl hd K) h
  case aaload => cases hln _ rfl; exact eg_nx_ar hC hd h
  case arraylength => cases hln _ rfl; exact eg_nx_len hC hd h
  case iastore => cases hln _ rfl; exact eg_nx_as hLw (by decide) (by decide) (fun H locs LS a9 cell k j x rest hk c1 c2 c3 c4 K => W.iast hx hb c1 (by rw [(pm_at_of k).1 hk] at c2; exact c2) c3 c4 rfl rfl hd K) h
  case bastore =>
    cases hln _ rfl
    rcases hs with rfl | rfl
    · exact eg_nx_as hLw (by decide) (by decide) (fun H locs LS a9 cell k j x rest hk c1 c2 c3 c4 K => W.bast hx hb c1 (by rw [(pm_at_of k).2.1 hk] at c2; exact c2) c3 c4 rfl rfl hd K) h
    · exact eg_nx_as hLw (by decide) (by decide) (fun H locs LS a9 cell k j x rest hk c1 c2 c3 c4 K => W.zast hx hb c1 (by rw [(pm_at_of k).2.2.2.1 hk] at c2; exact c2) c3 c4 rfl rfl hd K) h
  case aastore => cases hln _ rfl; exact eg_nx_ast hLw hC hd hs.1 hs.2 h
  case new idx => cases hln _ rfl; exact eg_nx_new hLs hLn hC hRm hd hs.1 hs.2.1 hs.2.2.1 hs.2.2.2.1 hs.2.2.2.2 h
  case newarray at_ => cases hln _ rfl; exact eg_nx_newa hLs hLn hC hRm hd hs.1 hs.2.1 hs.2.2 h
  case anewarray idx => cases hln _ rfl; exact eg_nx_anew (C := "") hLs hLn hC hRm hd hs.1 hs.2 h
  case invokestatic idx =>
    cases hln _ rfl
    rcases hs with ⟨rfl, w1, w2, w3, w4, r1, r2⟩ | ⟨rfl, w1, w2, w3, w4, r1, r2⟩ | ⟨rfl, w1, w2, w3, w4, r1, r2⟩ | ⟨hne, -⟩
    · exact eg_nx_cpy hLc hC hd w1 w2 w3 w4 ⟨by rw [hRf.1]; exact r1, by rw [hRf.2]; exact r2⟩ h
    · exact eg_nx_mm h (fun ad H locs LS x y r hz hl hrl K hS => va_mmax hx hb (by rw [hml]; exact hl.1.symm) hown (hS.2.1.use w1 rfl) (hS.2.1.use w2 rfl) (hS.2.1.use w3 rfl) (hS.2.1.use w4 rfl) (by rw [hRf.1]; exact r1) (by rw [eg_cats hz, hRf.2]; omega) hu.1 hu.2 hd K)
    · exact eg_nx_mm h (fun ad H locs LS x y r hz hl hrl K hS => va_mmin hx hb (by rw [hml]; exact hl.1.symm) hown (hS.2.1.use w1 rfl) (hS.2.1.use w2 rfl) (hS.2.1.use w3 rfl) (hS.2.1.use w4 rfl) (by rw [hRf.1]; exact r1) (by rw [eg_cats hz, hRf.2]; omega) hu.1 hu.2 hd K)
    · replace h : (bif Nat.beq b 99 then eg_cpy X pg_T (pc + 3) σ u ls st else bif Nat.beq b 98 then eg_mm (fun x y => if x < y then y else x) (pc + 3) σ u ls st else bif Nat.beq b 97 then eg_mm (fun x y => if y < x then y else x) (pc + 3) σ u ls st else eg_call pg_T a 0 mi (pc + 3) u st) = some (true, .inl (pc2, σ2, u2, ls2, st2)) := h
      rw [eg_beq_ff hne.1, eg_beq_ff hne.2.1, eg_beq_ff hne.2.2] at h
      exact (eg_call_inl h).elim
  case invokespecial idx =>
    cases hln _ rfl
    rcases hs with ⟨rfl, w1, w2, w3, r1, r2⟩ | ⟨hne, -⟩
    · exact eg_nx_oi hC hd w1 w2 w3 ⟨by rw [hRf.1]; exact r1, by rw [hRf.2]; exact r2⟩ h
    · replace h : (bif Nat.beq b 99 then eg_oi pg_T (pc + 3) σ u ls st else eg_call pg_T a b mi (pc + 3) u st) = some (true, .inl (pc2, σ2, u2, ls2, st2)) := h
      rw [show Nat.beq b 99 = false by cases hb9 : Nat.beq b 99 with | false => rfl | true => exact absurd (Nat.eq_of_beq_eq_true hb9) hne] at h
      exact (eg_call_inl h).elim
  case invokevirtual idx =>
    exact (eg_call_inl h).elim
  case ireturn => exact absurd h eg_ret_inl.1
  case areturn => exact absurd h (eg_ret_inl (a := 0)).2.1
  case return_ => exact absurd h (eg_ret_inl (a := 0)).2.2
  all_goals cases h
end EGX
