/-! AT THE ENTRY: the engine's world stands -/
theorem eg_selects_private {C : String} {y y2 : MethodName} {s : State} {args : Array Value} {n : Nat} (hy : y.cls ≠ "java/lang/invoke/MethodHandle" ∧ y.cls ≠ "java/lang/invoke/VarHandle") (hins : (Jvm.Cond.instantiable C n).before args s = true) (hpriv : (Jvm.Cond.privateMethod y).before args s = true) (hinst : (Jvm.Cond.instanceMethod y).before args s = true)
    (h2 : (Jvm.Cond.selects C y2 y2).before args s = true) (hcl : y2.cls = y.cls) : (Jvm.Cond.selects C y y).before args s = true := by
  obtain ⟨c, k, hc, hk, -, -, -, -⟩ := Cond.instantiable_spec hins
  obtain ⟨mk, methM, hnamed, hmethM, -, -⟩ := Cond.instanceMethod_spec hinst
  have hfound : s.methodFound? y.cls y.name y.desc = some mk := State.methodFound?_of_named hnamed hy
  have hsel : selectMethod {} s.vm c mk = .method mk := selectMethod_private hmethM (Cond.privateMethod_at hpriv mk methM hnamed hmethM)
  obtain ⟨_, _, m2, -, -, q3, -, kP, hkP, hkPi⟩ := Cond.selects_spec h2
  have e1 := findClass_of_methodNamed hnamed
  have e2 := findClass_of_methodNamed q3
  rw [hcl] at e2
  have e3 : m2.cls = mk.cls := Option.some.inj (e2.symm.trans e1)
  rw [e3] at hkP
  simp only [Cond.before, Cond.holds, Cond.value, hc, hfound, hnamed, hsel, hkP]
  simp [hkPi]
theorem en_Wd {s : State} {b : Nat} (hts : ∀ w ∈ lw_tbl, w.before #[Value.ref b] s = true) : eg_Wd s := by
  have base : ∀ w : Jvm.Cond, w.before #[Value.ref b] s = true → eg_gw w = true → va_Nw w s := by
    intro w hw hg
    cases w
    case fieldLinkNest a i b n d h2 => exact va_Nw.of rfl hw
    case methodLinkNest a i x h2 => exact va_Nw.of rfl hw
    all_goals exact word_at (State.WarmedH.refl s) (good_of_word hg) hw
  intro w hw hg
  rcases List.mem_append.mp hw with h | h
  · obtain ⟨y, hy, rfl⟩ := List.mem_map.mp h
    obtain ⟨⟨p1, p2, p3, p4⟩, p5⟩ := en_b3 y hy
    refine base _ (eg_selects_private (y2 := ⟨"java/lang/AbstractStringBuilder", "isLatin1", "()Z"⟩) ⟨p3, p4⟩ (hts _ p5) (hts _ p1) (hts _ p2) (hts _ (by decide +kernel)) ?_) hg
    have : ∀ y ∈ eg_xs, "java/lang/AbstractStringBuilder" = y.cls := by decide +kernel
    exact this y hy
  · exact base w (hts w h) hg
theorem en_K0 {s : State} {b : Nat} (hts : ∀ w ∈ lw_tbl, w.before #[Value.ref b] s = true) : ∃ D : va_G, va_K D pm_cl [] s := by
  have h0 : ∀ k : Nat, ∃ q : ClassId × (Nat → Nat), k < 10 → u_Kn s (pm_c (k + 1)).1 (pm_c (k + 1)).2.1 (pm_c (k + 1)).2.2 q.1 q.2 := by
    intro k
    by_cases hk : k < 10
    · obtain ⟨cC, iS, h⟩ := u_known hts (en_b5 (k + 1) (List.mem_range.mpr (by omega)) (by omega)) (hts _ (en_b4 (k + 1) (List.mem_range.mpr (by omega)) (by omega)))
      exact ⟨(cC, iS), fun _ => h⟩
    · exact ⟨(0, fun _ => 0), fun h => absurd h hk⟩
  obtain ⟨f, hf⟩ := Classical.axiomOfChoice h0
  refine ⟨(fun k => (f k).1, fun k => (f k).2), fun k q hq => ?_, fun k q h => by simp at h⟩
  have hk : k < 10 := (List.getElem?_eq_some_iff.mp hq).1
  have e := (pm_cl_at k hk).symm.trans hq
  cases e
  exact hf k hk
theorem en_obj {s : State} {args : Array Value} {tm : Term} {C : String} (h : (Jvm.Cond.exactly tm C).before args s = true) : ∃ a : Nat, tm.eval args s none [] s = some (.ref a) ∧ a < s.heap.size ∧ ∃ cell : Cell, s.heap[a]? = some cell ∧ cell.vm.isStatics = false ∧ s.vm.findClass C = some cell.cls := by
  obtain ⟨a, c, cell, k, q1, q2, q3, q4, q5, q6, -⟩ := Cond.exactly_spec h
  exact ⟨a, q1, (Array.getElem?_eq_some_iff.mp q3).1, cell, q3, q5, by rw [q6]; exact q2⟩
theorem en_fld {s : State} {args : Array Value} {tm : Term} {a bb j : Nat} {v : Value} (ht : tm.eval args s none [] s = some (.ref a)) (hv : (Term.field tm ((pm_c bb).2.1 j).1 ((pm_c bb).2.1 j).2.1 ((pm_c bb).2.1 j).2.2.1).eval args s none [] s = some v) : eg_fld s bb j a v s.heap := by
  obtain ⟨cf, k, fi, f, cell, h1, h2, h3, h4, h5, -⟩ := vk_OFof (A := fun q => s.heap.size ≤ q) ht hv (fun _ h => Nat.not_le.mpr h)
  exact ⟨cf, k, fi, f, cell, h1, h2, h3, h4, h5⟩
theorem en_arr {s : State} {args : Array Value} {tm : Term} {ty : FieldType} {N : Nat} {f : Nat → Value} (hN : N < 2 ^ 31) (h1 : (Jvm.Cond.arrayOf tm ty).before args s = true) (h2 : (Jvm.Cond.eq (.length tm) (.int (Int32.ofNat N))).before args s = true) (h3 : ∀ j, j < N → (Term.elem tm (.int (Int32.ofNat j))).eval args s none [] s = some (f j)) : ∃ t : Nat, tm.eval args s none [] s = some (.ref t) ∧ t < s.heap.size ∧ eg_arr s ty t N f s.heap := by
  obtain ⟨t, q1, cell, c1, c2, c3, c4, c5, c6, -⟩ := va_Tof (A := fun q => s.heap.size ≤ q) hN h1 (va_eqt h2) h3 (fun _ h => Nat.not_le.mpr h)
  exact ⟨t, q1, (Array.getElem?_eq_some_iff.mp c1).1, cell, c1, c2, c3, c4, c5, c6⟩
theorem en_live {k i : Nat} (h : s1_lv s1_0 k i) : (k = 50 ∧ i < 16) ∨ (k = 51 ∧ i = 0) ∨ (k = 52 ∧ i = 0) ∨ (k = 53 ∧ i < 25) ∨ (k = 54 ∧ i < 25) ∨ (k = 55 ∧ i = 0) ∨ (k = 56 ∧ i = 0) := by
  rcases h.2 with ⟨-, z⟩ | ⟨z1, z2, z3⟩
  · exact absurd z (Nat.not_lt_zero _)
  · have hk : k < 58 := by
      rcases Nat.lt_or_ge k 58 with z | z
      · exact z
      · rw [show st_pop k = 0 from eg_getD_out _ _ (show 58 ≤ k from z)] at z3
        exact absurd z3 (Nat.not_lt_zero _)
    have : k = 50 ∨ k = 51 ∨ k = 52 ∨ k = 53 ∨ k = 54 ∨ k = 55 ∨ k = 56 := by omega
    rcases this with rfl | rfl | rfl | rfl | rfl | rfl | rfl
    · exact Or.inl ⟨rfl, z3⟩
    · exact Or.inr (Or.inl ⟨rfl, Nat.lt_one_iff.mp z3⟩)
    · exact Or.inr (Or.inr (Or.inl ⟨rfl, Nat.lt_one_iff.mp z3⟩))
    · exact Or.inr (Or.inr (Or.inr (Or.inl ⟨rfl, z3⟩)))
    · exact Or.inr (Or.inr (Or.inr (Or.inr (Or.inl ⟨rfl, z3⟩))))
    · exact Or.inr (Or.inr (Or.inr (Or.inr (Or.inr (Or.inl ⟨rfl, Nat.lt_one_iff.mp z3⟩)))))
    · exact Or.inr (Or.inr (Or.inr (Or.inr (Or.inr (Or.inr ⟨rfl, Nat.lt_one_iff.mp z3⟩)))))
def en_ad (aE : Nat → Nat) (aK aW : Nat) (aS aV : Nat → Nat) (a1 a2 : Nat) : Nat → Nat → Nat := fun k i => match k with
  | 50 => aE i
  | 51 => aK
  | 52 => aW
  | 53 => aS i
  | 54 => aV i
  | 55 => a1
  | 56 => a2
  | _ => 0
theorem en_lvs {k i : Nat} (h1 : 50 ≤ k) (h2 : k ≠ 57) (h3 : i < st_pop k) : eg_lvV s1_lv s1_0 (.inr (k, i)) := Or.inr (Or.inr ⟨Nat.le_trans (by decide) h1, Or.inr ⟨h1, h2, h3⟩⟩)
theorem en_ord : ∀ i, i < 16 → ∀ j, j < 16 → kd_ordinal i = kd_ordinal j → i = j := by decide +kernel
theorem en_wd : ∀ i, i < 16 → kd_word i < 25 ∧ kd_arguments i < 25 := by decide +kernel
theorem en_tl : ∀ i, i < 25 → (kd_txt i).length < 100 := by decide +kernel
set_option maxHeartbeats 4000000 in
theorem en_start {s : State} {b : Nat} (hts : ∀ w ∈ lw_tbl, w.before #[Value.ref b] s = true) (hgv : (Jvm.Cond.and given_1 narrow_1).before #[Value.ref b] s = true) (hbl : b < s.heap.size) :
    ∃ (D : va_G) (ad : eg_A), eg_Sta D (fun q => s.heap.size ≤ q) s ad ∧ eg_Inv s1_X s1_lv D (fun q => s.heap.size ≤ q) s ad s1_0 s.heap [] ∧ ad.2 1 = .ref b := by
  have hs := flat_of_before _ hgv
  obtain ⟨D, hK⟩ := en_K0 hts
  have hWd := en_Wd hts
  -- strings
  have hS0 : ∀ i : Nat, ∃ q : Nat × Nat, i < 25 → (en_st i).eval #[Value.ref b] s none [] s = some (.ref q.1) ∧ q.1 < s.heap.size ∧ q.2 < s.heap.size ∧ (∃ cell : Cell, s.heap[q.1]? = some cell ∧ cell.vm.isStatics = false ∧ s.vm.findClass "java/lang/String" = some cell.cls) ∧ eg_fld s 12 0 q.1 (.ref q.2) s.heap ∧ eg_fld s 12 1 q.1 (.int 0) s.heap ∧ eg_arr s .byte q.2 (kd_txt i).length (fun j => .int ((kd_txt i).getD j 0)) s.heap := by
    intro i
    by_cases hi : i < 25
    · obtain ⟨p1, p2, p3, p4, p5⟩ : en_q8 i := en_a8 i (List.mem_range.mpr hi)
      obtain ⟨a, x1, x2, x3⟩ := en_obj (hs _ p1)
      obtain ⟨t, y1, y2, y3⟩ := en_arr (f := fun j => .int ((kd_txt i).getD j 0)) (by have := en_tl i hi; omega) (hs _ p3) (hs _ p4) (fun j hj => va_eqt (hs _ (p5 j (List.mem_range.mpr hj))))
      exact ⟨(a, t), fun _ => ⟨x1, x2, y2, x3, en_fld (bb := 12) (j := 0) x1 y1, en_fld (bb := 12) (j := 1) x1 (va_eqt (hs _ p2)), y3⟩⟩
    · exact ⟨(0, 0), fun h => absurd h hi⟩
  obtain ⟨aS, hS⟩ := Classical.axiomOfChoice hS0
  -- the enum
  have hE0 : ∀ i : Nat, ∃ a : Nat, i < 16 → (en_tm i).eval #[Value.ref b] s none [] s = some (.ref a) ∧ a < s.heap.size ∧ (∃ cell : Cell, s.heap[a]? = some cell ∧ cell.vm.isStatics = false ∧ s.vm.findClass "UnitDesk$Kind" = some cell.cls) ∧ eg_fld s 11 0 a (.int (kd_ordinal i)) s.heap ∧ eg_fld s 11 1 a (.int (kd_op i)) s.heap ∧ eg_fld s 11 2 a (.int (kd_units i)) s.heap ∧ eg_fld s 11 3 a (.ref (aS (kd_word i)).1) s.heap ∧ eg_fld s 11 4 a (.ref (aS (kd_arguments i)).1) s.heap ∧ eg_fld s 11 5 a (.int (kd_fieldAt i)) s.heap ∧ eg_fld s 11 6 a (.int (kd_secondRegisterAt i)) s.heap ∧ eg_fld s 11 7 a (.int (kd_goes i)) s.heap := by
    intro i
    by_cases hi : i < 16
    · have hm := List.mem_range.mpr hi
      obtain ⟨a, x1, x2, x3⟩ := en_obj (hs _ (en_a1 i hm))
      obtain ⟨p1, p2, p3, p4, p5, p6⟩ := en_a2 i hm
      obtain ⟨r1, r2⟩ := en_a3 i hm
      obtain ⟨w1, w2⟩ := en_wd i hi
      exact ⟨a, fun _ => ⟨x1, x2, x3, en_fld (bb := 11) (j := 0) x1 (va_eqt (hs _ p1)), en_fld (bb := 11) (j := 1) x1 (va_eqt (hs _ p2)), en_fld (bb := 11) (j := 2) x1 (va_eqt (hs _ p3)), en_fld (bb := 11) (j := 3) x1 (va_eqv (hs _ r1) (hS _ w1).1), en_fld (bb := 11) (j := 4) x1 (va_eqv (hs _ r2) (hS _ w2).1), en_fld (bb := 11) (j := 5) x1 (va_eqt (hs _ p4)), en_fld (bb := 11) (j := 6) x1 (va_eqt (hs _ p5)), en_fld (bb := 11) (j := 7) x1 (va_eqt (hs _ p6))⟩⟩
    · exact ⟨0, fun h => absurd h hi⟩
  obtain ⟨aE, hE⟩ := Classical.axiomOfChoice hE0
  obtain ⟨aK, k1, k2, k3⟩ := en_arr (N := 16) (f := fun j => .ref (aE j)) (by decide) (hs _ en_a4.1) (hs _ en_a4.2.1) (fun j hj => va_eqv (hs _ (en_a4.2.2 j (List.mem_range.mpr hj))) (hE j hj).1)
  obtain ⟨aW, m1, m2, m3⟩ := en_arr (N := 16) (f := fun j => .int (kd_sw j)) (by decide) (hs _ en_a5.1) (hs _ en_a5.2.1) (fun j hj => va_eqt (hs _ (en_a5.2.2 j (List.mem_range.mpr hj))))
  obtain ⟨a1, n1, n2, n3⟩ := en_arr (N := 100) (f := fun j => .int (kd_ones j)) (by decide) (hs _ en_a6.1) (hs _ en_a6.2.1) (fun j hj => va_eqt (hs _ (en_a6.2.2 j (List.mem_range.mpr hj))))
  obtain ⟨a2, o1, o2, o3⟩ := en_arr (N := 100) (f := fun j => .int (kd_tens j)) (by decide) (hs _ en_a7.1) (hs _ en_a7.2.1) (fun j hj => va_eqt (hs _ (en_a7.2.2 j (List.mem_range.mpr hj))))
  -- the one static of which nothing is known
  obtain ⟨z, hz, hzv⟩ : ∃ z : Value, (z = .null ∨ ∃ t, z = .ref t) ∧ (Term.static "jdk/internal/util/Preconditions" "SIOOBE_FORMATTER" "Ljava/util/function/BiFunction;").eval #[Value.ref b] s none [] s = some z := by
    have h := hs _ en_a9.2
    cases hv : (Term.static "jdk/internal/util/Preconditions" "SIOOBE_FORMATTER" "Ljava/util/function/BiFunction;").eval #[Value.ref b] s none [] s with
    | none => simp [Cond.before, Cond.holds, Cond.value, hv] at h
    | some w =>
      simp only [Cond.before, Cond.holds, Cond.value, hv] at h
      cases w with
      | null => exact ⟨_, Or.inl rfl, rfl⟩
      | ref t => exact ⟨_, Or.inr ⟨t, rfl⟩, rfl⟩
      | _ => simp at h
  have hA : ∀ a : Nat, a < s.heap.size → ¬ (fun q => s.heap.size ≤ q) a := fun _ h => Nat.not_le.mpr h
  refine ⟨D, (en_ad aE aK aW (fun i => (aS i).1) (fun i => (aS i).2) a1 a2, fun i => if i = 1 then .ref b else z), ⟨hK, hWd, ?_, fun _ h => h, ?_, ?_, ?_⟩, ⟨fun k i h => ?_, fun k i h => ?_, fun k i kk ii h hh hab e => ?_, va_S.rf, fun k i j h hj => ?_⟩, rfl⟩
  · -- statics
    have hst : ∀ a, a < pm_ns → ∀ v, (Term.static (pm_s a).1 (pm_s a).2.1 (pm_s a).2.2).eval #[Value.ref b] s none [] s = some v → va_Z (pm_s a).1 (pm_s a).2.1 (pm_s a).2.2 v (fun q => s.heap.size ≤ q) s s.heap := fun a ha v hv => va_Zof (hts _ (en_b1 a (List.mem_range.mpr ha)).1) (hts _ (en_b1 a (List.mem_range.mpr ha)).2) hv hA
    intro a ha
    refine hst a ha _ ?_
    have hcase : a < 16 ∨ a = 16 ∨ a = 17 ∨ a = 18 ∨ a = 19 ∨ a = 20 ∨ a = 21 := by
      have : a < 22 := ha
      omega
    rcases hcase with h | rfl | rfl | rfl | rfl | rfl | rfl
    · have key : ∀ a, a < 16 → (Term.static (pm_s a).1 (pm_s a).2.1 (pm_s a).2.2 = en_tm a ∧ pg_sg a = .inr (50, a)) := by decide +kernel
      obtain ⟨e1, e2⟩ := key a h
      rw [e1, e2]
      exact (hE a h).1
    · exact k1
    · exact m1
    · exact va_eqt (hs _ en_a9.1)
    · exact n1
    · exact o1
    · exact hzv
  · intro i
    show (if i = 1 then Value.ref b else z) = .null ∨ ∃ t, (if i = 1 then Value.ref b else z) = .ref t
    by_cases h1 : i = 1
    · rw [if_pos h1]
      exact Or.inr ⟨b, rfl⟩
    · rw [if_neg h1]
      exact hz
  · exact vk_R.of (A := #[Value.ref b]) (hts _ en_b2.1) (hS 0 (by decide)).1
  · exact va_AO.of (hts _ en_b2.2)
  · refine ⟨h.1, ?_⟩
    rcases en_live h with ⟨rfl, hi⟩ | ⟨rfl, rfl⟩ | ⟨rfl, rfl⟩ | ⟨rfl, hi⟩ | ⟨rfl, hi⟩ | ⟨rfl, rfl⟩ | ⟨rfl, rfl⟩
    · obtain ⟨x1, x2, x3, f0, f1, f2, f3, f4, f5, f6, f7⟩ := hE i hi
      refine ⟨x3, fun j hj => ?_⟩
      have hj8 : j < 8 := hj
      match j, hj8 with
      | 0, _ => exact f0
      | 1, _ => exact f1
      | 2, _ => exact f2
      | 3, _ => exact f3
      | 4, _ => exact f4
      | 5, _ => exact f5
      | 6, _ => exact f6
      | 7, _ => exact f7
      | n + 8, hn => exact absurd hn (by omega)
    · exact ⟨k3, fun h8 => by cases h8⟩
    · exact ⟨m3, fun h8 => by cases h8⟩
    · obtain ⟨x1, x2, x3, x4, f0, f1, x5⟩ := hS i hi
      refine ⟨x4, fun j hj => ?_⟩
      have hj8 : j < 2 := hj
      match j, hj8 with
      | 0, _ => exact f0
      | 1, _ => exact f1
      | n + 2, hn => exact absurd hn (by omega)
    · obtain ⟨x1, x2, x3, x4, f0, f1, x5⟩ := hS i hi
      exact ⟨x5, fun h8 => by cases h8⟩
    · exact ⟨n3, fun h8 => by cases h8⟩
    · exact ⟨o3, fun h8 => by cases h8⟩
  · have hlt : en_ad aE aK aW (fun i => (aS i).1) (fun i => (aS i).2) a1 a2 k i < s.heap.size ∧ 50 ≤ k := by
      rcases en_live h with ⟨rfl, hi⟩ | ⟨rfl, rfl⟩ | ⟨rfl, rfl⟩ | ⟨rfl, hi⟩ | ⟨rfl, hi⟩ | ⟨rfl, rfl⟩ | ⟨rfl, rfl⟩
      · exact ⟨(hE i hi).2.1, by decide⟩
      · exact ⟨k2, by decide⟩
      · exact ⟨m2, by decide⟩
      · exact ⟨(hS i hi).2.1, by decide⟩
      · exact ⟨(hS i hi).2.2.1, by decide⟩
      · exact ⟨n2, by decide⟩
      · exact ⟨o2, by decide⟩
    exact ⟨fun z => absurd z (Nat.not_le.mpr hlt.1), fun z => by omega⟩
  · have h50 : k = 50 ∧ kk = 50 := by
      rcases hab with z | z
      · rcases en_live h with ⟨rfl, hi⟩ | ⟨rfl, rfl⟩ | ⟨rfl, rfl⟩ | ⟨rfl, hi⟩ | ⟨rfl, hi⟩ | ⟨rfl, rfl⟩ | ⟨rfl, rfl⟩ <;> exact absurd z (by decide)
      · exact z
    obtain ⟨rfl, rfl⟩ := h50
    have hi : i < 16 := by
      rcases en_live h with ⟨-, hi⟩ | ⟨z, -⟩ | ⟨z, -⟩ | ⟨z, -⟩ | ⟨z, -⟩ | ⟨z, -⟩ | ⟨z, -⟩
      · exact hi
      all_goals cases z
    have hii : ii < 16 := by
      rcases en_live hh with ⟨-, hi⟩ | ⟨z, -⟩ | ⟨z, -⟩ | ⟨z, -⟩ | ⟨z, -⟩ | ⟨z, -⟩ | ⟨z, -⟩
      · exact hi
      all_goals cases z
    refine ⟨rfl, en_ord i hi ii hii ?_⟩
    have e' : aE i = aE ii := e
    obtain ⟨cf, kf, fi, f, cell, g1, g2, g3, g4, g5⟩ := (hE i hi).2.2.2.1
    obtain ⟨cf', kf', fi', f', cell', g1', g2', g3', g4', g5'⟩ := (hE ii hii).2.2.2.1
    rw [e'] at g3
    cases g3.symm.trans g3'
    cases g1.symm.trans g1'
    have := g5.symm.trans g5'
    exact Value.int.inj (Option.some.inj this)
  · rcases en_live h with ⟨rfl, hi⟩ | ⟨rfl, rfl⟩ | ⟨rfl, rfl⟩ | ⟨rfl, hi⟩ | ⟨rfl, hi⟩ | ⟨rfl, rfl⟩ | ⟨rfl, rfl⟩
    · have hj8 : j < 8 := hj
      obtain ⟨w1, w2⟩ := en_wd i hi
      match j, hj8 with
      | 0, _ => trivial
      | 1, _ => trivial
      | 2, _ => trivial
      | 3, _ => exact en_lvs (by decide) (by decide) w1
      | 4, _ => exact en_lvs (by decide) (by decide) w2
      | 5, _ => trivial
      | 6, _ => trivial
      | 7, _ => trivial
      | n + 8, hn => exact absurd hn (by omega)
    · exact Or.inr (Or.inr ⟨by show 2 ≤ 50; decide, Or.inr ⟨by show 50 ≤ 50; decide, by show 50 ≠ 57; decide, hj⟩⟩)
    · trivial
    · have hj8 : j < 2 := hj
      match j, hj8 with
      | 0, _ => exact en_lvs (by decide) (by decide) hi
      | 1, _ => trivial
      | n + 2, hn => exact absurd hn (by omega)
    · trivial
    · trivial
    · trivial
