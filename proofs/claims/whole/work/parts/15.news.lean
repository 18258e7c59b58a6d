/-! STEPS that make objects and arrays of references; stores of references; the copy of bytes -/
section EGNW
variable {S : Type} {X : eg_X S} {lv : S → Nat → Nat → Prop} {D : va_G} {A : Nat → Prop}
variable {p : Program} {l : Launch} {e : Env} {R : Room} {s : State} {m : MethodId} {args : Array Value} {below : List Frame} {meth : Method} {c : Code} {Q : State → Prop} {mi pc pc2 : Nat} {σ σ2 : S} {u u2 : Nat × Nat} {ls ls2 : eg_L} {st st2 : List eg_V} {ad ad2 : eg_A} {H H2 : Heap} {locs locs2 : List Loc}
theorem eg_dft_cv (b j : Nat) (hb : b < 11) (h1 : 1 ≤ b) (hj : j < pg_nf b) (ad : eg_A) : defaultValue (pm_ty b j) = eg_cv ad (if pg_ft b j = 3 then .inr (0, 0) else .inl 0) := by
  rcases (pm_fty b hb h1 j hj).2 with ⟨h2, h3⟩ | ⟨h2, h3⟩ | ⟨h2, h3⟩ | ⟨h2, h3⟩
  · rw [h2, h3]; rfl
  · rw [h2, h3]; rfl
  · rw [h2, h3]; rfl
  · rw [h2]
    cases hty : pm_ty b j <;> rw [hty] at h3 <;> first | (cases h3; done) | rfl
theorem eg_nx_new {a idx : Nat} (hT : eg_Lst lv) (hL : eg_Lnw X lv) (hC : eg_Cx mi p s m meth c) (hRm : R.cells = (pg_mt mi).2.1 ∧ R.slots = (pg_mt mi).2.2) (hd : decode (pm_b mi) pc = .ok (.new idx, 3)) (hb1 : 1 ≤ pg_kc a) (hb2 : pg_kc a ≤ 10) (hw1 : Jvm.Cond.classLink (eg_own mi) idx (pm_c (pg_kc a)).1 ∈ eg_tbl) (hw2 : Jvm.Cond.instantiable (pm_c (pg_kc a)).1 (pm_c (pg_kc a)).2.2 ∈ eg_tbl) (hw3 : Jvm.Cond.initialized (pm_c (pg_kc a)).1 ∈ eg_tbl)
    (h : eg_new X pg_T a mi (pc + 3) σ u ls st = some (true, .inl (pc2, σ2, u2, ls2, st2))) : eg_Nx X lv D A p l e R s m args below meth c Q mi pc σ u ls st pc2 σ2 u2 ls2 st2 := by
  obtain ⟨hx, hb, -, -, hown, -, -⟩ := hC
  unfold eg_new at h
  split at h
  · rename_i σ3 i hw
    simp only [Option.some.injEq, Prod.mk.injEq, Sum.inl.injEq, Bool.and_eq_true] at h
    obtain ⟨⟨hx2, hx3⟩, rfl, rfl, rfl, rfl, rfl⟩ := h
    have hx2 := Nat.le_of_ble_eq_true hx2
    have hx3 := Nat.le_of_ble_eq_true hx3
    have h0 : (0 : Nat) ≤ 65536 := by decide
    have hN : (pm_c (pg_kc a)).2.2 = pg_nf (pg_kc a) := pm_nf _ (by omega)
    have hcl : pm_cl[pg_kc a - 1]? = some (pm_c (pg_kc a)) := by
      have := pm_cl_at (pg_kc a - 1) (by omega)
      rw [show pg_kc a - 1 + 1 = pg_kc a by omega] at this
      exact this
    intro ad H locs LS hS hI hl hv K
    have hts := eg_hts hS.2.1 hb1 hb2 args
    have hKn := hS.1.1 _ _ hcl
    refine W.newcK hx hb hown (hS.2.1.use hw1 rfl) (hS.2.1.use hw2 rfl) (hS.2.1.use hw3 rfl) rfl hd (by rw [hRm.1]; exact hx2) (by rw [hRm.2, hN]; exact hx3) hKn.2.1 rfl (fun H2 kC hkC e1 z1 o1 => ?_)
    obtain ⟨hk2, hk50, hnl, w1, w2, w3, w4⟩ := hL σ a 0 σ3 i h0 hw
    have ha0 := pg_kc_ak a (by omega)
    obtain ⟨ad2, b1, b2, b3, b4, b5⟩ := hI.make hT hL h0 hS hw z1 o1 (fun ad2 hb9 => by
      unfold eg_mem
      rw [if_pos ha0, if_pos hk50, hb9]
      refine ⟨_, hcl, (u_born (pm_ty (pg_kc a)) hts (fun _ h => h) hKn hkC e1 (fun k hk => (pm_fty _ (by omega) hb1 k (by rw [← hN]; exact hk)).1)).to (fun j hj => ?_)⟩
      have hj8 : j < pg_nf (pg_kc a) := by rw [← hN]; exact hj
      simp only [vp_V, List.getD_eq_getElem?_getD, List.getElem?_map, List.getElem?_range hj8, Option.map_some, Option.getD_some]
      rw [w4 j (by unfold eg_wid; rw [if_pos ha0]; exact hj8)]
      unfold eg_dft
      rw [if_pos ha0]
      exact eg_dft_cv _ _ (by omega) hb1 hj8 ad2)
    have hlive : lv σ3 a i := (w1 _ _).mpr (Or.inr ⟨rfl, rfl⟩)
    have K2 := K ad2 H2 locs LS b2 b3 b4 b5 (by rw [eg_hl_ext hv.1 b2 b3]; exact hl) ((hv.made hL h0 hw).push (Or.inr (Or.inr hlive)))
    rw [show (Sum.inr (a, i) :: st).map (eg_cv ad2) = .ref H.size :: st.map (eg_cv ad) by
      rw [List.map_cons, eg_cv_ref hk2, eg_st_ext hv.2 b2 b3, b1]] at K2
    rw [show (pm_c (pg_kc a)).2.2 = pg_nf (pg_kc a) from hN]
    exact K2
  · cases h
theorem eg_nx_anew {a idx : Nat} {C : String} (hT : eg_Lst lv) (hL : eg_Lnw X lv) (hC : eg_Cx mi p s m meth c) (hRm : R.cells = (pg_mt mi).2.1 ∧ R.slots = (pg_mt mi).2.2) (hd : decode (pm_b mi) pc = .ok (.anewarray idx, 3)) (ha : a = 8) (hw1 : Jvm.Cond.classLink (eg_own mi) idx "UnitDesk$Item" ∈ eg_tbl)
    (h : eg_newa X pg_T a mi (pc + 3) σ u ls st = some (true, .inl (pc2, σ2, u2, ls2, st2))) : eg_Nx X lv D A p l e R s m args below meth c Q mi pc σ u ls st pc2 σ2 u2 ls2 st2 := by
  obtain ⟨hx, hb, -, -, hown, -, -⟩ := hC
  subst ha
  unfold eg_newa at h
  split at h
  · rename_i x r
    split at h
    · rename_i σ3 i hw
      simp only [Option.some.injEq, Prod.mk.injEq, Sum.inl.injEq, Bool.and_eq_true, Bool.not_eq_true', decide_eq_false_iff_not] at h
      obtain ⟨⟨hx0, hx1, hx2, hx3⟩, rfl, rfl, rfl, rfl, rfl⟩ := h
      have hx1 := Nat.le_of_ble_eq_true hx1
      have hx2 := Nat.le_of_ble_eq_true hx2
      have hx3 := Nat.le_of_ble_eq_true hx3
      intro ad H locs LS hS hI hl hv K
      refine W.anew hx hb hown (hS.2.1.use hw1 rfl) (va_AO.use hS.2.2.2.2.2.2) (g := F0 m pc LS (.int x :: r.map (eg_cv ad))) rfl hd rfl hx0 (by omega) (by rw [hRm.1]; exact hx2) (by rw [hRm.2]; exact hx3) (fun cA kA comp f1 f2 f3 f4 => ?_)
      generalize hH1 : H.push ({ cls := cA, slots := Array.replicate x.toNatClampNeg .null, vm := .none } : Cell) = H2
      have z1 : H2.size = H.size + 1 := by rw [← hH1, Array.size_push]
      have e1 : H2[H.size]? = some (arrV cA x.toNatClampNeg (fun _ => .null)) := by rw [← hH1, Array.getElem?_push_size, ← arrV_new]
      have o1 : ∀ q : Nat, q < H.size → H2[q]? = H[q]? := fun q hq => by rw [← hH1, Array.getElem?_push, if_neg (Nat.ne_of_lt hq)]
      have hAr : ArrOfT s cA (.object "UnitDesk$Item") := fun N z => ⟨(fun k h => nomatch h), kA, f2, comp, f3⟩
      obtain ⟨ad2, b1, b2, b3, b4, b5⟩ := hI.make hT hL hx1 hS hw z1 o1 (fun ad2 hb => eg_mem_arr (ty := .object "UnitDesk$Item") hL hx1 hw (by decide) rfl hAr rfl hb e1 (fun _ => ⟨kA, comp, f2, f3, f4, f1⟩))
      obtain ⟨hk2, hk50, hnl, w1, w2, w3, w4⟩ := hL σ 8 _ σ3 i hx1 hw
      have hlive : lv σ3 8 i := (w1 _ _).mpr (Or.inr ⟨rfl, rfl⟩)
      have K2 := K ad2 H2 locs LS b2 b3 b4 b5 (by rw [eg_hl_ext hv.1 b2 b3]; exact hl) ((hv.drop.made hL hx1 hw).push (Or.inr (Or.inr hlive)))
      rw [show (Sum.inr (8, i) :: r).map (eg_cv ad2) = .ref H.size :: r.map (eg_cv ad) by
        rw [List.map_cons, eg_cv_ref hk2, eg_st_ext hv.drop.2 b2 b3, b1]] at K2
      exact K2
    · cases h
  · cases h
theorem eg_nx_ast {a b : Nat} (hL : eg_Lwr X lv) (hC : eg_Cx mi p s m meth c) (hd : decode (pm_b mi) pc = .ok (.aastore, 1)) (ha : a = 4) (hb8 : b = 8)
    (h : eg_ast X pg_T a b (pc + 1) σ u ls st = some (true, .inl (pc2, σ2, u2, ls2, st2))) : eg_Nx X lv D A p l e R s m args below meth c Q mi pc σ u ls st pc2 σ2 u2 ls2 st2 := by
  obtain ⟨hx, hb, -, -, hown, -, -⟩ := hC
  subst ha; subst hb8
  unfold eg_ast at h
  split at h
  · rename_i v x q r
    cases hq : (Nat.beq (pg_T.2.1 v.1) 4 && Nat.beq q.1 8) with
    | false => rw [hq] at h; cases h
    | true =>
      rw [hq] at h
      simp only [cond_true] at h
      split at h
      · rename_i σ3 hw
        simp only [Option.some.injEq, Prod.mk.injEq, Sum.inl.injEq] at h
        obtain ⟨hg, rfl, rfl, rfl, rfl, rfl⟩ := h
        simp only [Bool.and_eq_true] at hq
        have hkv : pg_kc v.1 = 4 := Nat.eq_of_beq_eq_true hq.1
        have hk8 : q.1 = 8 := Nat.eq_of_beq_eq_true hq.2
        have hk5 : pg_ak q.1 = 5 := by rw [hk8]; rfl
        have hk0 : pg_ak q.1 ≠ 0 := by rw [hk5]; decide
        obtain ⟨hx0, hxn⟩ := eg_inb_spec hg
        intro ad H locs LS hS hI hl hv K
        have hlvv := eg_live_kc hv.top (by rw [hkv]; decide)
        have hlv := eg_live_ak hv.drop.drop.top hk0
        have hj : x.toNatClampNeg < eg_wid X σ q.1 q.2 := by unfold eg_wid; rw [if_neg hk0]; exact hxn
        obtain ⟨hk50, w1, w2, w3⟩ := hL _ _ _ _ _ _ hlv hj hv.top hw
        have harr := eg_arr_of hI hlv hk0
        obtain ⟨cell, c1, c2, c3, c4, c5, c6⟩ := id harr
        have hm := (hI.1 _ _ hlv).2
        unfold eg_mem at hm
        rw [if_neg hk0] at hm
        obtain ⟨cell2, d1, kA, comp, k1, k2, k3, k4⟩ := hm.2 hk8
        cases c1.symm.trans d1
        -- the item
        have hv50 : v.1 < 50 := by
          rcases Nat.lt_or_ge v.1 50 with z | z
          · exact z
          · exfalso
            have hd : ∀ k, k < 58 → 50 ≤ k → pg_kc k ≠ 4 := by decide +kernel
            rcases Nat.lt_or_ge v.1 58 with z2 | z2
            · exact hd v.1 z2 z hkv
            · have : pg_kc v.1 = 0 := eg_getD_out _ _ (show 58 ≤ v.1 from z2)
              rw [this] at hkv
              cases hkv
        have hmv := (hI.1 _ _ hlvv).2
        unfold eg_mem at hmv
        rw [if_pos (pg_kc_ak _ (by rw [hkv]; decide)), if_pos hv50, hkv] at hmv
        obtain ⟨r9, hr9, cellV, g1, g2, g3, -⟩ := hmv
        have hcl4 : pm_cl[3]? = some (pm_c 4) := rfl
        have hcls := (hS.1.1 3 _ hcl4).2
        have hcomp : comp = D.1 3 := Option.some.inj (k3.symm.trans hcls.1)
        subst hcomp
        obtain ⟨kC, hkC, -⟩ := hcls.2
        show W p l e R s m args below meth c H locs u.1 u.2 Q (F0 m pc LS (eg_cv ad (.inr v) :: .int x :: eg_cv ad (.inr q) :: r.map (eg_cv ad)))
        rw [eg_cv_ref (hI.1 _ _ hlv).1, eg_cv_ref (hI.1 _ _ hlvv).1]
        refine W.aast hx hb c1 c2.1 c3 k1 k2 rfl hkC ⟨hx0, by omega⟩ g1 (fun q h => by rw [g3] at h; cases h) (by rw [g2]; exact hkC) (by rw [g2]; exact va_assign hcls) rfl rfl hd (fun H2 e1 e2 e3 => ?_)
        have hnew : eg_mem X D s ad σ3 q.1 q.2 H2 := by
          unfold eg_mem
          rw [if_neg hk0, w2]
          refine ⟨harr.set c1 hxn e1 (fun i hi => ?_), fun h8 => ⟨_, e1, kA, _, k1, k2, k3, k4⟩⟩
          rw [w3 _ _ _ hlv]
          unfold eg_nv
          rw [hk5]
          by_cases hi2 : i = x.toNatClampNeg
          · rw [if_pos ⟨rfl, rfl, hi2⟩, if_pos hi2]
            exact eg_cv_ref (hI.1 _ _ hlvv).1
          · rw [if_neg (fun z => hi2 z.2.2), if_neg hi2]
        exact K ad H2 _ LS (fun _ _ _ => rfl) rfl hS (hI.write hL hlv hj hv.top hw hnew e3 (hI.2.2.2.1.put e2 e3 ((hI.2.1 _ _ hlv).mpr hk50))) hl (hv.drop.drop.drop.wrote hL hlv hj hv.top hw)
      · cases h
  · cases h
/-- System.arraycopy of bytes -/
def eg_Lcp (X : eg_X S) (lv : S → Nat → Nat → Prop) : Prop := ∀ (σ : S) (q : Nat × Nat) (sp : Nat) (d : Nat × Nat) (dp n : Nat) (σ2 : S), lv σ q.1 q.2 → lv σ d.1 d.2 → pg_ak d.1 = 2 → X.2.2.2.2 σ q sp d dp n = some σ2 → d.1 < 50 ∧ (∀ k2 i2, lv σ2 k2 i2 ↔ lv σ k2 i2) ∧ (∀ k2 i2, X.2.1 σ2 k2 i2 = X.2.1 σ k2 i2) ∧ ∀ k2 i2 j2, lv σ k2 i2 → X.1 σ2 k2 i2 j2 = if k2 = d.1 ∧ i2 = d.2 ∧ dp ≤ j2 ∧ j2 < dp + n then .inl (eg_int (X.1 σ q.1 q.2 (sp + (j2 - dp)))) else X.1 σ k2 i2 j2
theorem eg_Inv.copy {d : Nat × Nat} {dp n : Nat} {g : Nat → eg_V} (hd50 : d.1 < 50) (w1 : ∀ k2 i2, lv σ2 k2 i2 ↔ lv σ k2 i2) (w2 : ∀ k2 i2, X.2.1 σ2 k2 i2 = X.2.1 σ k2 i2) (w3 : ∀ k2 i2 j2, lv σ k2 i2 → X.1 σ2 k2 i2 j2 = if k2 = d.1 ∧ i2 = d.2 ∧ dp ≤ j2 ∧ j2 < dp + n then .inl (eg_int (g j2)) else X.1 σ k2 i2 j2)
    (hI : eg_Inv X lv D A s ad σ H locs) (hlv : lv σ d.1 d.2) (hnew : eg_mem X D s ad σ2 d.1 d.2 H2) (hoq : ∀ q, q ≠ ad.1 d.1 d.2 → H2[q]? = H[q]?) (hS2 : va_S A s.heap H2 locs2) : eg_Inv X lv D A s ad σ2 H2 locs2 := by
  obtain ⟨i1, i2, i3, i4, i5⟩ := hI
  refine ⟨fun k2 i2' h2 => ?_, fun k2 i2' h2 => i2 k2 i2' ((w1 _ _).mp h2), fun k2 i2' k3 i3' h2 h3 => i3 k2 i2' k3 i3' ((w1 _ _).mp h2) ((w1 _ _).mp h3), hS2, fun k2 i2' j2 h2 hj2 => ?_⟩
  · have h2' := (w1 _ _).mp h2
    refine ⟨(i1 k2 i2' h2').1, ?_⟩
    by_cases hk2 : k2 = d.1 ∧ i2' = d.2
    · obtain ⟨rfl, rfl⟩ := hk2
      exact hnew
    · have hne : ad.1 k2 i2' ≠ ad.1 d.1 d.2 := fun e => hk2 (by have := i3 d.1 d.2 k2 i2' hlv h2' (Or.inl hd50) e.symm; exact ⟨this.1.symm, this.2.symm⟩)
      have hrd : ∀ j2, X.1 σ2 k2 i2' j2 = X.1 σ k2 i2' j2 := fun j2 => by rw [w3 k2 i2' j2 h2', if_neg (fun z => hk2 ⟨z.1, z.2.1⟩)]
      exact (i1 k2 i2' h2').2.kept rfl (hoq _ hne) (w2 _ _) (fun j2 _ => by rw [hrd]) (fun j2 _ => by rw [hrd])
  · have h2' := (w1 _ _).mp h2
    have hlvV : ∀ x, eg_lvV lv σ x → eg_lvV lv σ2 x := fun x hx => by
      cases x with
      | inl y => trivial
      | inr q => exact hx.elim Or.inl (fun z => Or.inr (z.elim Or.inl (fun z => Or.inr ((w1 _ _).mpr z))))
    have hj3 : j2 < eg_wid X σ k2 i2' := by unfold eg_wid at hj2 ⊢; rw [w2] at hj2; exact hj2
    rw [w3 k2 i2' j2 h2']
    split
    · trivial
    · exact hlvV _ (i5 k2 i2' j2 h2' hj3)
theorem eg_nx_cpy {idx : Nat} (hL : eg_Lcp X lv) (hC : eg_Cx mi p s m meth c) (hd : decode (pm_b mi) pc = .ok (.invokestatic idx, 3)) (hw1 : Jvm.Cond.methodLink (eg_own mi) idx arraycopyName ∈ eg_tbl) (hw2 : Jvm.Cond.native arraycopyName ∈ eg_tbl) (hw3 : Jvm.Cond.static arraycopyName ∈ eg_tbl) (hw4 : Jvm.Cond.initialized "java/lang/System" ∈ eg_tbl) (hRm : 1 ≤ R.frames ∧ 8 + (nativeFrameWords "java/lang/System" "arraycopy" 5 + 11) ≤ R.locals)
    (h : eg_cpy X pg_T (pc + 3) σ u ls st = some (true, .inl (pc2, σ2, u2, ls2, st2))) : eg_Nx X lv D A p l e R s m args below meth c Q mi pc σ u ls st pc2 σ2 u2 ls2 st2 := by
  obtain ⟨hx, hb, -, hml, hown, -, -⟩ := hC
  unfold eg_cpy at h
  split at h
  · rename_i n dp d sp q r
    cases hq : (Nat.beq (pg_T.2.2.1 d.1) 2 && Nat.beq (pg_T.2.2.1 q.1) 2) with
    | false => rw [hq] at h; cases h
    | true =>
      rw [hq] at h
      simp only [cond_true] at h
      split at h
      · rename_i σ3 hw
        simp only [Option.some.injEq, Prod.mk.injEq, Sum.inl.injEq, Bool.and_eq_true, Bool.not_eq_true', decide_eq_false_iff_not] at h
        obtain ⟨⟨hn0, hs0, hd0, hsn, hdn, hrl, hby⟩, rfl, rfl, rfl, rfl, rfl⟩ := h
        simp only [Bool.and_eq_true] at hq
        have hkd : pg_ak d.1 = 2 := Nat.eq_of_beq_eq_true hq.1
        have hkq : pg_ak q.1 = 2 := Nat.eq_of_beq_eq_true hq.2
        have hkd0 : pg_ak d.1 ≠ 0 := by rw [hkd]; decide
        have hkq0 : pg_ak q.1 ≠ 0 := by rw [hkq]; decide
        have hsn := Nat.le_of_ble_eq_true hsn
        have hdn := Nat.le_of_ble_eq_true hdn
        have hrl := Nat.le_of_ble_eq_true hrl
        intro ad H locs LS hS hI hl hv K
        have hld := eg_live_ak hv.drop.drop.top hkd0
        have hlq := eg_live_ak hv.drop.drop.drop.drop.top hkq0
        obtain ⟨hd50, w1, w2, w3⟩ := hL _ _ _ _ _ _ _ hlq hld hkd hw
        obtain ⟨cs, s1, s2, s3, s4, s5, s6⟩ := eg_arr_of hI hlq hkq0
        have harr := eg_arr_of hI hld hkd0
        obtain ⟨cd, d1, d2, d3, d4, d5, d6⟩ := id harr
        rw [(pm_at_of q.1).2.1 hkq] at s2
        rw [(pm_at_of d.1).2.1 hkd] at d2
        have hsz0 : ∀ j, j < X.2.1 σ q.1 q.2 → cs.slots[j]? = some (.int (eg_int (X.1 σ q.1 q.2 j))) := fun j hj => by
          rw [s6 j hj]
          unfold eg_nv
          rw [hkq]
          rfl
        obtain ⟨hs6, k0, hk0, cm0, hkk0⟩ := s2
        obtain ⟨hd6, k1, hk1, cm1, hkk1⟩ := id d2
        have nn : ∀ z : Int32, ¬ z < 0 → z.toInt = (z.toNatClampNeg : Int) := by
          intro z hz
          have hz0 : (0 : Int) ≤ z.toInt := by
            have := Int32.not_lt.mp hz
            simpa using Int32.le_iff_toInt_le.mp this
          show z.toInt = ((z.toInt.toNat : Nat) : Int)
          omega
        show W p l e R s m args below meth c H locs u.1 u.2 Q (F0 m pc LS (.int n :: .int dp :: eg_cv ad (.inr d) :: .int sp :: eg_cv ad (.inr q) :: r.map (eg_cv ad)))
        rw [eg_cv_ref (hI.1 _ _ hld).1, eg_cv_ref (hI.1 _ _ hlq).1]
        intro T hTh Y
        obtain ⟨vm', Y', step⟩ := Y.arraycopy hx hown (hS.2.1.use hw1 rfl) (hS.2.1.use hw2 rfl) (hS.2.1.use hw3 rfl) (hS.2.1.use hw4 rfl) (src := ad.1 q.1 q.2) (dst := ad.1 d.1 d.2) (cs := cs) (cd := cd) (srcPos := sp) (destPos := dp) (n := n) (by rw [hTh]; exact s1) (by rw [hTh]; exact d1)
          hs6 hd6 s3 d3 hk0 hk1 hkk0 hkk1 (by simp [refKind]) hs0 hd0 hn0
          (by rw [nn sp hs0, nn n hn0]; omega)
          (by rw [nn dp hd0, nn n hn0]; omega)
          (fun vm₁ _ i hi => by
            have e9 : cs.slots.getD (sp.toNatClampNeg + i) .null = .int (eg_int (X.1 σ q.1 q.2 (sp.toNatClampNeg + i))) := by
              rw [Array.getD_eq_getD_getElem?, hsz0 _ (by omega)]
              rfl
            have hb9 : (eg_int (X.1 σ q.1 q.2 (sp.toNatClampNeg + i))).toInt8.toInt32 = eg_int (X.1 σ q.1 q.2 (sp.toNatClampNeg + i)) := by
              have := List.all_eq_true.mp hby i (List.mem_range.mpr hi)
              simpa using this
            refine ⟨?_, ?_⟩
            · rw [e9, ← hb9]
              exact pk_fb _
            · rw [e9]
              exact trivial)
          (g := F0 m pc LS (.int n :: .int dp :: .ref (ad.1 d.1 d.2) :: .int sp :: .ref (ad.1 q.1 q.2) :: r.map (eg_cv ad))) rfl (by rw [hml]; exact hl.1) (rest := r.map (eg_cv ad)) rfl (by rw [hb]; exact hd) hRm.1 (by rw [eg_cats hS.2.2.2.2.1]; show 2 * 0 + _ + _ ≤ _; omega)
        have hdl : dp.toNatClampNeg + (cs.stretch sp.toNatClampNeg n.toNatClampNeg).length ≤ cd.slots.size := by
          unfold Cell.stretch
          rw [List.length_map, List.length_range]
          omega
        obtain ⟨t1, t2, t3, -, -⟩ := cd.storeRun_facts dp.toNatClampNeg (cs.stretch sp.toNatClampNeg n.toNatClampNeg)
        have hal : ad.1 d.1 d.2 < H.size := (Array.getElem?_eq_some_iff.mp d1).1
        have hheap : ((T.setVm vm').setCell (ad.1 d.1 d.2) (copied cs cd sp dp n)).heap = H.setIfInBounds (ad.1 d.1 d.2) (copied cs cd sp dp n) := by rw [← hTh]; rfl
        have oq : ∀ q9 : Nat, q9 ≠ ad.1 d.1 d.2 → (H.setIfInBounds (ad.1 d.1 d.2) (copied cs cd sp dp n))[q9]? = H[q9]? := fun q9 hq9 => by simp [Array.getElem?_setIfInBounds, Ne.symm hq9]
        have hself : (H.setIfInBounds (ad.1 d.1 d.2) (copied cs cd sp dp n))[ad.1 d.1 d.2]? = some (copied cs cd sp dp n) := by simp [Array.getElem?_setIfInBounds, hal]
        have hm := (hI.1 _ _ hld).2
        unfold eg_mem at hm
        rw [if_neg hkd0] at hm
        have hnew : eg_mem X D s ad σ3 d.1 d.2 (H.setIfInBounds (ad.1 d.1 d.2) (copied cs cd sp dp n)) := by
          unfold eg_mem
          rw [if_neg hkd0, w2]
          refine ⟨⟨_, hself, ?_, by rw [t2]; exact d3, by rw [t3]; exact d4, by rw [t3]; exact d5, fun j hj => ?_⟩, fun h8 => ?_⟩
          · rw [(pm_at_of d.1).2.1 hkd]
            exact ⟨fun k h => hd6 k (by rw [← t2]; exact h), k1, by rw [t1]; exact hk1, cm1, hkk1⟩
          · rw [cd.storeRun_get _ _ j hdl]
            show _ = some (eg_cv ad (eg_nv (pg_ak d.1) (X.1 σ3 d.1 d.2 j)))
            rw [w3 _ _ _ hld, show (cs.stretch sp.toNatClampNeg n.toNatClampNeg).length = n.toNatClampNeg by unfold Cell.stretch; rw [List.length_map, List.length_range]]
            by_cases hjj : dp.toNatClampNeg ≤ j ∧ j < dp.toNatClampNeg + n.toNatClampNeg
            · rw [if_pos hjj, if_pos ⟨rfl, rfl, hjj⟩, hkd]
              unfold Cell.stretch
              rw [List.getElem?_map, List.getElem?_range (by omega)]
              show some (cs.slots.getD (sp.toNatClampNeg + (j - dp.toNatClampNeg)) .null) = _
              rw [Array.getD_eq_getD_getElem?, hsz0 _ (by omega)]
              rfl
            · rw [if_neg hjj, if_neg (fun z => hjj z.2.2)]
              exact d6 j hj
          · obtain ⟨cell2, x1, x2⟩ := hm.2 h8
            cases d1.symm.trans x1
            exact ⟨_, hself, by rw [t1]; exact x2⟩
        have hAd : A (ad.1 d.1 d.2) := (hI.2.1 _ _ hld).mpr hd50
        have hS2 : va_S A s.heap (H.setIfInBounds (ad.1 d.1 d.2) (copied cs cd sp dp n)) (locs ++ (cs.stretch sp.toNatClampNeg n.toNatClampNeg).zipIdx.map fun q => ⟨ad.1 d.1 d.2, dp.toNatClampNeg + q.2⟩) := by
          refine ⟨by simp; exact hI.2.2.2.1.1, fun q9 g1 g2 => ?_, fun q9 hq9 => ?_⟩
          · rw [oq q9 (fun e9 => g2 (by rw [e9]; exact hAd))]
            exact hI.2.2.2.1.2.1 q9 g1 g2
          · rcases List.mem_append.mp hq9 with h9 | h9
            · exact hI.2.2.2.1.2.2 q9 h9
            · obtain ⟨z, -, hz⟩ := List.mem_map.mp h9
              rw [← hz]
              exact hAd
        have hlvV : ∀ x, eg_lvV lv σ x → eg_lvV lv σ3 x := fun x hx => by
          cases x with
          | inl y => trivial
          | inr q => exact hx.elim Or.inl (fun z => Or.inr (z.elim Or.inl (fun z => Or.inr ((w1 _ _).mpr z))))
        have hv2 := hv.drop.drop.drop.drop.drop
        obtain ⟨t9, a1, b1⟩ := K ad _ _ LS (fun _ _ _ => rfl) rfl hS (hI.copy hd50 w1 w2 w3 hld hnew oq hS2) hl ⟨fun q hq => hlvV _ (hv2.1 q hq), fun w hw => hlvV _ (hv2.2 w hw)⟩ _ hheap Y'
        exact ⟨t9, step t9 a1, b1⟩
      · cases h
  · cases h
end EGNW
