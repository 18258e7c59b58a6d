/-! STEPS that make cells -/
def eg_dft (k j : Nat) : eg_V := if pg_ak k = 0 then (if pg_ft (pg_kc k) j = 3 then .inr (0, 0) else .inl 0) else if pg_ak k = 5 then .inr (0, 0) else .inl 0
section EGMK
variable {S : Type} (X : eg_X S) (lv : S → Nat → Nat → Prop)
def eg_Lnw : Prop := ∀ (σ : S) (k n : Nat) (σ2 : S) (i : Nat), n ≤ 65536 → X.2.2.2.1 σ k n = some (σ2, i) → 2 ≤ k ∧ k < 50 ∧ ¬ lv σ k i ∧ (∀ k2 i2, lv σ2 k2 i2 ↔ lv σ k2 i2 ∨ (k2 = k ∧ i2 = i)) ∧ (∀ k2 i2, lv σ k2 i2 → X.2.1 σ2 k2 i2 = X.2.1 σ k2 i2 ∧ ∀ j, X.1 σ2 k2 i2 j = X.1 σ k2 i2 j) ∧ (pg_ak k ≠ 0 → X.2.1 σ2 k i = n) ∧ ∀ j, j < eg_wid X σ2 k i → X.1 σ2 k i j = eg_dft k j
def eg_Lst : Prop := ∀ (σ : S), (∀ a, a < pm_ns → eg_lvV lv σ (pg_sg a)) ∧ lv σ 53 0
variable {X lv} {D : va_G} {A : Nat → Prop}
variable {p : Program} {l : Launch} {e : Env} {R : Room} {s : State} {m : MethodId} {args : Array Value} {below : List Frame} {meth : Method} {c : Code} {Q : State → Prop} {mi pc pc2 : Nat} {σ σ2 : S} {u u2 : Nat × Nat} {ls ls2 : eg_L} {st st2 : List eg_V} {ad ad2 : eg_A} {H H2 : Heap} {locs locs2 : List Loc}
theorem eg_cv_ext {v : eg_V} (hv : eg_lvV lv σ v) (h1 : ∀ k i, lv σ k i → ad2.1 k i = ad.1 k i) (h2 : ad2.2 = ad.2) : eg_cv ad2 v = eg_cv ad v := by
  cases v with
  | inl x => rfl
  | inr q =>
    show (bif Nat.beq q.1 0 then Value.null else bif Nat.beq q.1 1 then ad2.2 q.2 else Value.ref (ad2.1 q.1 q.2)) = (bif Nat.beq q.1 0 then Value.null else bif Nat.beq q.1 1 then ad.2 q.2 else Value.ref (ad.1 q.1 q.2))
    rcases hv with h | h | h
    · rw [h]; rfl
    · rw [h, h2]; rfl
    · rw [h2, h1 _ _ h]
theorem eg_hl_ext (hv : ∀ q ∈ ls, eg_lvV lv σ q.2) (h1 : ∀ k i, lv σ k i → ad2.1 k i = ad.1 k i) (h2 : ad2.2 = ad.2) : eg_hl ad2 ls = eg_hl ad ls := List.map_congr_left (fun q hq => by rw [eg_cv_ext (hv q hq) h1 h2])
theorem eg_st_ext (hv : ∀ v ∈ st, eg_lvV lv σ v) (h1 : ∀ k i, lv σ k i → ad2.1 k i = ad.1 k i) (h2 : ad2.2 = ad.2) : st.map (eg_cv ad2) = st.map (eg_cv ad) := List.map_congr_left (fun q hq => eg_cv_ext (hv q hq) h1 h2)
theorem eg_Sta.ext (hT : eg_Lst lv) (σ : S) (h : eg_Sta D A s ad) (h1 : ∀ k i, lv σ k i → ad2.1 k i = ad.1 k i) (h2 : ad2.2 = ad.2) : eg_Sta D A s ad2 := by
  obtain ⟨a1, a2, a3, a4, a5, a6, a7⟩ := h
  refine ⟨a1, a2, fun a ha => ?_, a4, by unfold eg_zk; rw [h2]; exact a5, by rw [h1 _ _ (hT σ).2]; exact a6, a7⟩
  rw [eg_cv_ext ((hT σ).1 a ha) h1 h2]
  exact a3 a ha
theorem eg_nv_live {t : Nat} {v : eg_V} (h : eg_lvV lv σ v) : eg_lvV lv σ (eg_nv t v) := by
  unfold eg_nv
  cases Nat.beq t 5 with
  | false => exact trivial
  | true =>
    cases v with
    | inl x => exact Or.inl rfl
    | inr q => exact h
/-- the memory behind a making -/
theorem eg_Inv.make {k n i : Nat} (hT : eg_Lst lv) (hL : eg_Lnw X lv) (hn : n ≤ 65536) (hS : eg_Sta D A s ad) (hI : eg_Inv X lv D A s ad σ H locs) (hw : X.2.2.2.1 σ k n = some (σ2, i)) (hz : H2.size = H.size + 1) (ho : ∀ q, q < H.size → H2[q]? = H[q]?)
    (hnew : ∀ ad2 : eg_A, ad2.1 k i = H.size → eg_mem X D s ad2 σ2 k i H2) : ∃ ad2 : eg_A, ad2.1 k i = H.size ∧ (∀ k2 i2, lv σ k2 i2 → ad2.1 k2 i2 = ad.1 k2 i2) ∧ ad2.2 = ad.2 ∧ eg_Sta D A s ad2 ∧ eg_Inv X lv D A s ad2 σ2 H2 locs := by
  obtain ⟨hk2, hk50, hnl, w1, w2, w3, w4⟩ := hL σ k n σ2 i hn hw
  obtain ⟨i1, i2, i3, i4, i5⟩ := hI
  have hlt : ∀ k2 i2', lv σ k2 i2' → ad.1 k2 i2' < H.size := by
    intro k2 i2' h2
    have hm := (i1 k2 i2' h2).2
    unfold eg_mem at hm
    split at hm
    · split at hm
      · exact va_at.lt hm
      · obtain ⟨⟨cell, c1, -⟩, -⟩ := hm
        exact (Array.getElem?_eq_some_iff.mp c1).1
    · obtain ⟨⟨cell, c1, -⟩, -⟩ := hm
      exact (Array.getElem?_eq_some_iff.mp c1).1
  have hext : ∀ k2 i2', lv σ k2 i2' → (if k2 = k ∧ i2' = i then H.size else ad.1 k2 i2') = ad.1 k2 i2' := fun k2 i2' h2 => if_neg (fun z => hnl (by rw [← z.1, ← z.2]; exact h2))
  have hlvV : ∀ x, eg_lvV lv σ x → eg_lvV lv σ2 x := fun x hx => by
    cases x with
    | inl y => trivial
    | inr q => exact hx.elim Or.inl (fun z => Or.inr (z.elim Or.inl (fun z => Or.inr ((w1 _ _).mpr (Or.inl z)))))
  have hAn : A H.size := hS.2.2.2.1 _ i4.1
  refine ⟨(fun k2 i2' => if k2 = k ∧ i2' = i then H.size else ad.1 k2 i2', ad.2), if_pos ⟨rfl, rfl⟩, hext, rfl, hS.ext hT σ hext rfl, ?_⟩
  refine ⟨fun k2 i2' h2 => ?_, fun k2 i2' h2 => ?_, fun ka ia kb ib ha hb hab e => ?_, ⟨by rw [hz]; exact Nat.le_trans i4.1 (Nat.le_succ _), fun q h1 h2 => by rw [ho q (Nat.lt_of_lt_of_le h1 i4.1)]; exact i4.2.1 q h1 h2, i4.2.2⟩, fun k2 i2' j h2 hj => ?_⟩
  · rcases (w1 _ _).mp h2 with h3 | ⟨rfl, rfl⟩
    · refine ⟨(i1 _ _ h3).1, ?_⟩
      refine (i1 _ _ h3).2.kept (hext _ _ h3) (ho _ (hlt _ _ h3)) (w2 _ _ h3).1 (fun j hj => ?_) (fun j hj => ?_)
      · rw [(w2 _ _ h3).2]; exact eg_cv_ext (i5 _ _ _ h3 hj) hext rfl
      · rw [(w2 _ _ h3).2]; exact eg_cv_ext (eg_nv_live (i5 _ _ _ h3 hj)) hext rfl
    · exact ⟨hk2, hnew _ (if_pos ⟨rfl, rfl⟩)⟩
  · rcases (w1 _ _).mp h2 with h3 | ⟨rfl, rfl⟩
    · show A (if k2 = k ∧ i2' = i then H.size else ad.1 k2 i2') ↔ _
      rw [hext _ _ h3]
      exact i2 _ _ h3
    · show A (if k2 = k2 ∧ i2' = i2' then H.size else ad.1 k2 i2') ↔ _
      rw [if_pos ⟨rfl, rfl⟩]
      exact ⟨fun _ => hk50, fun _ => hAn⟩
  · have e' : (if ka = k ∧ ia = i then H.size else ad.1 ka ia) = (if kb = k ∧ ib = i then H.size else ad.1 kb ib) := e
    rcases (w1 _ _).mp ha with h3 | ⟨rfl, rfl⟩
    · rw [hext _ _ h3] at e'
      rcases (w1 _ _).mp hb with h4 | ⟨rfl, rfl⟩
      · rw [hext _ _ h4] at e'
        exact i3 _ _ _ _ h3 h4 hab e'
      · rw [if_pos ⟨rfl, rfl⟩] at e'
        have := hlt _ _ h3
        omega
    · rw [if_pos ⟨rfl, rfl⟩] at e'
      rcases (w1 _ _).mp hb with h4 | ⟨rfl, rfl⟩
      · rw [hext _ _ h4] at e'
        have := hlt _ _ h4
        omega
      · exact ⟨rfl, rfl⟩
  · rcases (w1 _ _).mp h2 with h3 | ⟨rfl, rfl⟩
    · rw [(w2 _ _ h3).2]
      refine hlvV _ (i5 _ _ _ h3 ?_)
      unfold eg_wid at hj ⊢
      rw [(w2 _ _ h3).1] at hj
      exact hj
    · rw [w4 j hj]
      unfold eg_dft
      split
      · split
        · exact Or.inl rfl
        · trivial
      · split
        · exact Or.inl rfl
        · trivial
theorem eg_LV.made {k n i : Nat} (hL : eg_Lnw X lv) (hn : n ≤ 65536) (hw : X.2.2.2.1 σ k n = some (σ2, i)) (h : eg_LV lv σ ls st) : eg_LV lv σ2 ls st := by
  obtain ⟨hk2, hk50, hnl, w1, w2, w3, w4⟩ := hL σ k n σ2 i hn hw
  have hlvV : ∀ x, eg_lvV lv σ x → eg_lvV lv σ2 x := fun x hx => by
    cases x with
    | inl y => trivial
    | inr q => exact hx.elim Or.inl (fun z => Or.inr (z.elim Or.inl (fun z => Or.inr ((w1 _ _).mpr (Or.inl z)))))
  exact ⟨fun q hq => hlvV _ (h.1 q hq), fun w hw => hlvV _ (h.2 w hw)⟩
/-- a made array's memory -/
theorem eg_mem_arr {k n i : Nat} {cA : ClassId} {ty : FieldType} (hL : eg_Lnw X lv) (hn : n ≤ 65536) (hw : X.2.2.2.1 σ k n = some (σ2, i)) (hk0 : pg_ak k ≠ 0) (hty : pm_at k = ty) (hAr : ArrOfT s cA ty) (hd : eg_cv ad2 (eg_nv (pg_ak k) (if pg_ak k = 5 then .inr (0, 0) else .inl 0)) = defaultValue ty)
    (ha : ad2.1 k i = H.size) (he : H2[H.size]? = some (arrV cA n (fun _ => defaultValue ty))) (hRA : k = 8 → va_RA s cA (.object "UnitDesk$Item")) : eg_mem X D s ad2 σ2 k i H2 := by
  obtain ⟨hk2, hk50, hnl, w1, w2, w3, w4⟩ := hL σ k n σ2 i hn hw
  unfold eg_mem
  rw [if_neg hk0, ha, w3 hk0, hty]
  refine ⟨⟨_, he, hAr n _, (fun h => nomatch h), by rw [arrV_size]; exact Nat.le_refl _, by rw [arrV_size], fun j hj => ?_⟩, fun h8 => ⟨_, he, hRA h8⟩⟩
  rw [arrV_read _ _ hj]
  show some _ = some (eg_cv ad2 (eg_nv (pg_ak k) (X.1 σ2 k i j)))
  rw [w4 j (by unfold eg_wid; rw [if_neg hk0, w3 hk0]; exact hj)]
  unfold eg_dft
  rw [if_neg hk0, hd]
theorem eg_nx_newa {a : Nat} {atype : ArrayType} (hT : eg_Lst lv) (hL : eg_Lnw X lv) (hC : eg_Cx mi p s m meth c) (hRm : R.cells = (pg_mt mi).2.1 ∧ R.slots = (pg_mt mi).2.2) (hd : decode (pm_b mi) pc = .ok (.newarray atype, 2)) (hs : (pg_ak a = 1 ∧ atype = .int) ∨ (pg_ak a = 2 ∧ atype = .byte) ∨ (pg_ak a = 4 ∧ atype = .boolean)) (ha8 : a ≠ 8) (hw0 : Jvm.Cond.arrayClass (newarray.typeOf atype) ∈ eg_tbl)
    (h : eg_newa X pg_T a mi (pc + 2) σ u ls st = some (true, .inl (pc2, σ2, u2, ls2, st2))) : eg_Nx X lv D A p l e R s m args below meth c Q mi pc σ u ls st pc2 σ2 u2 ls2 st2 := by
  obtain ⟨hx, hb, -, -, hown, -, -⟩ := hC
  unfold eg_newa at h
  split at h
  · rename_i x r
    split at h
    · rename_i σ3 i hw
      simp only [Option.some.injEq, Prod.mk.injEq, Sum.inl.injEq, Bool.and_eq_true, Bool.not_eq_true', decide_eq_false_iff_not] at h
      obtain ⟨⟨hx0, hx1, hx2, hx3⟩, rfl, rfl, rfl, rfl, rfl⟩ := h
      have hx1 := Nat.le_of_ble_eq_true hx1
      have hx2 := Nat.le_of_ble_eq_true hx2
      have hx3 := Nat.le_of_ble_eq_true hx3
      intro ad H locs LS hS hI hl hv K
      have hat := pm_at_of a
      have hty : pm_at a = newarray.typeOf atype ∧ pg_ak a ≠ 0 ∧ ∀ ad2 : eg_A, eg_cv ad2 (eg_nv (pg_ak a) (if pg_ak a = 5 then .inr (0, 0) else .inl 0)) = defaultValue (newarray.typeOf atype) := by
        rcases hs with ⟨h1, rfl⟩ | ⟨h1, rfl⟩ | ⟨h1, rfl⟩
        · exact ⟨hat.1 h1, by rw [h1]; decide, fun ad2 => by rw [h1]; rfl⟩
        · exact ⟨hat.2.1 h1, by rw [h1]; decide, fun ad2 => by rw [h1]; rfl⟩
        · exact ⟨hat.2.2.2.1 h1, by rw [h1]; decide, fun ad2 => by rw [h1]; rfl⟩
      refine va_newaK hx hb (hS.2.1.use hw0 rfl) (g := F0 m pc LS (.int x :: r.map (eg_cv ad))) rfl hd rfl hx0 rfl ?_ (by rw [hRm.1]; exact hx2) (by rw [hRm.2]; exact hx3) rfl (fun H2 cA e1 z1 o1 hAr hNm => ?_)
      · rcases hs with ⟨h1, rfl⟩ | ⟨h1, rfl⟩ | ⟨h1, rfl⟩ <;> simp only [newarray.typeOf, componentBytes] <;> omega
      · obtain ⟨ad2, b1, b2, b3, b4, b5⟩ := hI.make hT hL hx1 hS hw z1 o1 (fun ad2 hb => eg_mem_arr hL hx1 hw hty.2.1 hty.1 hAr (hty.2.2 ad2) hb e1 (fun h8 => absurd h8 ha8))
        have hlive : lv σ3 a i := ((hL _ _ _ _ _ hx1 hw).2.2.2.1 _ _).mpr (Or.inr ⟨rfl, rfl⟩)
        have K2 := K ad2 H2 locs LS b2 b3 b4 b5 (by rw [eg_hl_ext hv.1 b2 b3]; exact hl) ((hv.drop.made hL hx1 hw).push (Or.inr (Or.inr hlive)))
        rw [show (Sum.inr (a, i) :: r).map (eg_cv ad2) = .ref H.size :: r.map (eg_cv ad) by
          rw [List.map_cons, eg_cv_ref (hL _ _ _ _ _ hx1 hw).1, eg_st_ext hv.drop.2 b2 b3, b1]] at K2
        exact K2
    · cases h
  · cases h
end EGMK
