/-! STEPS that write into arrays -/
section EGAS
variable {S : Type} {X : eg_X S} {lv : S → Nat → Nat → Prop} {D : va_G} {A : Nat → Prop}
variable {p : Program} {l : Launch} {e : Env} {R : Room} {s : State} {m : MethodId} {args : Array Value} {below : List Frame} {meth : Method} {c : Code} {Q : State → Prop} {mi pc pc2 : Nat} {σ σ2 : S} {u u2 : Nat × Nat} {ls ls2 : eg_L} {st st2 : List eg_V} {ad : eg_A} {H H2 : Heap} {locs locs2 : List Loc}
theorem eg_arr.set {U : State} {ty : FieldType} {a n j : Nat} {f g : Nat → Value} {cell : Cell} {v : Value} (h : eg_arr U ty a n f H) (hc : H[a]? = some cell) (hj : j < n) (hq : H2[a]? = some (cell.setSlot j v)) (hf : ∀ i, i < n → g i = if i = j then v else f i) : eg_arr U ty a n g H2 := by
  obtain ⟨cell', c1, c2, c3, c4, c5, c6⟩ := h
  cases hc.symm.trans c1
  have hs : (cell.setSlot j v).slots = cell.slots.setIfInBounds j v := rfl
  refine ⟨_, hq, c2, c3, by rw [hs, Array.size_setIfInBounds]; exact c4, by rw [hs, Array.size_setIfInBounds]; exact c5, fun i hi => ?_⟩
  rw [hs, hf i hi, Array.getElem?_setIfInBounds]
  by_cases hij : j = i
  · subst hij
    rw [if_pos rfl, if_pos (by omega), if_pos rfl]
  · rw [if_neg hij, if_neg (fun z => hij z.symm)]
    exact c6 i hi
theorem eg_nx_as {t : Nat} {f : Int32 → Int32} (hL : eg_Lwr X lv) (ht0 : t ≠ 0) (ht5 : t ≠ 5)
    (row : ∀ (H : Heap) (locs : List Loc) (LS : Array Slot) (a : Nat) (cell : Cell) (k : Nat) (j x : Int32) (rest : List Value), pg_ak k = t → H[a]? = some cell → s.isArrayOf cell (pm_at k) → cell.vm ≠ .unknown → ¬ (j < 0 ∨ cell.slots.size ≤ j.toNatClampNeg) → (∀ H' : Heap, H'[a]? = some (cell.setSlot j.toNatClampNeg (.int (f x))) → H'.size = H.size → (∀ q, q ≠ a → H'[q]? = H[q]?) → W p l e R s m args below meth c H' (locs ++ [⟨a, j.toNatClampNeg⟩]) u.1 u.2 Q (F0 m (pc + 1) LS rest)) → W p l e R s m args below meth c H locs u.1 u.2 Q (F0 m pc LS (.int x :: .int j :: .ref a :: rest)))
    (h : eg_as X pg_T t f (pc + 1) σ u ls st = some (true, .inl (pc2, σ2, u2, ls2, st2))) : eg_Nx X lv D A p l e R s m args below meth c Q mi pc σ u ls st pc2 σ2 u2 ls2 st2 := by
  unfold eg_as at h
  split at h
  · rename_i v x q r
    cases hq : Nat.beq (pg_T.2.2.1 q.1) t with
    | false => rw [hq] at h; cases h
    | true =>
      rw [hq] at h
      simp only [cond_true] at h
      split at h
      · rename_i σ3 hw
        simp only [Option.some.injEq, Prod.mk.injEq, Sum.inl.injEq] at h
        obtain ⟨hg, rfl, rfl, rfl, rfl, rfl⟩ := h
        have hkb : pg_ak q.1 = t := Nat.eq_of_beq_eq_true hq
        have hk0 : pg_ak q.1 ≠ 0 := by rw [hkb]; exact ht0
        have h5 : Nat.beq (pg_ak q.1) 5 = false := by
          cases hb : Nat.beq (pg_ak q.1) 5 with
          | false => rfl
          | true => exact absurd (hkb.symm.trans (Nat.eq_of_beq_eq_true hb)) ht5
        obtain ⟨hx0, hxn⟩ := eg_inb_spec hg
        intro ad H locs LS hS hI hl hv K
        have hlv := eg_live_ak hv.drop.drop.top hk0
        have hj : x.toNatClampNeg < eg_wid X σ q.1 q.2 := by unfold eg_wid; rw [if_neg hk0]; exact hxn
        have htr : eg_lvV lv σ (.inl (f v)) := trivial
        obtain ⟨hk50, w1, w2, w3⟩ := hL _ _ _ _ _ _ hlv hj htr hw
        have harr := eg_arr_of hI hlv hk0
        obtain ⟨cell, c1, c2, c3, c4, c5, c6⟩ := id harr
        have hm := (hI.1 _ _ hlv).2
        unfold eg_mem at hm
        rw [if_neg hk0] at hm
        show W p l e R s m args below meth c H locs u.1 u.2 Q (F0 m pc LS (.int v :: .int x :: eg_cv ad (.inr q) :: r.map (eg_cv ad)))
        rw [eg_cv_ref (hI.1 _ _ hlv).1]
        refine row H locs LS _ cell q.1 x v _ hkb c1 c2 c3 (fun z => z.elim hx0 (fun z => by omega)) (fun H2 e1 e2 e3 => ?_)
        have hnew : eg_mem X D s ad σ3 q.1 q.2 H2 := by
          unfold eg_mem
          rw [if_neg hk0, w2]
          refine ⟨harr.set c1 hxn e1 (fun i hi => ?_), fun h8 => ?_⟩
          · rw [w3 _ _ _ hlv]
            unfold eg_nv
            rw [h5]
            by_cases hi2 : i = x.toNatClampNeg
            · rw [if_pos ⟨rfl, rfl, hi2⟩, if_pos hi2]
              rfl
            · rw [if_neg (fun z => hi2 z.2.2), if_neg hi2]
          · obtain ⟨cell2, d1, d2⟩ := hm.2 h8
            cases c1.symm.trans d1
            exact ⟨_, e1, d2⟩
        exact K ad H2 _ LS (fun _ _ _ => rfl) rfl hS (hI.write hL hlv hj htr hw hnew e3 (hI.2.2.2.1.put e2 e3 ((hI.2.1 _ _ hlv).mpr hk50))) hl (hv.drop.drop.drop.wrote hL hlv hj htr hw)
      · cases h
  · cases h
end EGAS
