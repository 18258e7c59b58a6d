/-! STEPS that read the store -/
theorem eg_gw_lay {C : String} {T : u_T} {N : Nat} : ∀ w ∈ u_ws C T N, eg_gw w = true := by
  intro w hw
  obtain ⟨k, -, rfl⟩ := List.mem_map.mp hw
  unfold u_lay
  split <;> rfl
theorem eg_hts {s : State} (hW : eg_Wd s) {b : Nat} (h1 : 1 ≤ b) (h2 : b ≤ 10) (args : Array Value) : ∀ w ∈ u_ws (pm_c b).1 (pm_c b).2.1 (pm_c b).2.2, w.before args s = true := fun w hw => hW.use (pm_lays b h1 h2 w hw) (eg_gw_lay w hw)
theorem eg_cv_ref {ad : eg_A} {q : Nat × Nat} (h : 2 ≤ q.1) : eg_cv ad (.inr q) = .ref (ad.1 q.1 q.2) := by
  have h0 : Nat.beq q.1 0 = false := by
    cases hb : Nat.beq q.1 0 with
    | false => rfl
    | true => have := Nat.eq_of_beq_eq_true hb; omega
  have h1 : Nat.beq q.1 1 = false := by
    cases hb : Nat.beq q.1 1 with
    | false => rfl
    | true => have := Nat.eq_of_beq_eq_true hb; omega
  show (bif Nat.beq q.1 0 then Value.null else bif Nat.beq q.1 1 then ad.2 q.2 else Value.ref (ad.1 q.1 q.2)) = _
  rw [h0, h1]
  rfl
section EGR
variable {S : Type} {X : eg_X S} {lv : S → Nat → Nat → Prop} {D : va_G} {A : Nat → Prop}
variable {p : Program} {l : Launch} {e : Env} {R : Room} {s : State} {m : MethodId} {args : Array Value} {below : List Frame} {meth : Method} {c : Code} {Q : State → Prop} {mi pc pc2 : Nat} {σ σ2 : S} {u u2 : Nat × Nat} {ls ls2 : eg_L} {st st2 : List eg_V} {ad : eg_A} {H : Heap} {locs : List Loc}
theorem eg_live_kc {q : Nat × Nat} (h : eg_lvV lv σ (.inr q)) (hk : pg_kc q.1 ≠ 0) : lv σ q.1 q.2 := by
  rcases h with h | h | h
  · rw [h] at hk; exact absurd rfl hk
  · rw [h] at hk; exact absurd rfl hk
  · exact h
theorem eg_live_ak {q : Nat × Nat} (h : eg_lvV lv σ (.inr q)) (hk : pg_ak q.1 ≠ 0) : lv σ q.1 q.2 := by
  rcases h with h | h | h
  · rw [h] at hk; exact absurd rfl hk
  · rw [h] at hk; exact absurd rfl hk
  · exact h
theorem eg_fld_of (hS : eg_Sta D A s ad) (hI : eg_Inv X lv D A s ad σ H locs) {k i j : Nat} (hl : lv σ k i) (hk : pg_kc k ≠ 0) (hj : j < pg_nf (pg_kc k)) : eg_fld s (pg_kc k) j (ad.1 k i) (eg_cv ad (X.1 σ k i j)) H := by
  have hm := (hI.1 k i hl).2
  unfold eg_mem at hm
  rw [if_pos (pg_kc_ak k hk)] at hm
  by_cases h50 : k < 50
  · rw [if_pos h50] at hm
    obtain ⟨r, h1, cell, q1, q2, q3, q4⟩ := hm
    have hb : pg_kc k - 1 < 10 := (List.getElem?_eq_some_iff.mp h1).1
    have he : pg_kc k - 1 + 1 = pg_kc k := by omega
    have hr : r = pm_c (pg_kc k) := by
      have := (pm_cl_at _ hb).symm.trans h1
      rw [he] at this
      exact (Option.some.inj this).symm
    subst hr
    obtain ⟨hSl, hfc, kC, hkC, hkind⟩ := hS.1.1 _ _ h1
    have hj' : j < (pm_c (pg_kc k)).2.2 := by rw [pm_nf _ (by omega)]; exact hj
    obtain ⟨cf, kf, fi, f, hi, hsl⟩ := hSl j hj'
    refine ⟨cf, kf, fi, f, cell, hi, (u_facts (args := #[]) hfc hkC (u_lays (eg_hts hS.2.1 (by omega) (by omega) #[]) (fun _ h => h) hj') hi).1, q1, by rw [q3]; exact (fun h => nomatch h), ?_⟩
    rw [hsl, q4 j hj']
    simp [vp_V, hj]
  · rw [if_neg h50] at hm
    exact hm.2 j hj
theorem eg_arr_of (hI : eg_Inv X lv D A s ad σ H locs) {k i : Nat} (hl : lv σ k i) (hk : pg_ak k ≠ 0) : eg_arr s (pm_at k) (ad.1 k i) (X.2.1 σ k i) (fun j => eg_cv ad (eg_nv (pg_ak k) (X.1 σ k i j))) H := by
  have hm := (hI.1 k i hl).2
  unfold eg_mem at hm
  rw [if_neg hk] at hm
  exact hm.1
theorem eg_inb_spec {x : Int32} {n : Nat} (h : eg_inb x n = true) : ¬ x < 0 ∧ x.toNatClampNeg < n := by
  unfold eg_inb at h
  simp only [Bool.and_eq_true, Bool.not_eq_true', decide_eq_false_iff_not] at h
  refine ⟨h.1, ?_⟩
  exact Nat.le_of_ble_eq_true h.2
theorem eg_nx_gf {a b idx : Nat} {g : Bool} (hC : eg_Cx mi p s m meth c) (hd : decode (pm_b mi) pc = .ok (.getfield idx, 3)) (hs : eg_fs mi idx b a) (h : eg_gf X pg_T a b (pc + 3) σ u ls st = some (g, .inl (pc2, σ2, u2, ls2, st2))) : eg_Nx X lv D A p l e R s m args below meth c Q mi pc σ u ls st pc2 σ2 u2 ls2 st2 := by
  obtain ⟨hx, hb, -, -, hown, -, -⟩ := hC
  unfold eg_gf at h
  split at h
  · rename_i q r
    cases hq : Nat.beq (pg_T.2.1 q.1) b with
    | false => rw [hq] at h; cases h
    | true =>
      rw [hq] at h
      simp only [cond_true, Option.some.injEq, Prod.mk.injEq, Sum.inl.injEq] at h
      obtain ⟨-, rfl, rfl, rfl, rfl, rfl⟩ := h
      have hkb : pg_kc q.1 = b := Nat.eq_of_beq_eq_true hq
      subst hkb
      have hk0 : pg_kc q.1 ≠ 0 := fun h0 => by
        have := hs.1
        rw [h0] at this
        exact absurd this (Nat.not_lt_zero _)
      refine eg_Nx.same (fun ad H locs LS hS hI hl hv K => ?_)
      have hlv := eg_live_kc hv.top hk0
      have h2 := (hI.1 _ _ hlv).1
      obtain ⟨cf, kf, fi, f, cell, f1, f2, f3, f4, f5⟩ := eg_fld_of hS hI hlv hk0 hs.1
      have K2 := K LS hl (hv.drop.push (hI.2.2.2.2 _ _ _ hlv (by unfold eg_wid; rw [if_pos (pg_kc_ak _ hk0)]; exact hs.1)))
      show W p l e R s m args below meth c H locs u.1 u.2 Q (F0 m pc LS (eg_cv ad (.inr q) :: r.map (eg_cv ad)))
      rw [eg_cv_ref h2]
      rcases hs.2 with hw | ⟨host, hw⟩
      · exact W.getf hx hb hown (hS.2.1.use hw rfl) f1 f2 f3 f4 f5 rfl rfl hd K2
      · exact va_Wgetf hx hb hown (hS.2.1.use hw rfl) f1 f2 f3 f4 f5 rfl rfl hd K2
  · cases h
theorem eg_nx_gs {a idx : Nat} (hC : eg_Cx mi p s m meth c) (hd : decode (pm_b mi) pc = .ok (.getstatic idx, 3)) (hs : eg_ss mi idx a) (hlive : eg_lvV lv σ (pg_sg a)) : eg_Nx X lv D A p l e R s m args below meth c Q mi pc σ u ls st (pc + 3) σ u ls (pg_sg a :: st) := by
  obtain ⟨hx, hb, -, -, hown, -, -⟩ := hC
  refine eg_Nx.same (fun ad H locs LS hS hI hl hv K => ?_)
  have K2 := K LS hl (hv.push hlive)
  rcases hs.2 with hw | ⟨host, hw⟩
  · exact va_gets hx hb (hS.2.2.1 a hs.1) hI.2.2.2.1 hown (hS.2.1.use hw rfl) (fun _ h => h) hd K2
  · exact va_getsN hx hb (hS.2.2.1 a hs.1) hI.2.2.2.1 hown (hS.2.1.use hw rfl) (fun _ h => h) hd K2
end EGR
section EGR2
variable {S : Type} {X : eg_X S} {lv : S → Nat → Nat → Prop} {D : va_G} {A : Nat → Prop}
variable {p : Program} {l : Launch} {e : Env} {R : Room} {s : State} {m : MethodId} {args : Array Value} {below : List Frame} {meth : Method} {c : Code} {Q : State → Prop} {mi pc pc2 : Nat} {σ σ2 : S} {u u2 : Nat × Nat} {ls ls2 : eg_L} {st st2 : List eg_V} {ad : eg_A} {H : Heap} {locs : List Loc}
/-- a load of a number -/
theorem eg_nx_al {t : Nat} (ht0 : t ≠ 0) (ht5 : t ≠ 5)
    (row : ∀ (H : Heap) (locs : List Loc) (LS : Array Slot) (a : Nat) (cell : Cell) (k : Nat) (x : Int32) (v : Value) (rest : List Value), pg_ak k = t → H[a]? = some cell → s.isArrayOf cell (pm_at k) → cell.vm ≠ .unknown → ¬ (x < 0 ∨ cell.slots.size ≤ x.toNatClampNeg) → cell.slots[x.toNatClampNeg]? = some v → W p l e R s m args below meth c H locs u.1 u.2 Q (F0 m (pc + 1) LS (v :: rest)) → W p l e R s m args below meth c H locs u.1 u.2 Q (F0 m pc LS (.int x :: .ref a :: rest)))
    (h : eg_al X pg_T t (pc + 1) σ u ls st = some (true, .inl (pc2, σ2, u2, ls2, st2))) : eg_Nx X lv D A p l e R s m args below meth c Q mi pc σ u ls st pc2 σ2 u2 ls2 st2 := by
  unfold eg_al at h
  split at h
  · rename_i x q r
    cases hq : Nat.beq (pg_T.2.2.1 q.1) t with
    | false => rw [hq] at h; cases h
    | true =>
      rw [hq] at h
      simp only [cond_true, Option.some.injEq, Prod.mk.injEq, Sum.inl.injEq] at h
      obtain ⟨hg, rfl, rfl, rfl, rfl, rfl⟩ := h
      have hkb : pg_ak q.1 = t := Nat.eq_of_beq_eq_true hq
      obtain ⟨hx0, hxn⟩ := eg_inb_spec hg
      refine eg_Nx.same (fun ad H locs LS hS hI hl hv K => ?_)
      have hlv := eg_live_ak hv.drop.top (by rw [hkb]; exact ht0)
      obtain ⟨cell, c1, c2, c3, c4, c5, c6⟩ := eg_arr_of hI hlv (by rw [hkb]; exact ht0)
      show W p l e R s m args below meth c H locs u.1 u.2 Q (F0 m pc LS (.int x :: eg_cv ad (.inr q) :: r.map (eg_cv ad)))
      rw [eg_cv_ref (hI.1 _ _ hlv).1]
      refine row H locs LS _ cell q.1 x (.int (eg_int (X.1 σ q.1 q.2 x.toNatClampNeg))) _ hkb c1 c2 c3 (fun z => z.elim hx0 (fun z => by omega)) ?_ (K LS hl (hv.drop.drop.push trivial))
      rw [c6 _ hxn]
      have h5 : Nat.beq (pg_ak q.1) 5 = false := by
        cases hb : Nat.beq (pg_ak q.1) 5 with
        | false => rfl
        | true => exact absurd (hkb.symm.trans (Nat.eq_of_beq_eq_true hb)) ht5
      unfold eg_nv
      rw [h5]
      rfl
  · cases h
theorem eg_nx_ar (hC : eg_Cx mi p s m meth c) (hd : decode (pm_b mi) pc = .ok (.aaload, 1)) (h : eg_ar X pg_T (pc + 1) σ u ls st = some (true, .inl (pc2, σ2, u2, ls2, st2))) : eg_Nx X lv D A p l e R s m args below meth c Q mi pc σ u ls st pc2 σ2 u2 ls2 st2 := by
  obtain ⟨hx, hb, -, -, hown, -, -⟩ := hC
  unfold eg_ar at h
  split at h
  · rename_i x q r
    cases hq : Nat.beq (pg_T.2.2.1 q.1) 5 with
    | false => rw [hq] at h; cases h
    | true =>
      rw [hq] at h
      simp only [cond_true, Option.some.injEq, Prod.mk.injEq, Sum.inl.injEq] at h
      obtain ⟨hg, rfl, rfl, rfl, rfl, rfl⟩ := h
      have hkb : pg_ak q.1 = 5 := Nat.eq_of_beq_eq_true hq
      have hk0 : pg_ak q.1 ≠ 0 := by rw [hkb]; decide
      obtain ⟨hx0, hxn⟩ := eg_inb_spec hg
      obtain ⟨C, hC5⟩ := (pm_at_of q.1).2.2.2.2 hkb
      refine eg_Nx.same (fun ad H locs LS hS hI hl hv K => ?_)
      have hlv := eg_live_ak hv.drop.top hk0
      obtain ⟨cell, c1, c2, c3, c4, c5, c6⟩ := eg_arr_of hI hlv hk0
      have hlive : eg_lvV lv σ (.inr (eg_ref (X.1 σ q.1 q.2 x.toNatClampNeg))) := by
        have h9 := hI.2.2.2.2 q.1 q.2 x.toNatClampNeg hlv (by unfold eg_wid; rw [if_neg hk0]; exact hxn)
        cases hv9 : X.1 σ q.1 q.2 x.toNatClampNeg with
        | inl y => exact Or.inl rfl
        | inr y => rw [hv9] at h9; exact h9
      show W p l e R s m args below meth c H locs u.1 u.2 Q (F0 m pc LS (.int x :: eg_cv ad (.inr q) :: r.map (eg_cv ad)))
      rw [eg_cv_ref (hI.1 _ _ hlv).1]
      refine W.aald hx hb c1 c2 (by rw [hC5]; rfl) c3 (fun z => z.elim hx0 (fun z => by omega)) (v := eg_cv ad (.inr (eg_ref (X.1 σ q.1 q.2 x.toNatClampNeg)))) ?_ rfl rfl hd (K LS hl (hv.drop.drop.push hlive))
      rw [c6 _ hxn]
      unfold eg_nv
      rw [hkb]
      rfl
  · cases h
theorem eg_nx_len (hC : eg_Cx mi p s m meth c) (hd : decode (pm_b mi) pc = .ok (.arraylength, 1)) {g : Bool} (h : eg_len X pg_T (pc + 1) σ u ls st = some (g, .inl (pc2, σ2, u2, ls2, st2))) : eg_Nx X lv D A p l e R s m args below meth c Q mi pc σ u ls st pc2 σ2 u2 ls2 st2 := by
  obtain ⟨hx, hb, -, -, hown, -, -⟩ := hC
  unfold eg_len at h
  split at h
  · rename_i q r
    cases hq : Nat.beq (pg_T.2.2.1 q.1) 0 with
    | true => rw [hq] at h; cases h
    | false =>
      rw [hq] at h
      simp only [cond_false, Option.some.injEq, Prod.mk.injEq, Sum.inl.injEq] at h
      obtain ⟨-, rfl, rfl, rfl, rfl, rfl⟩ := h
      have hk0 : pg_ak q.1 ≠ 0 := fun h0 => by
        have : Nat.beq (pg_ak q.1) 0 = true := by rw [h0]; rfl
        rw [show Nat.beq (pg_T.2.2.1 q.1) 0 = Nat.beq (pg_ak q.1) 0 from rfl, this] at hq
        cases hq
      refine eg_Nx.same (fun ad H locs LS hS hI hl hv K => ?_)
      have hlv := eg_live_ak hv.top hk0
      obtain ⟨cell, c1, c2, c3, c4, c5, c6⟩ := eg_arr_of hI hlv hk0
      show W p l e R s m args below meth c H locs u.1 u.2 Q (F0 m pc LS (eg_cv ad (.inr q) :: r.map (eg_cv ad)))
      rw [eg_cv_ref (hI.1 _ _ hlv).1]
      exact W.alen hx hb c1 c2 c5 rfl rfl hd (K LS hl (hv.drop.push trivial))
  · cases h
end EGR2
