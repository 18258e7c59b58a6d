/-! STEPS that write -/
section EGW
variable {S : Type} (X : eg_X S) (lv : S → Nat → Nat → Prop)
def eg_Lwr : Prop := ∀ (σ : S) (k i j : Nat) (v : eg_V) (σ2 : S), lv σ k i → j < eg_wid X σ k i → eg_lvV lv σ v → X.2.2.1 σ k i j v = some σ2 → k < 50 ∧ (∀ k2 i2, lv σ2 k2 i2 ↔ lv σ k2 i2) ∧ (∀ k2 i2, X.2.1 σ2 k2 i2 = X.2.1 σ k2 i2) ∧ ∀ k2 i2 j2, lv σ k2 i2 → X.1 σ2 k2 i2 j2 = if k2 = k ∧ i2 = i ∧ j2 = j then v else X.1 σ k2 i2 j2
variable {X lv} {D : va_G} {A : Nat → Prop}
variable {p : Program} {l : Launch} {e : Env} {R : Room} {s : State} {m : MethodId} {args : Array Value} {below : List Frame} {meth : Method} {c : Code} {Q : State → Prop} {mi pc pc2 : Nat} {σ σ2 : S} {u u2 : Nat × Nat} {ls ls2 : eg_L} {st st2 : List eg_V} {ad : eg_A} {H H2 : Heap} {locs locs2 : List Loc}
theorem eg_arr.kept {U : State} {ty : FieldType} {a n : Nat} {f g : Nat → Value} (h : eg_arr U ty a n f H) (hq : H2[a]? = H[a]?) (hf : ∀ j, j < n → g j = f j) : eg_arr U ty a n g H2 := by
  obtain ⟨cell, c1, c2, c3, c4, c5, c6⟩ := h
  exact ⟨cell, by rw [hq]; exact c1, c2, c3, c4, c5, fun j hj => by rw [hf j hj]; exact c6 j hj⟩
theorem eg_fld.kept {U : State} {b j a : Nat} {v : Value} (h : eg_fld U b j a v H) (hq : H2[a]? = H[a]?) : eg_fld U b j a v H2 := by
  obtain ⟨cf, kf, fi, f, cell, f1, f2, f3, f4⟩ := h
  exact ⟨cf, kf, fi, f, cell, f1, f2, by rw [hq]; exact f3, f4⟩
theorem eg_mem.kept {U : State} {ad2 : eg_A} {k i : Nat} (h : eg_mem X D U ad σ k i H) (ha : ad2.1 k i = ad.1 k i) (hq : H2[ad.1 k i]? = H[ad.1 k i]?) (hz : X.2.1 σ2 k i = X.2.1 σ k i) (hr : ∀ j, j < eg_wid X σ k i → eg_cv ad2 (X.1 σ2 k i j) = eg_cv ad (X.1 σ k i j)) (hn : ∀ j, j < eg_wid X σ k i → eg_cv ad2 (eg_nv (pg_ak k) (X.1 σ2 k i j)) = eg_cv ad (eg_nv (pg_ak k) (X.1 σ k i j))) : eg_mem X D U ad2 σ2 k i H2 := by
  unfold eg_mem at h ⊢
  unfold eg_wid at hr hn
  by_cases h0 : pg_ak k = 0
  · rw [if_pos h0] at h hr hn ⊢
    by_cases h5 : k < 50
    · rw [if_pos h5] at h ⊢
      have e1 : (List.range (pg_nf (pg_kc k))).map (fun j => eg_cv ad2 (X.1 σ2 k i j)) = (List.range (pg_nf (pg_kc k))).map (fun j => eg_cv ad (X.1 σ k i j)) := List.map_congr_left (fun j hj => hr j (List.mem_range.mp hj))
      rw [e1, ha]
      exact va_at.kept h hq
    · rw [if_neg h5] at h ⊢
      rw [ha]
      obtain ⟨⟨cell, c1, c2⟩, h2⟩ := h
      exact ⟨⟨cell, by rw [hq]; exact c1, c2⟩, fun j hj => by rw [hr j hj]; exact (h2 j hj).kept hq⟩
  · rw [if_neg h0] at h hr hn ⊢
    rw [ha, hz]
    exact ⟨h.1.kept hq hn, fun h8 => by rw [hq]; exact h.2 h8⟩
theorem eg_Inv.write {k i j : Nat} {v : eg_V} (hL : eg_Lwr X lv) (hI : eg_Inv X lv D A s ad σ H locs) (hlv : lv σ k i) (hj : j < eg_wid X σ k i) (hv : eg_lvV lv σ v) (hw : X.2.2.1 σ k i j v = some σ2)
    (hnew : eg_mem X D s ad σ2 k i H2) (hoq : ∀ q, q ≠ ad.1 k i → H2[q]? = H[q]?) (hS2 : va_S A s.heap H2 locs2) : eg_Inv X lv D A s ad σ2 H2 locs2 := by
  obtain ⟨hk, w1, w2, w3⟩ := hL σ k i j v σ2 hlv hj hv hw
  obtain ⟨i1, i2, i3, i4, i5⟩ := hI
  refine ⟨fun k2 i2' h2 => ?_, fun k2 i2' h2 => i2 k2 i2' ((w1 _ _).mp h2), fun k2 i2' k3 i3' h2 h3 => i3 k2 i2' k3 i3' ((w1 _ _).mp h2) ((w1 _ _).mp h3), hS2, fun k2 i2' j2 h2 hj2 => ?_⟩
  · have h2' := (w1 _ _).mp h2
    refine ⟨(i1 k2 i2' h2').1, ?_⟩
    by_cases hk2 : k2 = k ∧ i2' = i
    · obtain ⟨rfl, rfl⟩ := hk2
      exact hnew
    · have hne : ad.1 k2 i2' ≠ ad.1 k i := fun e => hk2 (by have := i3 k i k2 i2' hlv h2' (Or.inl hk) e.symm; exact ⟨this.1.symm, this.2.symm⟩)
      have hrd : ∀ j2, X.1 σ2 k2 i2' j2 = X.1 σ k2 i2' j2 := fun j2 => by rw [w3 k2 i2' j2 h2', if_neg (fun z => hk2 ⟨z.1, z.2.1⟩)]
      exact (i1 k2 i2' h2').2.kept rfl (hoq _ hne) (w2 _ _) (fun j2 _ => by rw [hrd]) (fun j2 _ => by rw [hrd])
  · have h2' := (w1 _ _).mp h2
    have hlvV : ∀ x, eg_lvV lv σ x → eg_lvV lv σ2 x := fun x hx => by
      cases x with
      | inl y => trivial
      | inr q => exact hx.elim Or.inl (fun z => Or.inr (z.elim Or.inl (fun z => Or.inr ((w1 _ _).mpr z))))
    have hj3 : j2 < eg_wid X σ k2 i2' := by unfold eg_wid at hj2 ⊢; rw [w2] at hj2; exact hj2
    rw [w3 k2 i2' j2 h2']
    split
    · exact hlvV v hv
    · exact hlvV _ (i5 k2 i2' j2 h2' hj3)
theorem eg_LV.wrote {k i j : Nat} {v : eg_V} (hL : eg_Lwr X lv) (hlv : lv σ k i) (hj : j < eg_wid X σ k i) (hv : eg_lvV lv σ v) (hw : X.2.2.1 σ k i j v = some σ2) (h : eg_LV lv σ ls st) : eg_LV lv σ2 ls st := by
  obtain ⟨hk, w1, w2, w3⟩ := hL σ k i j v σ2 hlv hj hv hw
  have hlvV : ∀ x, eg_lvV lv σ x → eg_lvV lv σ2 x := fun x hx => by
    cases x with
    | inl y => trivial
    | inr q => exact hx.elim Or.inl (fun z => Or.inr (z.elim Or.inl (fun z => Or.inr ((w1 _ _).mpr z))))
  exact ⟨fun q hq => hlvV _ (h.1 q hq), fun w hw => hlvV _ (h.2 w hw)⟩
/-- a value of the field's type -/
theorem eg_fit_spec {t : Nat} {v : eg_V} {ty : FieldType} (hz : eg_zk ad) (ht : (t = 1 ∧ ty = .int) ∨ (t = 2 ∧ ty = .boolean) ∨ (t = 4 ∧ ty = .byte) ∨ (t = 3 ∧ ty.isReference = true)) (h : eg_fit t v = true) : narrow ty (eg_cv ad v) = eg_cv ad v ∧ fits ty (eg_cv ad v) = true := by
  cases v with
  | inl x =>
    show narrow ty (.int x) = .int x ∧ fits ty (.int x) = true
    rcases ht with ⟨rfl, rfl⟩ | ⟨rfl, rfl⟩ | ⟨rfl, rfl⟩ | ⟨rfl, ht⟩
    · exact ⟨rfl, rfl⟩
    · have h2 : x = 0 ∨ x = 1 := by simpa [eg_fit] using h
      rcases h2 with rfl | rfl <;> exact ⟨rfl, rfl⟩
    · have h2 : x.toInt8.toInt32 = x := by simpa [eg_fit] using h
      rw [← h2]
      exact ⟨pk_nb x, pk_fb x⟩
    · simp [eg_fit] at h
  | inr q =>
    rcases ht with ⟨rfl, rfl⟩ | ⟨rfl, rfl⟩ | ⟨rfl, rfl⟩ | ⟨rfl, ht⟩
    · cases h
    · cases h
    · cases h
    · rcases eg_cv_r hz q with e | ⟨t, e⟩ <;> rw [e] <;> cases ty <;> first | (exact ⟨rfl, rfl⟩) | cases ht
theorem eg_nx_pf {a b idx : Nat} (hL : eg_Lwr X lv) (hC : eg_Cx mi p s m meth c) (hd : decode (pm_b mi) pc = .ok (.putfield idx, 3)) (hs : eg_fs mi idx b a) (hb1 : 1 ≤ b) (hb2 : b ≤ 10) (hfin : ((pm_c b).2.1 a).2.2.2 = true → (pm_y mi).name = "<init>" ∧ ((pm_c b).2.1 a).1 = eg_own mi ∧ Jvm.Cond.fieldLink (eg_own mi) idx ((pm_c b).2.1 a).1 ((pm_c b).2.1 a).2.1 ((pm_c b).2.1 a).2.2.1 ∈ eg_tbl)
    (h : eg_pf X pg_T a b (pc + 3) σ u ls st = some (true, .inl (pc2, σ2, u2, ls2, st2))) : eg_Nx X lv D A p l e R s m args below meth c Q mi pc σ u ls st pc2 σ2 u2 ls2 st2 := by
  obtain ⟨hx, hb, -, -, hown, -, hname⟩ := hC
  unfold eg_pf at h
  split at h
  · rename_i v q r
    cases hq : Nat.beq (pg_T.2.1 q.1) b with
    | false => rw [hq] at h; cases h
    | true =>
      rw [hq] at h
      simp only [cond_true] at h
      split at h
      · rename_i σ3 hw
        simp only [Option.some.injEq, Prod.mk.injEq, Sum.inl.injEq] at h
        obtain ⟨hfit, rfl, rfl, rfl, rfl, rfl⟩ := h
        have hkb : pg_kc q.1 = b := Nat.eq_of_beq_eq_true hq
        subst hkb
        have hk0 : pg_kc q.1 ≠ 0 := by omega
        have ha0 := pg_kc_ak _ hk0
        intro ad H locs LS hS hI hl hv K
        have hlv := eg_live_kc hv.drop.top hk0
        have hj : a < eg_wid X σ q.1 q.2 := by unfold eg_wid; rw [if_pos ha0]; exact hs.1
        have hlvv := hv.top
        have hk50 : q.1 < 50 := (hL _ _ _ _ _ _ hlv hj hlvv hw).1
        have hm := (hI.1 _ _ hlv).2
        unfold eg_mem at hm
        rw [if_pos ha0, if_pos hk50] at hm
        obtain ⟨r9, h1, cell, q1, q2, q3, q4⟩ := hm
        have he : pg_kc q.1 - 1 + 1 = pg_kc q.1 := by omega
        have hr : r9 = pm_c (pg_kc q.1) := by
          have := (pm_cl_at (pg_kc q.1 - 1) (by omega)).symm.trans h1
          rw [he] at this
          exact (Option.some.inj this).symm
        subst hr
        obtain ⟨hSl, hfc, kC, hkC, hkind⟩ := hS.1.1 _ _ h1
        have hN : (pm_c (pg_kc q.1)).2.2 = pg_nf (pg_kc q.1) := pm_nf _ (by omega)
        have hj' : a < (pm_c (pg_kc q.1)).2.2 := by rw [hN]; exact hs.1
        obtain ⟨cf, kf, fi, f, hi, hsl⟩ := hSl a hj'
        have hts := eg_hts hS.2.1 hb1 hb2 args
        have hlays := u_lays hts (fun _ h => h) hj'
        have hst := (u_facts hfc hkC hlays hi).1
        obtain ⟨hdesc, hty⟩ := pm_fty (pg_kc q.1) (by omega) hb1 a hs.1
        obtain ⟨hn1, hn2⟩ := eg_fit_spec hS.2.2.2.2.1 hty hfit
        have hap := va_apart (D := D) (cl := pm_cl) (tys := []) (own := "") hts (fun _ h => h) (pm_ty (pg_kc q.1)) (fun k hk => (pm_fty (pg_kc q.1) (by omega) hb1 k (by rw [← hN]; exact hk)).1) (fun x hx y hy => pm_fnm (pg_kc q.1) (by omega) hb1 x (by rw [← hN]; exact hx) y (by rw [← hN]; exact hy)) hS.1 h1
        have hlen : a < ((List.range (pg_nf (pg_kc q.1))).map (fun j => eg_cv ad (X.1 σ q.1 q.2 j))).length := by simpa using hs.1
        have hAq : A (ad.1 q.1 q.2) := (hI.2.1 _ _ hlv).mpr hk50
        have fin : ∀ (H2 : Heap) (lc : List Loc), lc = locs ++ [⟨ad.1 q.1 q.2, f.slot⟩] → H2[ad.1 q.1 q.2]? = some (cell.setSlot f.slot (eg_cv ad v)) → H2.size = H.size → (∀ q9, q9 ≠ ad.1 q.1 q.2 → H2[q9]? = H[q9]?) → W p l e R s m args below meth c H2 lc u.1 u.2 Q (F0 m (pc + 3) LS (r.map (eg_cv ad))) := by
          intro H2 lc hlc e1 e2 e3
          subst hlc
          have hnew : eg_mem X D s ad σ3 q.1 q.2 H2 := by
            unfold eg_mem
            rw [if_pos ha0, if_pos hk50]
            rw [hsl] at e1
            refine ⟨_, h1, t_OB.to (V := updV (vp_V ((List.range (pg_nf (pg_kc q.1))).map (fun j => eg_cv ad (X.1 σ q.1 q.2 j)))) a (eg_cv ad v)) ⟨_, e1, q2, q3, t_set q4 hap hj' _⟩ (fun j hj9 => ?_)⟩
            have hj8 : j < pg_nf (pg_kc q.1) := by rw [← hN]; exact hj9
            obtain ⟨-, -, -, w3⟩ := hL _ _ _ _ _ _ hlv hj hlvv hw
            simp only [vp_V, updV, List.getD_eq_getElem?_getD, List.getElem?_map, List.getElem?_range hj8, Option.map_some, Option.getD_some, w3 q.1 q.2 j hlv]
            by_cases hja : j = a
            · simp [hja]
            · simp [hja]
          exact K ad H2 _ LS (fun _ _ _ => rfl) rfl hS (hI.write hL hlv hj hlvv hw hnew e3 (hI.2.2.2.1.put e2 e3 hAq)) hl (hv.drop.drop.wrote hL hlv hj hlvv hw)
        show W p l e R s m args below meth c H locs u.1 u.2 Q (F0 m pc LS (eg_cv ad v :: eg_cv ad (.inr q) :: r.map (eg_cv ad)))
        rw [eg_cv_ref (hI.1 _ _ hlv).1]
        cases hf : ((pm_c (pg_kc q.1)).2.1 a).2.2.2 with
        | true =>
          obtain ⟨g1, g2, g3⟩ := hfin hf
          have hlay := hts _ (u_in_lay hj')
          unfold u_lay at hlay
          rw [if_pos hf] at hlay
          have hcf : m.cls = cf := by
            obtain ⟨_, _, c', _, _, _, -, -, hf', -, -, -, hown2, -⟩ := Cond.laysFinal_spec hlay
            have e1 : c' = cf := by have := hi.symm.trans hf'; simp at this; exact this.1.symm
            rw [g2] at hown2
            rw [← e1]; exact Option.some.inj (hown.symm.trans hown2)
          have h6 := u_fits hfc hkC hkind (Or.inr hlay) hi hdesc hn1 hn2
          exact W.putFinK hx hb hown (hS.2.1.use g3 rfl) hi hst hcf (by rw [hname]; exact g1) (by rw [q2]; exact h6) q1 q3 (by rw [hsl]; exact k2_hasslot (q4 a hj')) rfl rfl hd (fun H2 e1 e2 e3 => fin H2 _ rfl e1 e2 e3)
        | false =>
          have hlay := hts _ (u_in_lay hj')
          unfold u_lay at hlay
          rw [if_neg (by rw [hf]; decide)] at hlay
          have h6 := u_store hfc hkC hkind hlay hi hdesc hn1 hn2
          rcases hs.2 with hw9 | ⟨host, hw9⟩
          · exact W.putK hx hb (f := f) ⟨hown, hS.2.1.use hw9 rfl, ⟨_, _, _, hi⟩, hst⟩ (by rw [q2]; exact h6) q1 q3 (by rw [hsl]; exact k2_hasslot (q4 a hj')) rfl rfl hd (fun H2 e1 e2 e3 => fin H2 _ rfl e1 e2 e3)
          · exact va_WputK hx hb (f := f) hown (hS.2.1.use hw9 rfl) hi hst (by rw [q2]; exact h6) q1 q3 (by rw [hsl]; exact k2_hasslot (q4 a hj')) rfl rfl hd (fun H2 e1 e2 e3 => fin H2 _ rfl e1 e2 e3)
      · cases h
  · cases h
end EGW
