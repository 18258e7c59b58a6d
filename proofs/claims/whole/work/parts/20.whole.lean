/-! THE ENGINE IS RIGHT: the theorem -/
def eg_Tbl : Prop := ∀ (mi pc : Nat) (I : Jvm.ClassFile.Instr) (len a b : Nat), pg_ins mi pc = some (I, len, a, b) → decode (pm_b mi) pc = .ok (I, len) ∧ eg_site mi pc I a b ∧ ∀ k, eg_ln I = some k → len = k
section EGZ
variable {S : Type} (X : eg_X S) (lv : S → Nat → Nat → Prop)
def eg_Lmn : Prop := (∀ (σ : S) (k i j : Nat) (v : eg_V) (σ2 : S), X.2.2.1 σ k i j v = some σ2 → ∀ k2 i2, lv σ k2 i2 → lv σ2 k2 i2) ∧ (∀ (σ : S) (k n : Nat) (σ2 : S) (i : Nat), X.2.2.2.1 σ k n = some (σ2, i) → ∀ k2 i2, lv σ k2 i2 → lv σ2 k2 i2) ∧ (∀ (σ : S) (q : Nat × Nat) (sp : Nat) (d : Nat × Nat) (dp n : Nat) (σ2 : S), X.2.2.2.2 σ q sp d dp n = some σ2 → ∀ k2 i2, lv σ k2 i2 → lv σ2 k2 i2)
variable {X lv} {D : va_G} {A : Nat → Prop} {l : Launch}
theorem eg_ok_mono {mi : Nat} {σ σ2 : S} (hM : eg_Lmn X lv) (h : σ2 = σ ∨ (∃ k i j v, X.2.2.1 σ k i j v = some σ2) ∨ (∃ k n i, X.2.2.2.1 σ k n = some (σ2, i)) ∨ ∃ q sp d dp n, X.2.2.2.2 σ q sp d dp n = some σ2) : ∀ k i, lv σ k i → lv σ2 k i := by
  rcases h with rfl | ⟨k, i, j, v, h⟩ | ⟨k, n, i, h⟩ | ⟨q, sp, d, dp, n, h⟩
  · exact fun _ _ h => h
  · exact hM.1 _ _ _ _ _ _ h
  · exact hM.2.1 _ _ _ _ _ h
  · exact hM.2.2 _ _ _ _ _ _ _ h
theorem eg_ri_spec {a : Nat} {st : List eg_V} {g : Bool} {c : eg_R S} (h : (eg_ri a st : eg_O S) = some (g, c)) : ∃ x, st = [.inl x] ∧ g = eg_rf a x ∧ c = .inr (.inr (some (.inl x))) := by
  unfold eg_ri at h
  split at h
  · cases h; exact ⟨_, rfl, rfl, rfl⟩
  · cases h
theorem eg_ra_spec {st : List eg_V} {g : Bool} {c : eg_R S} (h : (eg_ra st : eg_O S) = some (g, c)) : ∃ q, st = [.inr q] ∧ c = .inr (.inr (some (.inr q))) := by
  unfold eg_ra at h
  split at h
  · cases h; exact ⟨_, rfl, rfl⟩
  · cases h
theorem eg_rv_spec {st : List eg_V} {g : Bool} {c : eg_R S} (h : (eg_rv st : eg_O S) = some (g, c)) : st = [] ∧ c = .inr (.inr none) := by
  unfold eg_rv at h
  split at h
  · cases h; exact ⟨rfl, rfl⟩
  · cases h
theorem eg_ip_mono (hM : eg_Lmn X lv) : ∀ (n mi pc : Nat) (σ : S) (u : Nat × Nat) (ls : eg_L) (st : List eg_V) (σ2 : S) (r : Option eg_V), eg_ip X pg_T n mi pc σ u ls st = some (σ2, r) → ∀ k i, lv σ k i → lv σ2 k i := by
  intro n
  induction n with
  | zero => intro mi pc σ u ls st σ2 r h; cases h
  | succ n ih =>
    intro mi pc σ u ls st σ2 r h k i hk
    rw [eg_ip] at h
    split at h
    · rename_i pc2 σ3 u2 ls2 st2 hst
      refine ih _ _ _ _ _ _ _ _ h k i ?_
      unfold eg_step at hst
      split at hst
      · rcases eg_do_shape hst with ⟨_, _, _, _, _, hc, hσ, -⟩ | ⟨idx, -, hc⟩ | ⟨idx, -, -, hc⟩ | ⟨-, hc⟩ | ⟨-, hc⟩ | ⟨-, hc⟩
        · cases hc
          exact eg_ok_mono (mi := mi) hM hσ k i hk
        · exact (eg_call_inl hc).elim
        · exact (eg_call_inl hc).elim
        · exact absurd hc eg_ret_inl.1
        · exact absurd hc (eg_ret_inl (a := 0)).2.1
        · exact absurd hc (eg_ret_inl (a := 0)).2.2
      · cases hst
    · split at h
      · rename_i h2
        exact ih _ _ _ _ _ _ _ _ h k i (ih _ _ _ _ _ _ _ _ h2 k i hk)
      · cases h
    · cases h; exact hk
    · cases h
theorem eg_rf_spec {a : Nat} {x : Int32} {mi : Nat} (h : eg_rf a x = true) (hs : (a = 1 ∧ pm_r mi = some .int) ∨ (a = 2 ∧ pm_r mi = some .boolean) ∨ (a = 3 ∧ pm_r mi = some .char) ∨ (a = 4 ∧ pm_r mi = some .byte)) : ∃ ty, pm_r mi = some ty ∧ narrow ty (.int x) = .int x := by
  rcases hs with ⟨rfl, h2⟩ | ⟨rfl, h2⟩ | ⟨rfl, h2⟩ | ⟨rfl, h2⟩
  · exact ⟨_, h2, rfl⟩
  · have h3 : x = 0 ∨ x = 1 := by simpa [eg_rf] using h
    rcases h3 with rfl | rfl <;> exact ⟨_, h2, rfl⟩
  · have h3 : x.toUInt32.toUInt16.toUInt32.toInt32 = x := by simpa [eg_rf] using h
    exact ⟨_, h2, by show Value.int x.toUInt32.toUInt16.toUInt32.toInt32 = _; rw [h3]⟩
  · have h3 : x.toInt8.toInt32 = x := by simpa [eg_rf] using h
    exact ⟨_, h2, by show Value.int x.toInt8.toInt32 = _; rw [h3]⟩
theorem eg_sound (hTb : eg_Tbl) (hLw : eg_Lwr X lv) (hLn : eg_Lnw X lv) (hLc : eg_Lcp X lv) (hLs : eg_Lst lv) (hM : eg_Lmn X lv) : ∀ n, eg_Snd X lv D A l n := by
  intro n
  induction n with
  | zero => intro mi pc σ u ls st σ2 r h; cases h
  | succ n IH =>
    intro mi pc σ u ls st σ2 r h hu1 hu2 p e s m args below meth c Q hC ad H locs LS hS hI hl hv K
    rw [eg_ip] at h
    cases hst : eg_step X pg_T mi pc σ u ls st with
    | none => rw [hst] at h; cases h
    | some gc =>
      obtain ⟨g, cc⟩ := gc
      rw [hst] at h
      unfold eg_step at hst
      cases hins : pg_T.1 mi pc with
      | none => rw [hins] at hst; cases hst
      | some q =>
        obtain ⟨I, len, a, b⟩ := q
        rw [hins] at hst
        replace hst : eg_do X pg_T I a b mi pc σ u ls st = some (g, cc) := hst
        obtain ⟨hd, hsite, hln⟩ := hTb mi pc I len a b hins
        cases g with
        | false => rcases cc with ⟨_, _, _, _, _⟩ | ⟨_, _, _, _⟩ | _ <;> cases h
        | true =>
          -- behind a call of j
          have behind : ∀ (j : Nat) (σ1 : S) (r1 : Option eg_V), eg_ip X pg_T n j 0 σ (0, 0) (eg_ent 0 (st.take (pg_mt j).1).reverse) [] = some (σ1, r1) → (Nat.ble (st.length - (pg_mt j).1) 8 && (Nat.ble (u.1 + (pg_mt j).2.1) (pg_mt mi).2.1 && Nat.ble (u.2 + (pg_mt j).2.2) (pg_mt mi).2.2)) = true → eg_ip X pg_T n mi (pc + 3) σ1 (u.1 + (pg_mt j).2.1, u.2 + (pg_mt j).2.2) ls (r1.toList ++ st.drop (pg_mt j).1) = some (σ2, r) →
              ∀ (ad2 : eg_A) (H2 : Heap) (locs2 : List Loc), (∀ k i, lv σ k i → ad2.1 k i = ad.1 k i) → ad2.2 = ad.2 → eg_Inv X lv D A s ad2 σ1 H2 locs2 → (∀ v, r1 = some v → eg_lvV lv σ1 v) → W p l e (pm_R mi) s m args below meth c H2 locs2 (u.1 + (pg_mt j).2.1) (u.2 + (pg_mt j).2.2) Q (F0 m (pc + 3) LS ((r1.toList ++ st.drop (pg_mt j).1).map (eg_cv ad2))) := by
            intro j σ1 r1 hj hg h9 ad2 H2 locs2 x1 x2 x3 x4
            simp only [Bool.and_eq_true] at hg
            have hmon := eg_ip_mono hM _ _ _ _ _ _ _ _ _ hj
            have hlvV : ∀ x, eg_lvV lv σ x → eg_lvV lv σ1 x := fun x hx => by
              cases x with
              | inl y => trivial
              | inr q => exact hx.elim Or.inl (fun z => Or.inr (z.elim Or.inl (fun z => Or.inr (hmon _ _ z))))
            refine IH mi (pc + 3) σ1 _ ls _ σ2 r h9 (Nat.le_of_ble_eq_true hg.2.1) (Nat.le_of_ble_eq_true hg.2.2) p e s m args below meth c Q hC ad2 H2 locs2 LS (hS.ext hLs σ x1 x2) x3 (by rw [eg_hl_ext hv.1 x1 x2]; exact hl) ⟨fun q hq => hlvV _ (hv.1 q hq), fun v hv9 => ?_⟩ (fun ad3 H3 locs3 LS3 u3 pcr y1 y2 y3 y4 y5 y6 y7 y8 => K ad3 H3 locs3 LS3 u3 pcr (fun k i hk => (y1 k i (hmon k i hk)).trans (x1 k i hk)) (y2.trans x2) y3 y4 y5 y6 y7 y8)
            rcases List.mem_append.mp hv9 with h8 | h8
            · cases r1 with
              | none => cases h8
              | some v1 => rw [List.mem_singleton.mp h8]; exact x4 v1 rfl
            · exact hlvV _ (hv.2 v (List.mem_of_mem_drop h8))
          rcases eg_do_shape hst with ⟨pc2, σ3, u3, ls3, st3, rfl, hσ, hu⟩ | ⟨idx, hI2, hcall⟩ | ⟨idx, rfl, hb99, hcall⟩ | ⟨rfl, hr⟩ | ⟨rfl, hr⟩ | ⟨rfl, hr⟩
          · have hmon := eg_ok_mono (mi := mi) hM hσ
            have hub : u3.1 ≤ (pg_mt mi).2.1 ∧ u3.2 ≤ (pg_mt mi).2.2 := by
              rcases hu with rfl | hu
              · exact ⟨hu1, hu2⟩
              · exact hu rfl
            exact eg_next hLw hLn hLc hLs hC rfl ⟨hu1, hu2⟩ hd hsite hln hst ad H locs LS hS hI hl hv (fun ad2 H2 locs2 LS2 x1 x2 x3 x4 x5 x6 => IH mi pc2 σ3 u3 ls3 st3 σ2 r h hub.1 hub.2 p e s m args below meth c Q hC ad2 H2 locs2 LS2 x3 x4 x5 x6 (fun ad3 H3 locs3 LS3 u4 pcr y1 y2 y3 y4 y5 y6 y7 y8 => K ad3 H3 locs3 LS3 u4 pcr (fun k i hk => (y1 k i (hmon k i hk)).trans (x1 k i hk)) (y2.trans x2) y3 y4 y5 y6 y7 y8))
          · obtain ⟨c1, c2, c3, rfl⟩ := eg_call_spec hcall
            replace h : (match eg_ip X pg_T n a 0 σ (0, 0) (eg_ent 0 (st.take (pg_mt a).1).reverse) [] with
              | some (σ', r) => eg_ip X pg_T n mi (pc + 3) σ' (u.1 + (pg_mt a).2.1, u.2 + (pg_mt a).2.2) ls (r.toList ++ st.drop (pg_mt a).1)
              | none => none) = some (σ2, r) := h
            split at h
            · rename_i σ1 r1 hj
              rcases hI2 with rfl | ⟨rfl, hb99⟩
              · cases hln _ rfl
                exact eg_call_V IH hC hd hsite c1 c2 c3.symm hj hS hI hl hv (behind a σ1 r1 hj c3.symm h)
              · cases hln _ rfl
                exact eg_call_I IH hC hd ((hsite.resolve_left (fun z => hb99 z.1)).2) c1 c2 c3.symm hj hS hI hl hv (behind a σ1 r1 hj c3.symm h)
            · cases h
          · obtain ⟨c1, c2, c3, rfl⟩ := eg_call_spec hcall
            replace h : (match eg_ip X pg_T n a 0 σ (0, 0) (eg_ent 0 (st.take (pg_mt a).1).reverse) [] with
              | some (σ', r) => eg_ip X pg_T n mi (pc + 3) σ' (u.1 + (pg_mt a).2.1, u.2 + (pg_mt a).2.2) ls (r.toList ++ st.drop (pg_mt a).1)
              | none => none) = some (σ2, r) := h
            split at h
            · rename_i σ1 r1 hj
              cases hln _ rfl
              exact eg_call_S IH hC hd ((((hsite.resolve_left (fun z => hb99.1 z.1)).resolve_left (fun z => hb99.2.1 z.1)).resolve_left (fun z => hb99.2.2 z.1)).2) c1 c3.symm hj hS hI hl hv (behind a σ1 r1 hj c3.symm h)
            · cases h
          · obtain ⟨x, rfl, hg, rfl⟩ := eg_ri_spec hr
            cases hln _ rfl
            cases h
            obtain ⟨ty, t1, t2⟩ := eg_rf_spec hg.symm hsite
            exact K ad H locs LS u pc (fun _ _ _ => rfl) rfl hS hI (fun v hv9 => by cases hv9; trivial) hu1 hu2 (Or.inr (Or.inl ⟨x, ty, rfl, t1, t2, hd⟩))
          · obtain ⟨q, rfl, rfl⟩ := eg_ra_spec hr
            cases hln _ rfl
            cases h
            obtain ⟨rt, t1, t2⟩ := hsite
            exact K ad H locs LS u pc (fun _ _ _ => rfl) rfl hS hI (fun v hv9 => by cases hv9; exact hv.top) hu1 hu2 (Or.inr (Or.inr ⟨q, rt, rfl, t1, t2, hd⟩))
          · obtain ⟨rfl, rfl⟩ := eg_rv_spec hr
            cases hln _ rfl
            cases h
            exact K ad H locs LS u pc (fun _ _ _ => rfl) rfl hS hI (fun v hv9 => by cases hv9) hu1 hu2 (Or.inl ⟨rfl, hsite, hd⟩)
end EGZ
