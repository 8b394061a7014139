/-! items: stored, erased -/
theorem acB_n {n0 n1 a b c : Nat} (ha : a + c ≤ n0) (hb : b + c ≤ n1) (h0 : n0 < 2 ^ 31) (h1 : n1 < 2 ^ 31) : acB n0 n1 (nI a) (nI b) (nI c) = true := by
  unfold acB
  rw [nI_clamp (by omega), nI_clamp (by omega), nI_clamp (by omega)]
  simp [nI_neg (a := a) (by omega), nI_neg (a := b) (by omega), nI_neg (a := c) (by omega), ha, hb]
/-- g is f with a put in at p -/
def Ins {α : Type} (f g : Nat → α) (p T : Nat) (a : α) : Prop := (∀ j, j < p → g j = f j) ∧ g p = a ∧ ∀ j, p ≤ j → j < T → g (j + 1) = f j
theorem ins_pair {α β : Type} {f g : Nat → α} {f' g' : Nat → β} {p T : Nat} {a : α} {b : β} (h : Ins f g p T a) (h' : Ins f' g' p T b) : Ins (fun k => (f k, f' k)) (fun k => (g k, g' k)) p T (a, b) :=
  ⟨fun j hj => Prod.ext (h.1 j hj) (h'.1 j hj), Prod.ext h.2.1 h'.2.1, fun j j1 j2 => Prod.ext (h.2.2 j j1 j2) (h'.2.2 j j1 j2)⟩
theorem ins_perm {α : Type} {f g : Nat → α} {p : Nat} {a : α} : ∀ {T : Nat}, p ≤ T → Ins f g p T a → ((List.range (T + 1)).map g).Perm (a :: (List.range T).map f)
  | T, hp, ⟨h1, h2, h3⟩ => by
    rcases Nat.lt_or_ge p T with w | w
    · obtain ⟨T, rfl⟩ : ∃ d, T = d + 1 := ⟨T - 1, by omega⟩
      have ih := ins_perm (f := f) (g := g) (p := p) (a := a) (T := T) (by omega) ⟨h1, h2, fun j j1 j2 => h3 j j1 (by omega)⟩
      have el : (List.range (T + 1 + 1)).map g = (List.range (T + 1)).map g ++ [g (T + 1)] := by rw [List.range_succ, List.map_append]; rfl
      have er : (List.range (T + 1)).map f = (List.range T).map f ++ [f T] := by rw [List.range_succ, List.map_append]; rfl
      rw [el, er, h3 T (by omega) (by omega), ← List.cons_append]
      exact ih.append_right _
    · have e : p = T := by omega
      subst e
      rw [List.range_succ, List.map_append]
      have e1 : (List.range p).map g = (List.range p).map f := List.map_congr_left (fun j hj => h1 j (List.mem_range.mp hj))
      rw [e1, show List.map g [p] = [a] from by show [g p] = [a]; rw [h2]]
      exact List.perm_append_singleton a _
theorem IV_items {σ τ : Nat → Nat → Int32} (I : IV σ) {T : Nat} (h0 : ∀ k, ¬ k = 9 → τ 0 k = σ 0 k) (h9 : τ 0 9 = nI T) (hT : T ≤ 64) (hq : ∀ q, ¬ q = 0 → ¬ q = 15 → ¬ q = 16 → τ q = σ q) (hI : ∀ k, k < T → IVi τ k) (hK : ∀ k, k + 1 < T → iK τ k < iK τ (k + 1)) : IV τ := by
  have e1 : nN τ = nN σ := by unfold nN; rw [h0 6 (by decide)]
  have e2 : nU τ = nU σ := by unfold nU; rw [h0 7 (by decide)]
  have e3 : nR τ = nR σ := by unfold nR; rw [h0 8 (by decide)]
  have e4 : nT τ = T := by unfold nT; rw [h9, tn_n (by omega)]
  have e5 : nM τ = nM σ := by unfold nM; rw [h0 10 (by decide)]
  have e6 : nZ τ = nZ σ := by funext k; unfold nZ; rw [hq 7 (by decide) (by decide) (by decide)]
  have e7 : nS τ = nS σ := by funext k; unfold nS; rw [hq 9 (by decide) (by decide) (by decide)]
  have e8 : nV τ = nV σ := by funext k; unfold nV; rw [hq 10 (by decide) (by decide) (by decide)]
  have e10 : sK τ = sK σ := by funext k; unfold sK; rw [hq 17 (by decide) (by decide) (by decide)]
  have hr : ∀ r, r < nR σ → IVr τ r := fun r hr => by
    unfold IVr
    rw [e1, e7, e8, hq 9 (by decide) (by decide) (by decide), hq 10 (by decide) (by decide) (by decide), hq 11 (by decide) (by decide) (by decide), hq 12 (by decide) (by decide) (by decide), hq 14 (by decide) (by decide) (by decide)]
    exact I.r r hr
  unfold IV
  rw [h0 6 (by decide), h0 7 (by decide), h0 8 (by decide), h9, h0 10 (by decide), h0 5 (by decide), hq 7 (by decide) (by decide) (by decide), hq 17 (by decide) (by decide) (by decide), e1, e2, e3, e4, e5, e6, e7, e10]
  exact ⟨I.N, I.U, I.Z, I.R, hr, I.S, ⟨rfl, hT⟩, hI, hK, I.M, I.m, I.P⟩
theorem EQ_items {σ τ : Nat → Nat → Int32} {s t : Nat → Int32} (I : IV σ) (E : EQ σ s) {T : Nat} (h0 : ∀ k, ¬ k = 9 → τ 0 k = σ 0 k) (h9 : τ 0 9 = nI T) (hq : ∀ q, ¬ q = 0 → ¬ q = 15 → ¬ q = 16 → τ q = σ q) (ht : ∀ k, (k < 43 ∨ 171 ≤ k) → ¬ k = 16 → t k = s k) (t16 : t 16 = nI T) (hp : (mI t).Perm (gI τ)) : EQ τ t := by
  have hN := I.N.2
  have e1 : nN τ = nN σ := by unfold nN; rw [h0 6 (by decide)]
  have e2 : nU τ = nU σ := by unfold nU; rw [h0 7 (by decide)]
  have e3 : nR τ = nR σ := by unfold nR; rw [h0 8 (by decide)]
  have e5 : nM τ = nM σ := by unfold nM; rw [h0 10 (by decide)]
  unfold EQ
  rw [hq 6 (by decide) (by decide) (by decide), hq 7 (by decide) (by decide) (by decide), hq 8 (by decide) (by decide) (by decide), hq 17 (by decide) (by decide) (by decide), e1, e2, e3, e5, h9, h0 11 (by decide), h0 6 (by decide), h0 8 (by decide), h0 10 (by decide)]
  exact ⟨fun k hk => by rw [ht k (by omega) (by omega), h0 k (by omega)]; exact E.st k hk, by rw [ht 6 (by decide) (by decide)]; exact E.ti, fun a h1 h2 => by rw [ht _ (by omega) (by omega)]; exact E.pf a h1 h2, by rw [ht 15 (by decide) (by decide)]; exact E.N, t16, by rw [ht 17 (by decide) (by decide)]; exact E.R, by rw [ht 18 (by decide) (by decide)]; exact E.M, fun k hk => by rw [ht _ (by omega) (by omega), ht _ (by omega) (by omega), ht _ (by omega) (by omega)]; exact E.n k hk, fun r hr w hw => by rw [ht _ (by omega) (by omega), hq _ (by omega) (by omega) (by omega)]; exact E.r r hr w hw, fun k hk => by rw [ht _ (by omega) (by omega)]; exact E.m k hk, hp⟩
theorem k_storeN {σ : Nat → Nat → Int32} (I : IV σ) {key p : Nat} {z : Int32} (hk : key ≤ 9999) (hp : plc σ key p) (hpl : f_X3_placeOf σ (nI key) = some (nI p)) (hno : ∀ p, p < nT σ → ¬ iK σ p = key) (hT : nT σ < 64) : ∃ τ, f_X3_store σ (nI key) z = some τ ∧ (∀ k, ¬ k = 9 → τ 0 k = σ 0 k) ∧ τ 0 9 = nI (nT σ + 1) ∧ (∀ q, ¬ q = 0 → ¬ q = 15 → ¬ q = 16 → τ q = σ q) ∧ Ins (σ 15) (τ 15) p (nT σ) (nI key) ∧ Ins (σ 16) (τ 16) p (nT σ) z := by
  have hpT := hp.1
  have e0 : ∀ f, cr σ 15 f 0 9 = nI (nT σ) := fun f => I.T.1
  have e1 : nI (nT σ) - nI p = nI (nT σ - p) := pk_sub hpT
  have e2 : ∀ f g k v, cu (cr (cr σ 15 f) 16 g) 15 k v 0 9 = nI (nT σ) := fun f g k v => I.T.1
  unfold f_X3_store f_X3_store_84
  rw [hpl, bd_s, k_isAt I (by omega) hpT, bd_s, show decide (p < nT σ ∧ iK σ p = key) = false by simp; exact fun w => hno p w, bi_if, cond_false, I.T.1, show (64 : Int32) = nI 64 from rfl, if_lt (by omega) (by omega), if_pos hT, e0, e1, nI_1, acB_n (by omega) (by omega) (by decide) (by decide), nI_clamp (by omega), nI_clamp (by omega), nI_clamp (by omega), sd_n (by omega) (by decide), sd_n (by omega) (by decide), e2, nI_1]
  refine ⟨_, rfl, fun k hk => ?_, rfl, fun q h0 h1 h2 => ?_, ⟨fun j hj => ?_, ?_, fun j j1 j2 => ?_⟩, ⟨fun j hj => ?_, ?_, fun j j1 j2 => ?_⟩⟩
  · rw [cu_ne (by decide), cu_eq, up_ne hk]
    rfl
  · rw [cu_ne h2, cu_ne h0, cu_ne h1]
    unfold cr
    have b1 : Nat.beq q 16 = false := by
      cases e : Nat.beq q 16 with
      | false => rfl
      | true => exact absurd (Nat.eq_of_beq_eq_true e) h2
    have b2 : Nat.beq q 15 = false := by
      cases e : Nat.beq q 15 with
      | false => rfl
      | true => exact absurd (Nat.eq_of_beq_eq_true e) h1
    rw [b1, b2]
    rfl
  · show upd (va_cpy (σ 15) (σ 15) p (p + 1) (nT σ - p)) p (nI key) j = _
    rw [up_ne (by omega)]
    unfold va_cpy
    rw [if_neg (by omega)]
  · show upd (va_cpy (σ 15) (σ 15) p (p + 1) (nT σ - p)) p (nI key) p = _
    exact up_eq
  · show upd (va_cpy (σ 15) (σ 15) p (p + 1) (nT σ - p)) p (nI key) (j + 1) = _
    rw [up_ne (by omega)]
    unfold va_cpy
    rw [if_pos (by omega), show p + (j + 1 - (p + 1)) = j by omega]
  · show upd (va_cpy (σ 16) (σ 16) p (p + 1) (nT σ - p)) p z j = _
    rw [up_ne (by omega)]
    unfold va_cpy
    rw [if_neg (by omega)]
  · show upd (va_cpy (σ 16) (σ 16) p (p + 1) (nT σ - p)) p z p = _
    exact up_eq
  · show upd (va_cpy (σ 16) (σ 16) p (p + 1) (nT σ - p)) p z (j + 1) = _
    rw [up_ne (by omega)]
    unfold va_cpy
    rw [if_pos (by omega), show p + (j + 1 - (p + 1)) = j by omega]
theorem k_erase {σ : Nat → Nat → Int32} (I : IV σ) {key p : Nat} (hk : key ≤ 9999) (hpl : f_X3_placeOf σ (nI key) = some (nI p)) (hpT : p < nT σ) (hpk : iK σ p = key) : ∃ τ, f_X3_erase σ (nI key) = some τ ∧ (∀ k, ¬ k = 9 → τ 0 k = σ 0 k) ∧ τ 0 9 = nI (nT σ - 1) ∧ (∀ q, ¬ q = 0 → ¬ q = 15 → ¬ q = 16 → τ q = σ q) ∧ Ins (τ 15) (σ 15) p (nT σ - 1) (σ 15 p) ∧ Ins (τ 16) (σ 16) p (nT σ - 1) (σ 16 p) := by
  have hT := I.T.2
  have e1 : nI (nT σ) - 1 = nI (nT σ - 1) := pk_sub (b := 1) (by omega)
  have e0 : ∀ v, cu σ 0 9 v 0 9 = v := fun v => rfl
  have e3 : ∀ v f, cr (cu σ 0 9 v) 15 f 0 9 = v := fun v f => rfl
  have e2 : nI (nT σ - 1) - nI p = nI (nT σ - 1 - p) := pk_sub (by omega)
  unfold f_X3_erase
  rw [hpl, bd_s, k_isAt I (by omega) (by omega), bd_s, show decide (p < nT σ ∧ iK σ p = key) = true by simp; exact ⟨hpT, hpk⟩, bi_if, cond_true, e3, e0, I.T.1, e1, e2, nI_1, acB_n (by omega) (by omega) (by decide) (by decide), nI_clamp (by omega), nI_clamp (by omega), nI_clamp (by omega)]
  refine ⟨_, rfl, fun k hk => ?_, rfl, fun q h0 h1 h2 => ?_, ⟨fun j hj => ?_, rfl, fun j j1 j2 => ?_⟩, ⟨fun j hj => ?_, rfl, fun j j1 j2 => ?_⟩⟩
  · show upd (σ 0) 9 _ k = _
    exact up_ne hk
  · unfold cr
    have b1 : Nat.beq q 16 = false := by
      cases e : Nat.beq q 16 with
      | false => rfl
      | true => exact absurd (Nat.eq_of_beq_eq_true e) h2
    have b2 : Nat.beq q 15 = false := by
      cases e : Nat.beq q 15 with
      | false => rfl
      | true => exact absurd (Nat.eq_of_beq_eq_true e) h1
    rw [b1, b2]
    exact cu_ne h0
  · show _ = va_cpy (σ 15) (σ 15) (p + 1) p (nT σ - 1 - p) j
    unfold va_cpy
    rw [if_neg (by omega)]
  · show _ = va_cpy (σ 15) (σ 15) (p + 1) p (nT σ - 1 - p) j
    unfold va_cpy
    rw [if_pos (by omega), show p + 1 + (j - p) = j + 1 by omega]
  · show _ = va_cpy (σ 16) (σ 16) (p + 1) p (nT σ - 1 - p) j
    unfold va_cpy
    rw [if_neg (by omega)]
  · show _ = va_cpy (σ 16) (σ 16) (p + 1) p (nT σ - 1 - p) j
    unfold va_cpy
    rw [if_pos (by omega), show p + 1 + (j - p) = j + 1 by omega]
/-! the pair after a put -/
theorem i_storeN {σ : Nat → Nat → Int32} {s : Nat → Int32} (h : Pr σ s) {key z p : Nat} (hk : key ≤ 9999) (z1 : 1 ≤ z) (z2 : z ≤ 99) (hp : plc σ key p) (hpl : f_X3_placeOf σ (nI key) = some (nI p)) (hno : ∀ p, p < nT σ → ¬ iK σ p = key) (hT : nT σ < 64) : ∃ τ, f_X3_store σ (nI key) (nI z) = some τ ∧ Pr τ (upd (upd (upd s (43 + 2 * nT σ) (nI key)) (43 + 2 * nT σ + 1) (nI z)) 16 (nI (nT σ + 1))) := by
  have I := h.1
  have E := h.2
  obtain ⟨τ, e, h0, h9, hq, h15, h16⟩ := k_storeN (z := nI z) I hk hp hpl hno hT
  obtain ⟨p1, p2, p3⟩ := hp
  have iKl : ∀ j, j < p → iK τ j = iK σ j := fun j hj => by unfold iK; rw [h15.1 j hj]
  have iKp : iK τ p = key := by unfold iK; rw [h15.2.1, tn_n (by omega)]
  have iKh : ∀ j, p ≤ j → j < nT σ → iK τ (j + 1) = iK σ j := fun j j1 j2 => by unfold iK; rw [h15.2.2 j j1 j2]
  refine ⟨τ, e, IV_items I h0 h9 (by omega) hq (fun k hk => ?_) (fun k hk => ?_), EQ_items I E h0 h9 hq (fun k h1 h2 => ?_) up_eq ?_⟩
  · rcases Nat.lt_trichotomy k p with w | w | w
    · unfold IVi iK iZ
      rw [h15.1 k w, h16.1 k w]
      exact I.i k (by omega)
    · subst w
      unfold IVi iK iZ
      rw [h15.2.1, h16.2.1, tn_n (by omega), tn_n (by omega)]
      exact ⟨⟨rfl, by omega⟩, rfl, z1, z2⟩
    · obtain ⟨k, rfl⟩ : ∃ d, k = d + 1 := ⟨k - 1, by omega⟩
      unfold IVi iK iZ
      rw [h15.2.2 k (by omega) (by omega), h16.2.2 k (by omega) (by omega)]
      exact I.i k (by omega)
  · rcases Nat.lt_trichotomy (k + 1) p with w | w | w
    · rw [iKl k (by omega), iKl (k + 1) w]
      exact I.K k (by omega)
    · rw [iKl k (by omega), w, iKp]
      exact p2 k (by omega)
    · rw [iKh k (by omega) (by omega)]
      by_cases c : k = p
      · rw [c, iKp]
        have a1 := p3 p (Nat.le_refl _) (by omega)
        have a2 := hno p (by omega)
        omega
      · obtain ⟨k, rfl⟩ : ∃ d, k = d + 1 := ⟨k - 1, by omega⟩
        rw [iKh k (by omega) (by omega)]
        exact I.K k (by omega)
  · rw [up_ne h2, up_ne (by omega), up_ne (by omega)]
  · have e1 : (gI τ).Perm ((nI key, nI z) :: gI σ) := by
      unfold gI
      rw [show nT τ = nT σ + 1 from (congrArg tn h9).trans (tn_n (by omega))]
      exact ins_perm p1 (ins_pair h15 h16)
    have e2 : mI (upd (upd (upd s (43 + 2 * nT σ) (nI key)) (43 + 2 * nT σ + 1) (nI z)) 16 (nI (nT σ + 1))) = mI s ++ [(nI key, nI z)] := by
      unfold mI
      rw [up_eq, tn_n (by omega), E.cT, List.range_succ, List.map_append]
      congr 1
      · refine List.map_congr_left (fun k hk => ?_)
        have hk := List.mem_range.mp hk
        rw [up_ne (by omega), up_ne (by omega), up_ne (by omega), up_ne (by omega), up_ne (by omega), up_ne (by omega)]
      · show [(_, _)] = [_]
        rw [up_ne (by omega), up_ne (by omega), up_eq, up_ne (by omega), show 44 + 2 * nT σ = 43 + 2 * nT σ + 1 by omega, up_eq]
    rw [e2]
    exact (List.perm_append_singleton _ _).trans ((E.i.cons _).trans e1.symm)
/-- a key stands once in the model -/
theorem jK_one {σ : Nat → Nat → Int32} {s : Nat → Int32} (I : IV σ) (E : EQ σ s) {i j : Nat} (hi : i < nT σ) (hj : j < nT σ) (he : s (43 + 2 * i) = s (43 + 2 * j)) : i = j := by
  have hn : ((gI σ).map Prod.fst).Nodup := by
    unfold gI
    rw [List.map_map]
    refine List.pairwise_iff_getElem.mpr (fun a b ha hb hab => ?_)
    rw [List.length_map, List.length_range] at ha hb
    rw [List.getElem_map, List.getElem_map, List.getElem_range, List.getElem_range]
    show ¬ σ 15 a = σ 15 b
    intro z
    have := iK_mono I hab hb
    unfold iK at this
    rw [z] at this
    omega
  have hm : ((mI s).map Prod.fst).Nodup := (E.i.map _).nodup_iff.mpr hn
  unfold mI at hm
  rw [List.map_map, E.cT] at hm
  have hm2 := List.pairwise_iff_getElem.mp hm
  have key : ∀ a b, a < b → b < nT σ → ¬ s (43 + 2 * a) = s (43 + 2 * b) := fun a b hab hb => by
    have h1 := hm2 a b (by rw [List.length_map, List.length_range]; omega) (by rw [List.length_map, List.length_range]; omega) hab
    rw [List.getElem_map, List.getElem_map, List.getElem_range, List.getElem_range] at h1
    exact h1
  rcases Nat.lt_trichotomy i j with w | w | w
  · exact absurd he (key i j w hj)
  · exact w
  · exact absurd he.symm (key j i w hi)
theorem k_storeU {σ : Nat → Nat → Int32} (I : IV σ) {key p : Nat} {z : Int32} (hk : key ≤ 9999) (hpl : f_X3_placeOf σ (nI key) = some (nI p)) (hpT : p < nT σ) (hpk : iK σ p = key) : f_X3_store σ (nI key) z = some (cu σ 16 p z) := by
  have hT := I.T.2
  unfold f_X3_store f_X3_store_84
  rw [hpl, bd_s, k_isAt I (by omega) (by omega), bd_s, show decide (p < nT σ ∧ iK σ p = key) = true by simp; exact ⟨hpT, hpk⟩, bi_if, cond_true, sd_n (by omega) (by decide), nI_clamp (by omega)]
theorem i_storeU {σ : Nat → Nat → Int32} {s : Nat → Int32} (h : Pr σ s) {key z p i : Nat} (hk : key ≤ 9999) (z1 : 1 ≤ z) (z2 : z ≤ 99) (hpT : p < nT σ) (hpk : iK σ p = key) (hi : i < nT σ) (hik : jK s i = key) : Pr (cu σ 16 p (nI z)) (upd s (43 + 2 * i + 1) (nI z)) := by
  have I := h.1
  have E := h.2
  have hT := I.T.2
  have e15 : σ 15 p = nI key := by rw [(I.i p hpT).1.1, hpk]
  have e43 : s (43 + 2 * i) = nI key := by rw [(E.j I hi).1.1, hik]
  refine ⟨IV_items I (T := nT σ) (fun _ _ => rfl) I.T.1 hT (fun q _ _ h2 => cu_ne h2) (fun k hk => ?_) I.K, EQ_items I E (T := nT σ) (fun _ _ => rfl) I.T.1 (fun q _ _ h2 => cu_ne h2) (fun k h1 h2 => up_ne (by omega)) ?_ ?_⟩
  · refine ⟨(I.i k hk).1, ?_⟩
    show upd (σ 16) p (nI z) k = nI (tn (upd (σ 16) p (nI z) k)) ∧ 1 ≤ tn (upd (σ 16) p (nI z) k) ∧ tn (upd (σ 16) p (nI z) k) ≤ 99
    by_cases c : k = p
    · rw [c, up_eq, tn_n (by omega)]
      exact ⟨rfl, z1, z2⟩
    · rw [up_ne c]
      exact (I.i k hk).2
  · rw [up_ne (by omega), E.T, I.T.1]
  · have e1 : gI (cu σ 16 p (nI z)) = (gI σ).map (fun q => if q.1 = nI key then (q.1, nI z) else q) := by
      unfold gI
      rw [List.map_map]
      refine List.map_congr_left (fun k hk => ?_)
      have hk : k < nT σ := List.mem_range.mp hk
      show (σ 15 k, upd (σ 16) p (nI z) k) = if σ 15 k = nI key then (σ 15 k, nI z) else (σ 15 k, σ 16 k)
      by_cases c : k = p
      · rw [c, if_pos e15, up_eq]
      · rw [if_neg, up_ne c]
        intro w
        have w2 : iK σ k = iK σ p := by unfold iK; rw [w, e15]
        rcases Nat.lt_or_ge k p with v | v
        · have := iK_mono I v hpT
          omega
        · have := iK_mono I (a := p) (b := k) (by omega) hk
          omega
    have e2 : mI (upd s (43 + 2 * i + 1) (nI z)) = (mI s).map (fun q => if q.1 = nI key then (q.1, nI z) else q) := by
      unfold mI
      rw [List.map_map, up_ne (by omega), E.cT]
      refine List.map_congr_left (fun k hk => ?_)
      have hk : k < nT σ := List.mem_range.mp hk
      show (upd s (43 + 2 * i + 1) (nI z) (43 + 2 * k), upd s (43 + 2 * i + 1) (nI z) (44 + 2 * k)) = if s (43 + 2 * k) = nI key then (s (43 + 2 * k), nI z) else (s (43 + 2 * k), s (44 + 2 * k))
      rw [up_ne (by omega)]
      by_cases c : k = i
      · rw [c, if_pos e43, show 44 + 2 * i = 43 + 2 * i + 1 by omega, up_eq]
      · rw [if_neg (fun w => c (jK_one I E hk hi (w.trans e43.symm))), up_ne (by omega)]
    rw [e1, e2]
    exact E.i.map _
/-! the pair after a removal -/
def rmv (s : Nat → Int32) (a c k : Nat) : Int32 := if a ≤ k ∧ k < c then s (k + 2) else s k
theorem m_rmvL {σ : Nat → Nat → Int32} {s : Nat → Int32} (I : IV σ) (E : EQ σ s) {P E' : Nat → Int32} {n0 x3 : Int32} {a : Nat} (ha : 43 ≤ a) (h1 : 1 ≤ nT σ) : ∀ k c n, c + k = 169 → a ≤ c → k < n → f_X9_remove_48 n (rmv s a c) P E' n0 x3 (nI c) = some (x3, upd (rmv s a 169) 16 (nI (nT σ - 1)), P, E', n0) := by
  intro k
  induction k with
  | zero =>
    intro c n hc hc2 hn
    obtain ⟨n, rfl⟩ : ∃ m, n = m + 1 := ⟨n - 1, by omega⟩
    have e : c = 169 := by omega
    subst e
    have e16 : rmv s a 169 16 = nI (nT σ) := by
      unfold rmv
      rw [if_neg (by omega), E.T, I.T.1]
    have ed : nI (nT σ) - 1 = nI (nT σ - 1) := pk_sub (b := 1) h1
    rw [f_X9_remove_48, if_pos (by decide), show (16 : Int32) = nI 16 from rfl, ld_n (by decide) (by decide), sd_n (by decide) (by decide), e16, ed, nI_clamp (by decide)]
  | succ k ih =>
    intro c n hc hc2 hn
    obtain ⟨n, rfl⟩ : ∃ m, n = m + 1 := ⟨n - 1, by omega⟩
    have e1 : upd (rmv s a c) c (rmv s a c (c + 2)) = rmv s a (c + 1) := by
      funext j
      unfold upd rmv
      by_cases q : j = c
      · subst q
        rw [if_pos rfl, if_neg (by omega), if_pos (by omega)]
      · rw [if_neg q]
        by_cases q2 : a ≤ j ∧ j < c
        · rw [if_pos q2, if_pos (by omega)]
        · rw [if_neg q2, if_neg (by omega)]
    rw [f_X9_remove_48, show nI c + (2 : Int32) = nI (c + 2) from nI_add c 2, show (171 : Int32) = nI 171 from rfl, if_le (by omega) (by omega), if_neg (by omega), ld_n (by omega) (by decide), sd_n (by omega) (by decide), nI_clamp (by omega), e1, nI_1]
    exact ih (c + 1) n (by omega) (by omega) (by omega)
theorem i_erase {σ : Nat → Nat → Int32} {s : Nat → Int32} (h : Pr σ s) {P E' : Nat → Int32} {n0 x3 : Int32} {key p i : Nat} (hk : key ≤ 9999) (hpl : f_X3_placeOf σ (nI key) = some (nI p)) (hpT : p < nT σ) (hpk : iK σ p = key) (hi : i < nT σ) (hik : jK s i = key) : s (44 + 2 * i) = σ 16 p ∧ ∃ τ t, f_X3_erase σ (nI key) = some τ ∧ f_X9_remove_48 FU s P E' n0 x3 (nI (43 + 2 * i)) = some (x3, t, P, E', n0) ∧ Pr τ t := by
  have I := h.1
  have E := h.2
  have hT := I.T.2
  obtain ⟨τ, e, h0, h9, hq, h15, h16⟩ := k_erase I hk hpl hpT hpk
  have e15 : σ 15 p = nI key := by rw [(I.i p hpT).1.1, hpk]
  have e43 : s (43 + 2 * i) = nI key := by rw [(E.j I hi).1.1, hik]
  have e44 : s (44 + 2 * i) = σ 16 p := by
    obtain ⟨k, k1, k2, k3⟩ := E.mem' hpT
    have : k = i := jK_one I E k1 hi (by rw [k2, e15, e43])
    rw [← this]
    exact k3
  have hL := m_rmvL I E (P := P) (E' := E') (n0 := n0) (x3 := x3) (a := 43 + 2 * i) (by omega) (by omega) (169 - (43 + 2 * i)) (43 + 2 * i) FU (by omega) (Nat.le_refl _) (FU_gt (by omega))
  rw [show rmv s (43 + 2 * i) (43 + 2 * i) = s from funext (fun j => by unfold rmv; rw [if_neg (by omega)])] at hL
  have old : ∀ j, j < nT σ - 1 → ∃ j', j' < nT σ ∧ τ 15 j = σ 15 j' ∧ τ 16 j = σ 16 j' ∧ (j < p ∧ j' = j ∨ p ≤ j ∧ j' = j + 1) := fun j hj => by
    rcases Nat.lt_or_ge j p with w | w
    · exact ⟨j, by omega, (h15.1 j w).symm, (h16.1 j w).symm, Or.inl ⟨w, rfl⟩⟩
    · exact ⟨j + 1, by omega, (h15.2.2 j w hj).symm, (h16.2.2 j w hj).symm, Or.inr ⟨w, rfl⟩⟩
  refine ⟨e44, τ, _, e, hL, IV_items I h0 h9 (by omega) hq (fun k hk => ?_) (fun k hk => ?_), EQ_items I E h0 h9 hq (fun k h1 h2 => ?_) up_eq ?_⟩
  · obtain ⟨j', j1, j2, j3, -⟩ := old k hk
    unfold IVi iK iZ
    rw [j2, j3]
    exact I.i j' j1
  · obtain ⟨a, a1, a2, a3, a4⟩ := old k (by omega)
    obtain ⟨b, b1, b2, b3, b4⟩ := old (k + 1) hk
    have : iK σ a < iK σ b := iK_mono I (by omega) b1
    unfold iK at this ⊢
    rw [a2, b2]
    exact this
  · rw [up_ne h2]
    unfold rmv
    rw [if_neg (by omega)]
  · obtain ⟨T, hT1⟩ : ∃ d, nT σ = d + 1 := ⟨nT σ - 1, by omega⟩
    have g1 : (gI σ).Perm ((σ 15 p, σ 16 p) :: gI τ) := by
      unfold gI
      rw [show nT τ = T from (congrArg tn h9).trans ((tn_n (by omega)).trans (by omega)), hT1]
      rw [hT1] at h15 h16
      exact ins_perm (by omega) (ins_pair h15 h16)
    have g2 : (mI s).Perm ((s (43 + 2 * i), s (44 + 2 * i)) :: mI (upd (rmv s (43 + 2 * i) 169) 16 (nI (nT σ - 1)))) := by
      unfold mI
      rw [up_eq, tn_n (by omega), E.cT, hT1]
      refine ins_perm (p := i) (by omega) ⟨fun j hj => ?_, rfl, fun j j1 j2 => ?_⟩
      · show _ = (upd (rmv s (43 + 2 * i) 169) 16 _ (43 + 2 * j), upd (rmv s (43 + 2 * i) 169) 16 _ (44 + 2 * j))
        rw [up_ne (by omega), up_ne (by omega)]
        unfold rmv
        rw [if_neg (by omega), if_neg (by omega)]
      · show _ = (upd (rmv s (43 + 2 * i) 169) 16 _ (43 + 2 * j), upd (rmv s (43 + 2 * i) 169) 16 _ (44 + 2 * j))
        rw [up_ne (by omega), up_ne (by omega)]
        unfold rmv
        rw [if_pos (by omega), if_pos (by omega), show 43 + 2 * j + 2 = 43 + 2 * (j + 1) by omega, show 44 + 2 * j + 2 = 44 + 2 * (j + 1) by omega]
    rw [e43, e44] at g2
    rw [e15] at g1
    exact List.Perm.cons_inv (g2.symm.trans (E.i.trans g1))
