/-! the model's items beside the class's -/
def jK (s : Nat → Int32) (k : Nat) : Nat := tn (s (43 + 2 * k))
def jZ (s : Nat → Int32) (k : Nat) : Nat := tn (s (44 + 2 * k))
theorem sm_list (f : Nat → Nat) : ∀ n, sm f n = ((List.range n).map f).sum
  | 0 => rfl
  | n + 1 => by rw [sm_s, sm_list f n, List.range_succ, List.map_append, List.sum_append]; simp
theorem EQ.cT {σ : Nat → Nat → Int32} {s : Nat → Int32} (E : EQ σ s) : tn (s 16) = nT σ := by rw [E.T]; rfl
theorem EQ.sum {σ : Nat → Nat → Int32} {s : Nat → Int32} (E : EQ σ s) (g : Nat → Nat → Nat) : sm (fun k => g (jK s k) (jZ s k)) (nT σ) = sm (fun k => g (iK σ k) (iZ σ k)) (nT σ) := by
  have h := (E.i.map (fun p : Int32 × Int32 => g (tn p.1) (tn p.2))).sum_nat
  unfold mI gI at h
  rw [List.map_map, List.map_map, E.cT] at h
  rw [sm_list, sm_list]
  exact h
theorem EQ.mem {σ : Nat → Nat → Int32} {s : Nat → Int32} (E : EQ σ s) {k : Nat} (h : k < nT σ) : ∃ j, j < nT σ ∧ s (43 + 2 * k) = σ 15 j ∧ s (44 + 2 * k) = σ 16 j := by
  have h1 : (s (43 + 2 * k), s (44 + 2 * k)) ∈ mI s := List.mem_map.mpr ⟨k, List.mem_range.mpr (by rw [E.cT]; exact h), rfl⟩
  obtain ⟨j, j1, j2⟩ := List.mem_map.mp (E.i.mem_iff.mp h1)
  exact ⟨j, List.mem_range.mp j1, (Prod.mk.inj j2).1.symm, (Prod.mk.inj j2).2.symm⟩
theorem EQ.mem' {σ : Nat → Nat → Int32} {s : Nat → Int32} (E : EQ σ s) {j : Nat} (h : j < nT σ) : ∃ k, k < nT σ ∧ s (43 + 2 * k) = σ 15 j ∧ s (44 + 2 * k) = σ 16 j := by
  have h1 : (σ 15 j, σ 16 j) ∈ gI σ := List.mem_map.mpr ⟨j, List.mem_range.mpr h, rfl⟩
  obtain ⟨k, k1, k2⟩ := List.mem_map.mp (E.i.mem_iff.mpr h1)
  exact ⟨k, by have := List.mem_range.mp k1; rw [E.cT] at this; exact this, (Prod.mk.inj k2).1, (Prod.mk.inj k2).2⟩
theorem EQ.j {σ : Nat → Nat → Int32} {s : Nat → Int32} (I : IV σ) (E : EQ σ s) {k : Nat} (h : k < nT σ) : (s (43 + 2 * k) = nI (jK s k) ∧ jK s k ≤ 9999) ∧ (s (44 + 2 * k) = nI (jZ s k) ∧ 1 ≤ jZ s k ∧ jZ s k ≤ 99) := by
  obtain ⟨j, j1, j2, j3⟩ := E.mem h
  obtain ⟨⟨a1, a2⟩, b1, b2⟩ := I.i j j1
  unfold jK jZ
  rw [j2, j3]
  exact ⟨⟨a1, a2⟩, b1, b2⟩
theorem KD0 {σ : Nat → Nat → Int32} {s : Nat → Int32} (I : IV σ) (E : EQ σ s) : KD s 0 (nT σ) (jK s) (jZ s) := by
  have hT := I.T.2
  refine ⟨fun i hi F => ?_, fun i hi K x => ?_, fun F => ?_, hT, fun i hi => ?_⟩
  · rw [if_pos rfl, ix_i, ld_n (by omega) (by decide), (E.j I hi).1.1]
  · rw [if_pos rfl, ix_i, nI_1, ld_n (by omega) (by decide), show 43 + 2 * i + 1 = 44 + 2 * i by omega, (E.j I hi).2.1]
  · rw [if_pos rfl, ld_T I E]
  · have := E.j I hi
    omega
theorem KD1 {σ : Nat → Nat → Int32} {s : Nat → Int32} (I : IV σ) (E : EQ σ s) : KD s 1 (nM σ) (sK σ) (fun _ => 1) := by
  have hT := I.M.2
  refine ⟨fun i hi F => ?_, fun i hi K x => ?_, fun F => ?_, by omega, fun i hi => ?_⟩
  · rw [if_neg (by decide), ix_s, ld_n (by omega) (by decide), E.m i hi, (I.m i hi).1]
  · rw [if_neg (by decide)]
    rfl
  · rw [if_neg (by decide), ld_M I E]
  · have := I.m i hi
    show sK σ i ≤ 9999 ∧ 1 ≤ 99
    omega
theorem wB0 {σ : Nat → Nat → Int32} {s : Nat → Int32} (E : EQ σ s) (a b x : Nat) : wB (jK s) (jZ s) a b x (nT σ) = sm (fun k => if (a ≤ iK σ k ∧ iK σ k < b) ∧ iK σ k < x then iZ σ k else 0) (nT σ) :=
  E.sum (fun y z => if (a ≤ y ∧ y < b) ∧ y < x then z else 0)
theorem sm_ct (p : Nat → Bool) : ∀ n, sm (fun k => if p k = true then 1 else 0) n = ct p n
  | 0 => rfl
  | n + 1 => by rw [sm_s, ct_s, sm_ct p n]
theorem m_size {σ : Nat → Nat → Int32} {s : Nat → Int32} (I : IV σ) (E : EQ σ s) {r : Nat} (h : r < nR σ) : f_X9_all s (nI r) 0 = some (nI (rZ σ r)) := by
  rw [m_all I E h (KD0 I E), wB0 E]
  congr 2
  refine sm_cong (fun k hk => ?_)
  have := (I.i k hk).1.2
  by_cases q : nS σ r ≤ iK σ k ∧ iK σ k < nE σ r
  · rw [if_pos q, if_pos (by omega)]
  · rw [if_neg q, if_neg (by omega)]
theorem m_load {σ : Nat → Nat → Int32} {s : Nat → Int32} (I : IV σ) (E : EQ σ s) {r : Nat} (h : r < nR σ) : f_X9_all s (nI r) 1 = some (nI (rL σ r)) := by
  rw [m_all I E h (KD1 I E)]
  congr 2
  unfold wB rL cB
  rw [← sm_ct]
  refine sm_cong (fun k hk => ?_)
  have := (I.m k hk).2
  by_cases q : nS σ r ≤ sK σ k ∧ sK σ k < nE σ r
  · rw [if_pos (by omega), if_pos (by simpa using q)]
  · rw [if_neg (by omega), if_neg (by simpa using q)]
/-- a split key is no key, or one inside the range -/
def okS (σ : Nat → Nat → Int32) (r : Nat) (v : Int32) : Prop := v = -1 ∨ ∃ x, v = nI x ∧ nS σ r < x ∧ x < nE σ r
theorem a_sizeSplit {σ : Nat → Nat → Int32} {s : Nat → Int32} (I : IV σ) (E : EQ σ s) {r : Nat} (h : r < nR σ) : ∃ v, f_X0_sizeSplitKey σ (nI r) = some v ∧ f_X9_splitKeyOf s (nI r) 0 = some v ∧ okS σ r v := by
  obtain ⟨v, v1, v2⟩ := k_sizeSplit I h
  obtain ⟨w, w1, w2⟩ := m_split I E h (KD0 I E)
  have e : w = v := by
    refine SKa_one (SKa_cong (fun x => ?_) (fun x hx => ?_) ?_ w1) v1
    · constructor
      · rintro ⟨x1, i, i1, i2⟩
        obtain ⟨j, j1, j2, -⟩ := E.mem i1
        exact ⟨x1, j, j1, by rw [← i2]; unfold jK iK; rw [j2]⟩
      · rintro ⟨x1, j, j1, j2⟩
        obtain ⟨i, i1, i2, -⟩ := E.mem' j1
        exact ⟨x1, i, i1, by rw [← j2]; unfold jK iK; rw [i2]⟩
    · show wB (jK s) (jZ s) (nS σ r) (nE σ r) x (nT σ) = sB σ (nS σ r) x
      rw [wB0 E]
      refine sm_cong (fun k hk => ?_)
      have := hx.1.2
      by_cases q : nS σ r ≤ iK σ k ∧ iK σ k < x
      · rw [if_pos q, if_pos (by omega)]
      · rw [if_neg q, if_neg (by omega)]
    · rw [wB0 E]
      refine sm_cong (fun k hk => ?_)
      have := (I.i k hk).1.2
      by_cases q : nS σ r ≤ iK σ k ∧ iK σ k < nE σ r
      · rw [if_pos q, if_pos (by omega)]
      · rw [if_neg q, if_neg (by omega)]
  subst e
  refine ⟨w, v2, w2, ?_⟩
  rcases v1 with ⟨rfl, -⟩ | ⟨x, x1, rfl, ⟨y, y1, y2⟩, -⟩
  · exact Or.inl rfl
  · exact Or.inr ⟨x, rfl, by have := y1.1.1; omega, x1.1.2⟩
theorem a_loadSplit {σ : Nat → Nat → Int32} {s : Nat → Int32} (I : IV σ) (E : EQ σ s) {r : Nat} (h : r < nR σ) : ∃ v, f_X0_loadSplitKey σ (nI r) = some v ∧ f_X9_splitKeyOf s (nI r) 1 = some v ∧ okS σ r v := by
  obtain ⟨v, v1, v2⟩ := k_loadSplit I h
  obtain ⟨w, w1, w2⟩ := m_split I E h (KD1 I E)
  have e : w = v := by
    refine SKa_one (SKa_cong (fun x => Iff.rfl) (fun x hx => ?_) ?_ w1) v1
    · show wB (sK σ) (fun _ => 1) (nS σ r) (nE σ r) x (nM σ) = cB σ (nS σ r) x
      unfold wB cB
      rw [← sm_ct]
      refine sm_cong (fun k hk => ?_)
      have := hx.1.2
      by_cases q : nS σ r ≤ sK σ k ∧ sK σ k < x
      · rw [if_pos (by omega), if_pos (by simpa using q)]
      · rw [if_neg (by omega), if_neg (by simpa using q)]
    · unfold wB rL cB
      rw [← sm_ct]
      refine sm_cong (fun k hk => ?_)
      have := (I.m k hk).2
      by_cases q : nS σ r ≤ sK σ k ∧ sK σ k < nE σ r
      · rw [if_pos (by omega), if_pos (by simpa using q)]
      · rw [if_neg (by omega), if_neg (by simpa using q)]
  subst e
  refine ⟨w, v2, w2, ?_⟩
  rcases v1 with ⟨rfl, -⟩ | ⟨x, x1, rfl, ⟨y, y1, y2⟩, -⟩
  · exact Or.inl rfl
  · exact Or.inr ⟨x, rfl, by have := y1.1.1; omega, x1.1.2⟩
/-! an item's place in the model -/
theorem m_placeL {σ : Nat → Nat → Int32} {s : Nat → Int32} (I : IV σ) (E : EQ σ s) {key : Nat} (hk : key ≤ 20000) : ∀ k i n, i + k = nT σ → k < n → (∀ j, j < i → ¬ jK s j = key) → (∃ p, p < nT σ ∧ jK s p = key ∧ f_X9_placeOf_2 n s (nI key) (nI i) = some (nI (43 + 2 * p))) ∨ ((∀ p, p < nT σ → ¬ jK s p = key) ∧ f_X9_placeOf_2 n s (nI key) (nI i) = some (-1)) := by
  have hT := I.T.2
  intro k
  induction k with
  | zero =>
    intro i n hi hn h0
    obtain ⟨n, rfl⟩ : ∃ m, n = m + 1 := ⟨n - 1, by omega⟩
    have e : i = nT σ := by omega
    subst e
    exact Or.inr ⟨h0, by rw [f_X9_placeOf_2, ld_T I E, if_pos (nI_le (Nat.le_refl _) (by omega))]⟩
  | succ k ih =>
    intro i n hi hn h0
    obtain ⟨n, rfl⟩ : ∃ m, n = m + 1 := ⟨n - 1, by omega⟩
    obtain ⟨⟨e1, b1⟩, -⟩ := E.j I (k := i) (by omega)
    rw [f_X9_placeOf_2, ld_T I E, if_le (by omega) (by omega), if_neg (by omega), ix_i, ld_n (by omega) (by decide), e1, if_eq (by omega) (by omega), nI_1]
    by_cases q : jK s i = key
    · rw [if_pos q]
      exact Or.inl ⟨i, by omega, q, rfl⟩
    · rw [if_neg q]
      exact ih (i + 1) n (by omega) (by omega) (fun j hj => by
        rcases Nat.lt_or_ge j i with w | w
        · exact h0 j w
        · have : j = i := by omega
          subst this
          exact q)
theorem m_place {σ : Nat → Nat → Int32} {s : Nat → Int32} (I : IV σ) (E : EQ σ s) {key : Nat} (hk : key ≤ 20000) : (∃ p, p < nT σ ∧ jK s p = key ∧ f_X9_placeOf s (nI key) = some (nI (43 + 2 * p))) ∨ ((∀ p, p < nT σ → ¬ jK s p = key) ∧ f_X9_placeOf s (nI key) = some (-1)) :=
  m_placeL I E hk (nT σ) 0 FU (by omega) (FU_gt (by have := I.T.2; omega)) (fun j hj => by omega)
/-! other reads of the model -/
theorem m_whole {σ : Nat → Nat → Int32} {s : Nat → Int32} (I : IV σ) (E : EQ σ s) {r : Nat} (h : r < nR σ) : f_X9_isWhole s (nI r) = some (bi (whol σ r)) := by
  unfold f_X9_isWhole whol
  rw [m_avail I E h, bd_s, bi_if]
  cases hq : quo σ r with
  | false => simp [bi]
  | true =>
    rw [cond_true, m_of1 I E h, bd_s, m_ups I E, bd_s, nI_andn (I.V8 h) I.U8]
    by_cases q2 : andn (nV σ r) (nU σ) = 0
    · rw [if_pos (by rw [q2]; rfl), m_of3 I E h, bd_s, bi_some1]
      simp [q2]
    · have hz : ¬ nI (andn (nV σ r) (nU σ)) = 0 := fun z => q2 ((nI_0i (Nat.lt_of_le_of_lt Nat.and_le_left (by have := I.V8 h; omega))).mp z)
      rw [if_neg hz]
      simp [q2, bi]
theorem m_lcode {σ : Nat → Nat → Int32} {s : Nat → Int32} (I : IV σ) (E : EQ σ s) {r : Nat} (h : r < nR σ) : f_X9_learnerOf s (nI r) = some (lcode σ r) := by
  unfold f_X9_learnerOf lcode
  rw [m_of3 I E h, bd_s]
  by_cases q : σ 12 r = -1
  · rw [if_pos q, if_pos q]
  · rw [if_neg q, if_neg q, m_of4 I E h, bd_s, bd_s]
