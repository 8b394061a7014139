theorem nS_mono {σ : Nat → Nat → Int32} (I : IV σ) {a : Nat} : ∀ {b : Nat}, a < b → b < nR σ → nS σ a < nS σ b
  | 0, h, _ => by omega
  | b + 1, h, hb => by
    have h1 := I.S.2 b hb
    rcases Nat.lt_or_ge a b with q | q
    · have h2 := nS_mono I q (by omega)
      omega
    · have : a = b := by omega
      subst this
      exact h1
/-- a key's range -/
def inR (σ : Nat → Nat → Int32) (key r : Nat) : Prop := r < nR σ ∧ nS σ r ≤ key ∧ key < nE σ r
theorem inR_one {σ : Nat → Nat → Int32} (I : IV σ) {key a b : Nat} (ha : inR σ key a) (hb : inR σ key b) : a = b := by
  obtain ⟨a1, a2, a3⟩ := ha
  obtain ⟨b1, b2, b3⟩ := hb
  unfold nE at a3 b3
  rcases Nat.lt_trichotomy a b with q | q | q
  · rw [if_pos (by omega)] at a3
    rcases Nat.lt_or_ge (a + 1) b with z | z
    · have := nS_mono I z b1
      omega
    · have : b = a + 1 := by omega
      subst this
      omega
  · exact q
  · rw [if_pos (by omega)] at b3
    rcases Nat.lt_or_ge (b + 1) a with z | z
    · have := nS_mono I z a1
      omega
    · have : a = b + 1 := by omega
      subst this
      omega
theorem k_holdL {σ : Nat → Nat → Int32} (I : IV σ) {key : Nat} (hk : key ≤ 9999) : ∀ k i n, i + k + 1 = nR σ → k < n → nS σ i ≤ key → ∃ r, inR σ key r ∧ f_X5_holding_2 n σ (nI key) (nI i) = some (nI r) := by
  obtain ⟨hR, hR1, hR2⟩ := I.R
  intro k
  induction k with
  | zero =>
    intro i n hi hn hs
    obtain ⟨n, rfl⟩ : ∃ m, n = m + 1 := ⟨n - 1, by omega⟩
    refine ⟨i, ⟨by omega, hs, ?_⟩, ?_⟩
    · unfold nE
      rw [if_neg (by omega)]
      omega
    · rw [f_X5_holding_2, hR, nI_1, if_le (by omega) (by omega), if_pos (by omega)]
  | succ k ih =>
    intro i n hi hn hs
    obtain ⟨n, rfl⟩ : ∃ m, n = m + 1 := ⟨n - 1, by omega⟩
    obtain ⟨e1, b1⟩ := (I.r (i + 1) (by omega)).1
    by_cases q : key < nS σ (i + 1)
    · refine ⟨i, ⟨by omega, hs, ?_⟩, ?_⟩
      · unfold nE
        rw [if_pos (by omega)]
        exact q
      · rw [f_X5_holding_2, hR, nI_1, if_le (by omega) (by omega), if_neg (by omega), ld_n (by omega) (by decide), e1, if_lt (by omega) (by omega), if_pos q]
    · obtain ⟨r, h1, h2⟩ := ih (i + 1) n (by omega) (by omega) (by omega)
      refine ⟨r, h1, ?_⟩
      rw [f_X5_holding_2, hR, nI_1, if_le (by omega) (by omega), if_neg (by omega), ld_n (by omega) (by decide), e1, if_lt (by omega) (by omega), if_neg q]
      exact h2
theorem k_hold {σ : Nat → Nat → Int32} (I : IV σ) {key : Nat} (hk : key ≤ 9999) : ∃ r, inR σ key r ∧ f_X5_holding σ (nI key) = some (nI r) :=
  k_holdL I hk (nR σ - 1) 0 FU (by have := I.R.2.1; omega) (FU_gt (by have := I.R.2.2; omega)) (by rw [I.S.1]; omega)
def anyL (σ : Nat → Nat → Int32) : Bool := decide (∃ r, r < nR σ ∧ ¬ σ 12 r = -1)
theorem k_anyL {σ : Nat → Nat → Int32} (I : IV σ) : ∀ k i n, i + k = nR σ → k < n → (∀ j, j < i → σ 12 j = -1) → f_X5_anyLearner_2 n σ (nI i) = some (bi (anyL σ)) := by
  obtain ⟨hR, hR1, hR2⟩ := I.R
  intro k
  induction k with
  | zero =>
    intro i n hi hn h0
    obtain ⟨n, rfl⟩ : ∃ m, n = m + 1 := ⟨n - 1, by omega⟩
    have e : i = nR σ := by omega
    subst e
    have hz : anyL σ = false := by
      unfold anyL
      rw [decide_eq_false_iff_not]
      rintro ⟨r, h1, h2⟩
      exact h2 (h0 r h1)
    rw [f_X5_anyLearner_2, hR, if_pos (nI_le (Nat.le_refl _) (by omega)), hz]
    rfl
  | succ k ih =>
    intro i n hi hn h0
    obtain ⟨n, rfl⟩ : ∃ m, n = m + 1 := ⟨n - 1, by omega⟩
    rw [f_X5_anyLearner_2, hR, if_le (by omega) (by omega), if_neg (by omega), k_hasLearner I (by omega), bd_s, bi_if, nI_1]
    by_cases q : σ 12 i = -1
    · simp only [q, decide_true, Bool.not_true, cond_false]
      exact ih (i + 1) n (by omega) (by omega) (fun j hj => by
        rcases Nat.lt_or_ge j i with z | z
        · exact h0 j z
        · have : j = i := by omega
          subst this
          exact q)
    · simp only [q, decide_false, Bool.not_false, cond_true]
      have hz : anyL σ = true := by
        unfold anyL
        rw [decide_eq_true_iff]
        exact ⟨i, by omega, q⟩
      rw [hz]
      rfl
theorem k_anyLearner {σ : Nat → Nat → Int32} (I : IV σ) : f_X5_anyLearner σ = some (bi (anyL σ)) :=
  k_anyL I (nR σ) 0 FU (by omega) (FU_gt (by have := I.R.2.2; omega)) (fun j hj => by omega)
def lcode (σ : Nat → Nat → Int32) (r : Nat) : Int32 := if σ 12 r = -1 then -1 else 100 * σ 13 r + σ 12 r
theorem k_learnerCode {σ : Nat → Nat → Int32} (I : IV σ) {r : Nat} (h : r < nR σ) : f_X5_learnerCode σ (nI r) = some (lcode σ r) := by
  obtain ⟨hR, hR1, hR2⟩ := I.R
  unfold f_X5_learnerCode lcode
  rw [k_hasLearner I h, bd_s, bi_if]
  by_cases q : σ 12 r = -1
  · simp [q]
  · simp only [q, decide_false, Bool.not_false, cond_true, if_false]
    rw [ld_n (by omega) (by decide), ld_n (by omega) (by decide)]
def avail (σ : Nat → Nat → Int32) : Nat := ct (quo σ) (nR σ)
theorem k_availL {σ : Nat → Nat → Int32} (I : IV σ) : ∀ k i n, i + k = nR σ → k < n → f_X0_countAvailable_4 n σ (nI (ct (quo σ) i)) (nI i) = some (nI (avail σ)) := by
  obtain ⟨hR, hR1, hR2⟩ := I.R
  intro k
  induction k with
  | zero =>
    intro i n hi hn
    obtain ⟨n, rfl⟩ : ∃ m, n = m + 1 := ⟨n - 1, by omega⟩
    have e : i = nR σ := by omega
    subst e
    rw [f_X0_countAvailable_4, hR, if_pos (nI_le (Nat.le_refl _) (by omega))]
    rfl
  | succ k ih =>
    intro i n hi hn
    obtain ⟨n, rfl⟩ : ∃ m, n = m + 1 := ⟨n - 1, by omega⟩
    have h1 := ih (i + 1) n (by omega) (by omega)
    rw [ct_s] at h1
    rw [f_X0_countAvailable_4, hR, if_le (by omega) (by omega), if_neg (by omega), k_quorum I (by omega), bd_s, bi_if, nI_1, nI_1]
    cases hq : quo σ i with
    | true => rw [hq] at h1; exact h1
    | false => rw [hq] at h1; exact h1
theorem k_avail {σ : Nat → Nat → Int32} (I : IV σ) : f_X0_countAvailable σ = some (nI (avail σ)) :=
  k_availL I (nR σ) 0 FU (by omega) (FU_gt (by have := I.R.2.2; omega))
/-! items -/
theorem iK_mono {σ : Nat → Nat → Int32} (I : IV σ) {a : Nat} : ∀ {b : Nat}, a < b → b < nT σ → iK σ a < iK σ b
  | 0, h, _ => by omega
  | b + 1, h, hb => by
    have h1 := I.K b hb
    rcases Nat.lt_or_ge a b with q | q
    · have h2 := iK_mono I q (by omega)
      omega
    · have : a = b := by omega
      subst this
      exact h1
/-- the first item whose key isn't less -/
def plc (σ : Nat → Nat → Int32) (key p : Nat) : Prop := p ≤ nT σ ∧ (∀ j, j < p → iK σ j < key) ∧ (∀ j, p ≤ j → j < nT σ → key ≤ iK σ j)
theorem k_placeL {σ : Nat → Nat → Int32} (I : IV σ) {key : Nat} (hk : key ≤ 20000) : ∀ k i n, i + k = nT σ → k < n → (∀ j, j < i → iK σ j < key) → ∃ p, plc σ key p ∧ f_X3_placeOf_2 n σ (nI key) (nI i) = some (nI p) := by
  obtain ⟨hT, hT2⟩ := I.T
  intro k
  induction k with
  | zero =>
    intro i n hi hn h0
    obtain ⟨n, rfl⟩ : ∃ m, n = m + 1 := ⟨n - 1, by omega⟩
    have e : i = nT σ := by omega
    subst e
    exact ⟨nT σ, ⟨Nat.le_refl _, h0, fun j h1 h2 => by omega⟩, by rw [f_X3_placeOf_2, hT, if_pos (nI_le (Nat.le_refl _) (by omega))]⟩
  | succ k ih =>
    intro i n hi hn h0
    obtain ⟨n, rfl⟩ : ∃ m, n = m + 1 := ⟨n - 1, by omega⟩
    obtain ⟨⟨e1, b1⟩, -⟩ := I.i i (by omega)
    by_cases q : key ≤ iK σ i
    · refine ⟨i, ⟨by omega, h0, fun j h1 h2 => ?_⟩, ?_⟩
      · rcases Nat.lt_or_ge i j with z | z
        · have := iK_mono I z h2
          omega
        · have : j = i := by omega
          subst this
          exact q
      · rw [f_X3_placeOf_2, hT, if_le (by omega) (by omega), if_neg (by omega), ld_n (by omega) (by decide), e1, if_le (by omega) (by omega), if_pos q]
    · obtain ⟨p, h1, h2⟩ := ih (i + 1) n (by omega) (by omega) (fun j hj => by
        rcases Nat.lt_or_ge j i with z | z
        · exact h0 j z
        · have : j = i := by omega
          subst this
          omega)
      refine ⟨p, h1, ?_⟩
      rw [f_X3_placeOf_2, hT, if_le (by omega) (by omega), if_neg (by omega), ld_n (by omega) (by decide), e1, if_le (by omega) (by omega), if_neg q, nI_1]
      exact h2
theorem k_place {σ : Nat → Nat → Int32} (I : IV σ) {key : Nat} (hk : key ≤ 20000) : ∃ p, plc σ key p ∧ f_X3_placeOf σ (nI key) = some (nI p) :=
  k_placeL I hk (nT σ) 0 FU (by omega) (FU_gt (by have := I.T.2; omega)) (fun j hj => by omega)
theorem k_isAt {σ : Nat → Nat → Int32} (I : IV σ) {key p : Nat} (hk : key ≤ 20000) (hp : p ≤ nT σ) : f_X3_isAt σ (nI p) (nI key) = some (bi (decide (p < nT σ ∧ iK σ p = key))) := by
  obtain ⟨hT, hT2⟩ := I.T
  unfold f_X3_isAt
  rw [hT, if_le (by omega) (by omega)]
  by_cases q : p < nT σ
  · obtain ⟨⟨e1, b1⟩, -⟩ := I.i p q
    rw [if_neg (by omega), ld_n (by omega) (by decide), e1, if_eq (by omega) (by omega), bi_some1]
    simp [q]
  · rw [if_pos (by omega)]
    simp [q, bi]
/-- an item's size, 0 if there is none -/
theorem k_sizeAt {σ : Nat → Nat → Int32} (I : IV σ) {key : Nat} (hk : key ≤ 20000) : (∃ p, p < nT σ ∧ iK σ p = key ∧ plc σ key p ∧ f_X3_placeOf σ (nI key) = some (nI p) ∧ f_X3_sizeAt σ (nI key) = some (nI (iZ σ p))) ∨ ((∀ p, p < nT σ → ¬ iK σ p = key) ∧ ∃ p, plc σ key p ∧ f_X3_placeOf σ (nI key) = some (nI p) ∧ f_X3_sizeAt σ (nI key) = some 0) := by
  obtain ⟨hT, hT2⟩ := I.T
  obtain ⟨p, ⟨h1, h2, h3⟩, h4⟩ := k_place I hk
  by_cases q : p < nT σ ∧ iK σ p = key
  · refine Or.inl ⟨p, q.1, q.2, ⟨h1, h2, h3⟩, h4, ?_⟩
    unfold f_X3_sizeAt
    rw [h4, bd_s, k_isAt I hk h1, bd_s, bi_if]
    simp only [q, and_self, decide_true, cond_true]
    rw [ld_n (by omega) (by decide), (I.i p q.1).2.1]
  · refine Or.inr ⟨fun j hj e => ?_, p, ⟨h1, h2, h3⟩, h4, ?_⟩
    · rcases Nat.lt_or_ge j p with z | z
      · have := h2 j z
        omega
      · rcases Nat.lt_or_ge p j with y | y
        · have := iK_mono I y hj
          have := h3 p (Nat.le_refl _) (by omega)
          omega
        · have : j = p := by omega
          subst this
          exact q ⟨hj, e⟩
    · unfold f_X3_sizeAt
      rw [h4, bd_s, k_isAt I hk h1, bd_s, bi_if]
      simp only [q, decide_false, cond_false]
