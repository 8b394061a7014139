/-! the cluster's numbers, what always holds of them (IV), and the model's row beside them (EQ) -/
def nN (σ : Nat → Nat → Int32) : Nat := tn (σ 0 6)
def nU (σ : Nat → Nat → Int32) : Nat := tn (σ 0 7)
def nR (σ : Nat → Nat → Int32) : Nat := tn (σ 0 8)
def nT (σ : Nat → Nat → Int32) : Nat := tn (σ 0 9)
def nM (σ : Nat → Nat → Int32) : Nat := tn (σ 0 10)
def nZ (σ : Nat → Nat → Int32) (k : Nat) : Nat := tn (σ 7 k)
def nS (σ : Nat → Nat → Int32) (r : Nat) : Nat := tn (σ 9 r)
def nV (σ : Nat → Nat → Int32) (r : Nat) : Nat := tn (σ 10 r)
def iK (σ : Nat → Nat → Int32) (k : Nat) : Nat := tn (σ 15 k)
def iZ (σ : Nat → Nat → Int32) (k : Nat) : Nat := tn (σ 16 k)
def sK (σ : Nat → Nat → Int32) (k : Nat) : Nat := tn (σ 17 k)
/-- a node's number, or none -/
def okN (N : Nat) (x : Int32) : Prop := x = -1 ∨ ∃ k, k < N ∧ x = nI k
def IVr (σ : Nat → Nat → Int32) (r : Nat) : Prop := (σ 9 r = nI (nS σ r) ∧ nS σ r ≤ 9999) ∧ (σ 10 r = nI (nV σ r) ∧ nV σ r < 2 ^ nN σ) ∧ okN (nN σ) (σ 11 r) ∧ okN (nN σ) (σ 12 r) ∧ okN (nN σ) (σ 14 r)
def IVi (σ : Nat → Nat → Int32) (k : Nat) : Prop := (σ 15 k = nI (iK σ k) ∧ iK σ k ≤ 9999) ∧ (σ 16 k = nI (iZ σ k) ∧ 1 ≤ iZ σ k ∧ iZ σ k ≤ 99)
def IV (σ : Nat → Nat → Int32) : Prop :=
  (σ 0 6 = nI (nN σ) ∧ nN σ ≤ 8) ∧ (σ 0 7 = nI (nU σ) ∧ nU σ < 2 ^ nN σ) ∧ (∀ k, k < nN σ → σ 7 k = nI (nZ σ k) ∧ nZ σ k ≤ 3) ∧
  (σ 0 8 = nI (nR σ) ∧ 1 ≤ nR σ ∧ nR σ ≤ 16) ∧ (∀ r, r < nR σ → IVr σ r) ∧ (nS σ 0 = 0 ∧ ∀ r, r + 1 < nR σ → nS σ r < nS σ (r + 1)) ∧
  (σ 0 9 = nI (nT σ) ∧ nT σ ≤ 64) ∧ (∀ k, k < nT σ → IVi σ k) ∧ (∀ k, k + 1 < nT σ → iK σ k < iK σ (k + 1)) ∧
  (σ 0 10 = nI (nM σ) ∧ nM σ ≤ 32) ∧ (∀ k, k < nM σ → σ 17 k = nI (sK σ k) ∧ sK σ k ≤ 9999) ∧ (σ 0 5 = nI (tn (σ 0 5)) ∧ 1 ≤ tn (σ 0 5) ∧ tn (σ 0 5) ≤ 99)
theorem IV.N {σ : Nat → Nat → Int32} (I : IV σ) : σ 0 6 = nI (nN σ) ∧ nN σ ≤ 8 := I.1
theorem IV.U {σ : Nat → Nat → Int32} (I : IV σ) : σ 0 7 = nI (nU σ) ∧ nU σ < 2 ^ nN σ := I.2.1
theorem IV.Z {σ : Nat → Nat → Int32} (I : IV σ) : ∀ k, k < nN σ → σ 7 k = nI (nZ σ k) ∧ nZ σ k ≤ 3 := I.2.2.1
theorem IV.R {σ : Nat → Nat → Int32} (I : IV σ) : σ 0 8 = nI (nR σ) ∧ 1 ≤ nR σ ∧ nR σ ≤ 16 := I.2.2.2.1
theorem IV.r {σ : Nat → Nat → Int32} (I : IV σ) : ∀ r, r < nR σ → IVr σ r := I.2.2.2.2.1
theorem IV.S {σ : Nat → Nat → Int32} (I : IV σ) : nS σ 0 = 0 ∧ ∀ r, r + 1 < nR σ → nS σ r < nS σ (r + 1) := I.2.2.2.2.2.1
theorem IV.T {σ : Nat → Nat → Int32} (I : IV σ) : σ 0 9 = nI (nT σ) ∧ nT σ ≤ 64 := I.2.2.2.2.2.2.1
theorem IV.i {σ : Nat → Nat → Int32} (I : IV σ) : ∀ k, k < nT σ → IVi σ k := I.2.2.2.2.2.2.2.1
theorem IV.K {σ : Nat → Nat → Int32} (I : IV σ) : ∀ k, k + 1 < nT σ → iK σ k < iK σ (k + 1) := I.2.2.2.2.2.2.2.2.1
theorem IV.M {σ : Nat → Nat → Int32} (I : IV σ) : σ 0 10 = nI (nM σ) ∧ nM σ ≤ 32 := I.2.2.2.2.2.2.2.2.2.1
theorem IV.m {σ : Nat → Nat → Int32} (I : IV σ) : ∀ k, k < nM σ → σ 17 k = nI (sK σ k) ∧ sK σ k ≤ 9999 := I.2.2.2.2.2.2.2.2.2.2.1
theorem IV.P {σ : Nat → Nat → Int32} (I : IV σ) : σ 0 5 = nI (tn (σ 0 5)) ∧ 1 ≤ tn (σ 0 5) ∧ tn (σ 0 5) ≤ 99 := I.2.2.2.2.2.2.2.2.2.2.2
theorem IV.V8 {σ : Nat → Nat → Int32} (I : IV σ) {r : Nat} (h : r < nR σ) : nV σ r < 256 := lt256 (I.r r h).2.1.2 I.N.2
theorem IV.U8 {σ : Nat → Nat → Int32} (I : IV σ) : nU σ < 256 := lt256 I.U.2 I.N.2
def gI (σ : Nat → Nat → Int32) : List (Int32 × Int32) := (List.range (nT σ)).map fun k => (σ 15 k, σ 16 k)
def mI (s : Nat → Int32) : List (Int32 × Int32) := (List.range (tn (s 16))).map fun k => (s (43 + 2 * k), s (44 + 2 * k))
def EQ (σ : Nat → Nat → Int32) (s : Nat → Int32) : Prop :=
  (∀ k, k < 6 → s k = σ 0 k) ∧ s 6 = σ 0 11 ∧ (∀ a, 1 ≤ a → a ≤ 8 → s (6 + a) = σ 6 a) ∧ s 15 = σ 0 6 ∧ s 16 = σ 0 9 ∧ s 17 = σ 0 8 ∧ s 18 = σ 0 10 ∧
  (∀ k, k < nN σ → s (19 + 3 * k) = σ 7 k ∧ s (20 + 3 * k) = σ 8 k ∧ s (21 + 3 * k) = bi ((nU σ).testBit k)) ∧ (∀ r, r < nR σ → ∀ w, w < 6 → s (171 + 6 * r + w) = σ (9 + w) r) ∧
  (∀ k, k < nM σ → s (267 + k) = σ 17 k) ∧ (mI s).Perm (gI σ)
/-! reads of the class -/
/-- the first key behind a range -/
def nE (σ : Nat → Nat → Int32) (r : Nat) : Nat := if r + 1 < nR σ then nS σ (r + 1) else 10000
theorem nE_le {σ : Nat → Nat → Int32} (I : IV σ) (r : Nat) : nE σ r ≤ 10000 := by
  unfold nE
  split
  · have := (I.r (r + 1) (by assumption)).1.2
    omega
  · omega
theorem k_endOf {σ : Nat → Nat → Int32} (I : IV σ) {r : Nat} (h : r < nR σ) : f_X5_endOf σ (nI r) = some (nI (nE σ r)) := by
  obtain ⟨hR, hR1, hR2⟩ := I.R
  unfold f_X5_endOf nE
  rw [hR, nI_1, if_le (by omega) (by omega)]
  by_cases q : r + 1 < nR σ
  · rw [if_neg (by omega), if_pos q, ld_n (by omega) (by decide), (I.r (r + 1) q).1.1]
  · rw [if_pos (by omega), if_neg q]
    rfl
/-- the sizes of the items with keys from a on and before b -/
def sB (σ : Nat → Nat → Int32) (a b : Nat) : Nat := sm (fun k => if a ≤ iK σ k ∧ iK σ k < b then iZ σ k else 0) (nT σ)
theorem sB_le {σ : Nat → Nat → Int32} (I : IV σ) (a b : Nat) : sB σ a b ≤ 6336 := by
  have h := sm_bound (n := nT σ) (c := 99) (f := fun k => if a ≤ iK σ k ∧ iK σ k < b then iZ σ k else 0) (fun k hk => by
    show (if a ≤ iK σ k ∧ iK σ k < b then iZ σ k else 0) ≤ 99
    have := (I.i k hk).2.2.2
    split <;> omega)
  have := I.T.2
  unfold sB
  omega
theorem k_sumL {σ : Nat → Nat → Int32} (I : IV σ) {a b : Nat} (ha : a ≤ 20000) (hb : b ≤ 20000) : ∀ k i n, i + k = nT σ → k < n → f_X3_sumBetween_5 n σ (nI a) (nI b) (nI (sm (fun k => if a ≤ iK σ k ∧ iK σ k < b then iZ σ k else 0) i)) (nI i) = some (nI (sB σ a b)) := by
  obtain ⟨hT, hT2⟩ := I.T
  intro k
  induction k with
  | zero =>
    intro i n hi hn
    obtain ⟨n, rfl⟩ : ∃ m, n = m + 1 := ⟨n - 1, by omega⟩
    have e : i = nT σ := by omega
    subst e
    rw [f_X3_sumBetween_5, hT, if_pos (nI_le (Nat.le_refl _) (by omega))]
    rfl
  | succ k ih =>
    intro i n hi hn
    obtain ⟨n, rfl⟩ : ∃ m, n = m + 1 := ⟨n - 1, by omega⟩
    obtain ⟨⟨e1, b1⟩, e2, b2, b3⟩ := I.i i (by omega)
    have h1 := ih (i + 1) n (by omega) (by omega)
    rw [sm_s] at h1
    rw [f_X3_sumBetween_5, hT, if_le (by omega) (by omega), if_neg (by omega), ld_n (by omega) (by decide), e1, if_lt (by omega) (by omega)]
    by_cases q1 : iK σ i < a
    · rw [if_pos q1, nI_1]
      rw [if_neg (by omega)] at h1
      exact h1
    · rw [if_neg q1, ld_n (by omega) (by decide), e1, if_le (by omega) (by omega)]
      by_cases q2 : b ≤ iK σ i
      · rw [if_pos q2, nI_1]
        rw [if_neg (by omega)] at h1
        exact h1
      · rw [if_neg q2, ld_n (by omega) (by decide), e2, nI_1, nI_add]
        rw [if_pos (by omega)] at h1
        exact h1
theorem k_sum {σ : Nat → Nat → Int32} (I : IV σ) {a b : Nat} (ha : a ≤ 20000) (hb : b ≤ 20000) : f_X3_sumBetween σ (nI a) (nI b) = some (nI (sB σ a b)) :=
  k_sumL I ha hb (nT σ) 0 FU (by omega) (FU_gt (by have := I.T.2; omega))
def rZ (σ : Nat → Nat → Int32) (r : Nat) : Nat := sB σ (nS σ r) (nE σ r)
theorem k_rangeSize {σ : Nat → Nat → Int32} (I : IV σ) {r : Nat} (h : r < nR σ) : f_X0_rangeSize σ (nI r) = some (nI (rZ σ r)) := by
  obtain ⟨hR, hR1, hR2⟩ := I.R
  have h1 := (I.r r h).1
  have h2 := nE_le I r
  unfold f_X0_rangeSize
  rw [ld_n (by omega) (by decide), k_endOf I h, bd_s, h1.1, k_sum I (by omega) (by omega), bd_s]
  rfl
def cB (σ : Nat → Nat → Int32) (a b : Nat) : Nat := ct (fun k => decide (a ≤ sK σ k ∧ sK σ k < b)) (nM σ)
theorem k_cntL {σ : Nat → Nat → Int32} (I : IV σ) {a b : Nat} (ha : a ≤ 20000) (hb : b ≤ 20000) : ∀ k i n, i + k = nM σ → k < n → f_X6_countBetween_5 n σ (nI a) (nI b) (nI (ct (fun k => decide (a ≤ sK σ k ∧ sK σ k < b)) i)) (nI i) = some (nI (cB σ a b)) := by
  obtain ⟨hT, hT2⟩ := I.M
  intro k
  induction k with
  | zero =>
    intro i n hi hn
    obtain ⟨n, rfl⟩ : ∃ m, n = m + 1 := ⟨n - 1, by omega⟩
    have e : i = nM σ := by omega
    subst e
    rw [f_X6_countBetween_5, hT, if_pos (nI_le (Nat.le_refl _) (by omega))]
    rfl
  | succ k ih =>
    intro i n hi hn
    obtain ⟨n, rfl⟩ : ∃ m, n = m + 1 := ⟨n - 1, by omega⟩
    obtain ⟨e1, b1⟩ := I.m i (by omega)
    have h1 := ih (i + 1) n (by omega) (by omega)
    rw [ct_s] at h1
    rw [f_X6_countBetween_5, hT, if_le (by omega) (by omega), if_neg (by omega), ld_n (by omega) (by decide), e1, if_lt (by omega) (by omega)]
    by_cases q1 : sK σ i < a
    · rw [if_pos q1, nI_1]
      rw [if_neg (by simp; omega)] at h1
      exact h1
    · rw [if_neg q1, ld_n (by omega) (by decide), e1, if_le (by omega) (by omega)]
      by_cases q2 : b ≤ sK σ i
      · rw [if_pos q2, nI_1]
        rw [if_neg (by simp; omega)] at h1
        exact h1
      · rw [if_neg q2, nI_1, nI_1]
        rw [if_pos (by simp; omega)] at h1
        exact h1
theorem k_cnt {σ : Nat → Nat → Int32} (I : IV σ) {a b : Nat} (ha : a ≤ 20000) (hb : b ≤ 20000) : f_X6_countBetween σ (nI a) (nI b) = some (nI (cB σ a b)) :=
  k_cntL I ha hb (nM σ) 0 FU (by omega) (FU_gt (by have := I.M.2; omega))
def rL (σ : Nat → Nat → Int32) (r : Nat) : Nat := cB σ (nS σ r) (nE σ r)
theorem cB_le {σ : Nat → Nat → Int32} (I : IV σ) (a b : Nat) : cB σ a b ≤ 32 := Nat.le_trans (ct_le _ _) I.M.2
theorem k_rangeLoad {σ : Nat → Nat → Int32} (I : IV σ) {r : Nat} (h : r < nR σ) : f_X0_rangeLoad σ (nI r) = some (nI (rL σ r)) := by
  obtain ⟨hR, hR1, hR2⟩ := I.R
  have h1 := (I.r r h).1
  have h2 := nE_le I r
  unfold f_X0_rangeLoad
  rw [ld_n (by omega) (by decide), k_endOf I h, bd_s, h1.1, k_cnt I (by omega) (by omega), bd_s]
  rfl
/-! voters -/
theorem k_votersUp {σ : Nat → Nat → Int32} (I : IV σ) {r : Nat} (h : r < nR σ) : f_X0_votersUp σ (nI r) = some (nI (nV σ r &&& nU σ)) := by
  obtain ⟨hR, hR1, hR2⟩ := I.R
  unfold f_X0_votersUp
  rw [ld_n (by omega) (by decide), (I.r r h).2.1.1, I.U.1, nI_and]
theorem k_votersDown {σ : Nat → Nat → Int32} (I : IV σ) {r : Nat} (h : r < nR σ) : f_X0_votersDown σ (nI r) = some (nI (andn (nV σ r) (nU σ))) := by
  obtain ⟨hR, hR1, hR2⟩ := I.R
  unfold f_X0_votersDown
  rw [ld_n (by omega) (by decide), (I.r r h).2.1.1, I.U.1, nI_andn (I.V8 h) I.U8]
/-- more than half of the voters are up -/
def quo (σ : Nat → Nat → Int32) (r : Nat) : Bool := decide (pc (nV σ r) < 2 * pc (nV σ r &&& nU σ))
theorem k_quorum {σ : Nat → Nat → Int32} (I : IV σ) {r : Nat} (h : r < nR σ) : f_X0_hasQuorum σ (nI r) = some (bi (quo σ r)) := by
  obtain ⟨hR, hR1, hR2⟩ := I.R
  have h1 := pc_le (nV σ r)
  have h2 := pc_le (nV σ r &&& nU σ)
  unfold f_X0_hasQuorum
  rw [k_votersUp I h, bd_s, bc8 _ (Nat.lt_of_le_of_lt Nat.and_le_left (I.V8 h)), bd_s, ld_n (by omega) (by decide), (I.r r h).2.1.1, bc8 _ (I.V8 h), bd_s, show (2 : Int32) = nI 2 from rfl, pk_mul, if_le (by omega) (by omega), bi_some]
  congr 2
  unfold quo
  by_cases q : pc (nV σ r) < 2 * pc (nV σ r &&& nU σ) <;> simp [q] <;> omega
theorem k_hasLearner {σ : Nat → Nat → Int32} (I : IV σ) {r : Nat} (h : r < nR σ) : f_X5_hasLearner σ (nI r) = some (bi (!decide (σ 12 r = -1))) := by
  obtain ⟨hR, hR1, hR2⟩ := I.R
  unfold f_X5_hasLearner
  rw [ld_n (by omega) (by decide), bi_some]
