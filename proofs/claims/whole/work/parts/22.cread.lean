/-! the best of a row of candidates -/
def bet (lt : Nat → Nat → Bool) (i : Nat) : Option Nat → Bool
  | none => true
  | some j => lt i j
def amx (p : Nat → Bool) (lt : Nat → Nat → Bool) : Nat → Option Nat
  | 0 => none
  | i + 1 => if (p i && bet lt i (amx p lt i)) = true then some i else amx p lt i
theorem amx_s (p : Nat → Bool) (lt : Nat → Nat → Bool) (i : Nat) : amx p lt (i + 1) = if (p i && bet lt i (amx p lt i)) = true then some i else amx p lt i := rfl
theorem amx_no {p : Nat → Bool} {lt : Nat → Nat → Bool} {i : Nat} (h : p i = false) : amx p lt (i + 1) = amx p lt i := by rw [amx_s, h]; simp
theorem amx_first {p : Nat → Bool} {lt : Nat → Nat → Bool} {i : Nat} (h : p i = true) (h2 : amx p lt i = none) : amx p lt (i + 1) = some i := by rw [amx_s, h, h2]; rfl
theorem amx_yes {p : Nat → Bool} {lt : Nat → Nat → Bool} {i j : Nat} (h : p i = true) (h2 : amx p lt i = some j) (h3 : lt i j = true) : amx p lt (i + 1) = some i := by rw [amx_s, h, h2]; simp [bet, h3]
theorem amx_stay {p : Nat → Bool} {lt : Nat → Nat → Bool} {i j : Nat} (h2 : amx p lt i = some j) (h3 : lt i j = false) : amx p lt (i + 1) = amx p lt i := by rw [amx_s, h2]; simp [bet, h3]
theorem amx_mem {p : Nat → Bool} {lt : Nat → Nat → Bool} : ∀ {n j : Nat}, amx p lt n = some j → j < n ∧ p j = true
  | 0, j, h => by cases h
  | n + 1, j, h => by
    rw [amx_s] at h
    split at h
    · cases h
      rename_i q
      rw [Bool.and_eq_true] at q
      exact ⟨by omega, q.1⟩
    · obtain ⟨h1, h2⟩ := amx_mem h
      exact ⟨by omega, h2⟩
theorem amx_ext {p q : Nat → Bool} {lt lt' : Nat → Nat → Bool} : ∀ {n : Nat}, (∀ i, i < n → p i = q i) → (∀ i j, i < n → j < n → p i = true → p j = true → lt i j = lt' i j) → amx p lt n = amx q lt' n
  | 0, _, _ => rfl
  | n + 1, h1, h2 => by
    have ih := amx_ext (n := n) (p := p) (q := q) (lt := lt) (lt' := lt') (fun i hi => h1 i (by omega)) (fun i j hi hj => h2 i j (by omega) (by omega))
    rw [amx_s, amx_s, ← ih, ← h1 n (by omega)]
    cases hp : p n with
    | false => simp
    | true =>
      cases ha : amx p lt n with
      | none => rfl
      | some j =>
        obtain ⟨hj1, hj2⟩ := amx_mem ha
        show (if (true && lt n j) = true then some n else some j) = (if (true && lt' n j) = true then some n else some j)
        rw [h2 n j (by omega) (by omega) hp hj2]
theorem amx_up {p : Nat → Bool} {lt : Nat → Nat → Bool} {n : Nat} : ∀ {m : Nat}, n ≤ m → (∀ i, n ≤ i → i < m → p i = false) → amx p lt m = amx p lt n
  | 0, h, _ => by
    have : n = 0 := by omega
    subst this
    rfl
  | m + 1, h, hp => by
    rcases Nat.lt_or_ge n (m + 1) with q | q
    · rw [amx_no (hp m (by omega) (by omega))]
      exact amx_up (by omega) (fun i h1 h2 => hp i h1 (by omega))
    · have : n = m + 1 := by omega
      subst this
      rfl
theorem amx_none {p : Nat → Bool} {lt : Nat → Nat → Bool} : ∀ {n : Nat}, amx p lt n = none → ∀ i, i < n → p i = false
  | 0, _, i, hi => by omega
  | n + 1, h, i, hi => by
    rw [amx_s] at h
    split at h
    · cases h
    · rename_i q
      rw [h] at q
      rcases Nat.lt_or_ge i n with z | z
      · exact amx_none h i z
      · have : i = n := by omega
        subst this
        simpa [bet] using q
/-- a node's number, or none -/
def on (o : Option Nat) : Int32 := match o with
  | none => -1
  | some k => nI k
theorem on_ok {N : Nat} {o : Option Nat} (h : ∀ k, o = some k → k < N) : okN N (on o) := by
  cases o with
  | none => exact Or.inl rfl
  | some k => exact Or.inr ⟨k, h k rfl, rfl⟩
theorem on_m1 {o : Option Nat} (h : ∀ k, o = some k → k < 2 ^ 31) : on o = -1 ↔ o = none := by
  cases o with
  | none => simp [on]
  | some k => simp [on]; exact nI_m1 (h k rfl)
/-! leaders and replicas -/
def lead (σ : Nat → Nat → Int32) (x : Int32) : Nat := ct (fun r => decide (σ 11 r = x)) (nR σ)
theorem lead_le {σ : Nat → Nat → Int32} (I : IV σ) (x : Int32) : lead σ x ≤ 16 := Nat.le_trans (ct_le _ _) I.R.2.2
theorem k_ledByL {σ : Nat → Nat → Int32} (I : IV σ) (x : Int32) : ∀ k i n, i + k = nR σ → k < n → f_X5_ledBy_4 n σ x (nI (ct (fun r => decide (σ 11 r = x)) i)) (nI i) = some (nI (lead σ x)) := by
  obtain ⟨hR, hR1, hR2⟩ := I.R
  intro k
  induction k with
  | zero =>
    intro i n hi hn
    obtain ⟨n, rfl⟩ : ∃ m, n = m + 1 := ⟨n - 1, by omega⟩
    have e : i = nR σ := by omega
    subst e
    rw [f_X5_ledBy_4, hR, if_pos (nI_le (Nat.le_refl _) (by omega))]
    rfl
  | succ k ih =>
    intro i n hi hn
    obtain ⟨n, rfl⟩ : ∃ m, n = m + 1 := ⟨n - 1, by omega⟩
    have h1 := ih (i + 1) n (by omega) (by omega)
    rw [ct_s] at h1
    rw [f_X5_ledBy_4, hR, if_le (by omega) (by omega), if_neg (by omega), ld_n (by omega) (by decide), nI_1, nI_1]
    by_cases q : σ 11 i = x
    · rw [if_pos q]
      rw [if_pos (by simpa using q)] at h1
      exact h1
    · rw [if_neg q]
      rw [if_neg (by simpa using q)] at h1
      exact h1
theorem k_ledBy {σ : Nat → Nat → Int32} (I : IV σ) (x : Int32) : f_X5_ledBy σ x = some (nI (lead σ x)) :=
  k_ledByL I x (nR σ) 0 FU (by omega) (FU_gt (by have := I.R.2.2; omega))
def least (σ : Nat → Nat → Int32) (m n : Nat) : Option Nat := amx (fun k => m.testBit k) (fun i j => decide (lead σ (nI i) < lead σ (nI j))) n
theorem k_leastL {σ : Nat → Nat → Int32} (I : IV σ) {m : Nat} (hm : m < 256) : ∀ k i n, i + k = nN σ → k < n → f_X0_leastLeading_8 n σ (nI m) (on (least σ m i)) (match least σ m i with | none => 17 | some j => nI (lead σ (nI j))) (nI i) = some (on (least σ m (nN σ))) := by
  obtain ⟨hN, hN2⟩ := I.N
  intro k
  induction k with
  | zero =>
    intro i n hi hn
    obtain ⟨n, rfl⟩ : ∃ m, n = m + 1 := ⟨n - 1, by omega⟩
    have e : i = nN σ := by omega
    subst e
    rw [f_X0_leastLeading_8, hN, if_pos (nI_le (Nat.le_refl _) (by omega))]
  | succ k ih =>
    intro i n hi hn
    obtain ⟨n, rfl⟩ : ∃ m, n = m + 1 := ⟨n - 1, by omega⟩
    have h1 := ih (i + 1) n (by omega) (by omega)
    rw [f_X0_leastLeading_8, hN, if_le (by omega) (by omega), if_neg (by omega), bitF (by omega), bd_s, bit_if hm (by omega), nI_1]
    cases hb : m.testBit i with
    | false =>
      have e : least σ m (i + 1) = least σ m i := amx_no hb
      rw [e] at h1
      exact h1
    | true =>
      have hl := lead_le I (nI i)
      show ((f_X5_ledBy σ (nI i)).bind _) = _
      rw [k_ledBy I, bd_s]
      cases ha : least σ m i with
      | none =>
        have e : least σ m (i + 1) = some i := amx_first hb ha
        rw [e] at h1
        show (if (17 : Int32) ≤ nI (lead σ (nI i)) then _ else _) = _
        rw [show (17 : Int32) = nI 17 from rfl, if_le (by omega) (by omega), if_neg (by omega)]
        exact h1
      | some j =>
        have hl2 := lead_le I (nI j)
        show (if nI (lead σ (nI j)) ≤ nI (lead σ (nI i)) then _ else _) = _
        rw [if_le (by omega) (by omega)]
        by_cases q : lead σ (nI i) < lead σ (nI j)
        · have e : least σ m (i + 1) = some i := amx_yes hb ha (by simpa using q)
          rw [e] at h1
          rw [if_neg (by omega)]
          exact h1
        · have e : least σ m (i + 1) = least σ m i := amx_stay ha (by simpa using q)
          rw [e, ha] at h1
          rw [if_pos (by omega)]
          exact h1
theorem k_least {σ : Nat → Nat → Int32} (I : IV σ) {m : Nat} (hm : m < 256) : f_X0_leastLeading σ (nI m) = some (on (least σ m (nN σ))) :=
  k_leastL I hm (nN σ) 0 FU (by omega) (FU_gt (by have := I.N.2; omega))
def repl (σ : Nat → Nat → Int32) (k : Nat) : Nat := ct (fun r => (nV σ r).testBit k || decide (σ 12 r = nI k)) (nR σ)
theorem repl_le {σ : Nat → Nat → Int32} (I : IV σ) (k : Nat) : repl σ k ≤ 16 := Nat.le_trans (ct_le _ _) I.R.2.2
theorem k_replL {σ : Nat → Nat → Int32} (I : IV σ) {x : Nat} (hx : x < 8) : ∀ k i n, i + k = nR σ → k < n → f_X5_replicasOn_10 n σ (nI x) (nI (2 ^ x)) (nI (ct (fun r => (nV σ r).testBit x || decide (σ 12 r = nI x)) i)) (nI i) = some (nI (repl σ x)) := by
  obtain ⟨hR, hR1, hR2⟩ := I.R
  intro k
  induction k with
  | zero =>
    intro i n hi hn
    obtain ⟨n, rfl⟩ : ∃ m, n = m + 1 := ⟨n - 1, by omega⟩
    have e : i = nR σ := by omega
    subst e
    rw [f_X5_replicasOn_10, hR, if_pos (nI_le (Nat.le_refl _) (by omega))]
    rfl
  | succ k ih =>
    intro i n hi hn
    obtain ⟨n, rfl⟩ : ∃ m, n = m + 1 := ⟨n - 1, by omega⟩
    have h1 := ih (i + 1) n (by omega) (by omega)
    rw [ct_s] at h1
    rw [f_X5_replicasOn_10, hR, if_le (by omega) (by omega), if_neg (by omega), ld_n (by omega) (by decide), (I.r i (by omega)).2.1.1, bit_if (I.V8 (by omega)) hx, nI_1, nI_1]
    cases hb : (nV σ i).testBit x with
    | true =>
      rw [if_pos (by simp [hb])] at h1
      exact h1
    | false =>
      rw [cond_false, ld_n (by omega) (by decide)]
      by_cases q : σ 12 i = nI x
      · rw [if_pos q]
        rw [if_pos (by simp [q])] at h1
        exact h1
      · rw [if_neg q]
        rw [if_neg (by simp [hb, q])] at h1
        exact h1
theorem k_repl {σ : Nat → Nat → Int32} (I : IV σ) {x : Nat} (hx : x < 8) : f_X5_replicasOn σ (nI x) = some (nI (repl σ x)) := by
  unfold f_X5_replicasOn
  rw [bitF hx, bd_s]
  exact k_replL I hx (nR σ) 0 FU (by omega) (FU_gt (by have := I.R.2.2; omega))
theorem k_isUp {σ : Nat → Nat → Int32} (I : IV σ) {x : Nat} (hx : x < 8) : f_X4_isUp σ (nI x) = some (bi ((nU σ).testBit x)) := by
  unfold f_X4_isUp
  rw [bitF hx, bd_s, I.U.1, bit_if I.U8 hx]
  cases (nU σ).testBit x <;> rfl
theorem k_isUpM {σ : Nat → Nat → Int32} (I : IV σ) : f_X4_isUp σ (-1) = some 0 := by
  unfold f_X4_isUp
  rw [bitM, bd_s, I.U.1, show (0 : Int32) = nI 0 from rfl, nI_and, Nat.and_zero, if_pos rfl]
/-! zones -/
def zs (σ : Nat → Nat → Int32) (m : Nat) : Nat → Nat
  | 0 => 0
  | i + 1 => if m.testBit i = true then zs σ m i ||| 2 ^ nZ σ i else zs σ m i
theorem zs_bit (σ : Nat → Nat → Int32) (m z : Nat) : ∀ n, (zs σ m n).testBit z = true ↔ ∃ k, k < n ∧ m.testBit k = true ∧ nZ σ k = z
  | 0 => by simp [zs]
  | n + 1 => by
    have ih := zs_bit σ m z n
    unfold zs
    split
    · rename_i q
      rw [Nat.testBit_or, Bool.or_eq_true, ih, Nat.testBit_two_pow]
      constructor
      · rintro (⟨k, h1, h2⟩ | h)
        · exact ⟨k, by omega, h2⟩
        · exact ⟨n, by omega, q, by simpa using h⟩
      · rintro ⟨k, h1, h2, h3⟩
        rcases Nat.lt_or_ge k n with z1 | z1
        · exact Or.inl ⟨k, z1, h2, h3⟩
        · have : k = n := by omega
          subst this
          exact Or.inr (by simpa using h3)
    · rename_i q
      rw [ih]
      constructor
      · rintro ⟨k, h1, h2⟩
        exact ⟨k, by omega, h2⟩
      · rintro ⟨k, h1, h2, h3⟩
        rcases Nat.lt_or_ge k n with z1 | z1
        · exact ⟨k, z1, h2, h3⟩
        · have : k = n := by omega
          subst this
          exact absurd h2 q
theorem zs_lt {σ : Nat → Nat → Int32} (I : IV σ) (m : Nat) : ∀ n, n ≤ nN σ → zs σ m n < 2 ^ 4
  | 0, _ => by show 0 < 2 ^ 4; decide
  | n + 1, h => by
    have ih := zs_lt I m n (by omega)
    have hz := (I.Z n (by omega)).2
    unfold zs
    split
    · exact Nat.or_lt_two_pow ih (Nat.pow_lt_pow_right (by decide) (by omega))
    · exact ih
theorem k_zonesL {σ : Nat → Nat → Int32} (I : IV σ) {m : Nat} (hm : m < 256) : ∀ k i n, i + k = nN σ → k < n → f_X4_zonesOf_4 n σ (nI m) (nI (zs σ m i)) (nI i) = some (nI (zs σ m (nN σ))) := by
  obtain ⟨hN, hN2⟩ := I.N
  intro k
  induction k with
  | zero =>
    intro i n hi hn
    obtain ⟨n, rfl⟩ : ∃ m, n = m + 1 := ⟨n - 1, by omega⟩
    have e : i = nN σ := by omega
    subst e
    rw [f_X4_zonesOf_4, hN, if_pos (nI_le (Nat.le_refl _) (by omega))]
  | succ k ih =>
    intro i n hi hn
    obtain ⟨n, rfl⟩ : ∃ m, n = m + 1 := ⟨n - 1, by omega⟩
    have h1 := ih (i + 1) n (by omega) (by omega)
    rw [zs] at h1
    obtain ⟨e1, b1⟩ := I.Z i (by omega)
    rw [f_X4_zonesOf_4, hN, if_le (by omega) (by omega), if_neg (by omega), shr8 m hm i (by omega), bi_if, nI_1]
    cases hb : m.testBit i with
    | false =>
      rw [hb] at h1
      exact h1
    | true =>
      rw [hb] at h1
      rw [cond_true, ld_n (by omega) (by decide), e1, shl8 _ (by omega), nI_or]
      exact h1
theorem k_zones {σ : Nat → Nat → Int32} (I : IV σ) {m : Nat} (hm : m < 256) : f_X4_zonesOf σ (nI m) = some (nI (zs σ m (nN σ))) :=
  k_zonesL I hm (nN σ) 0 FU (by omega) (FU_gt (by have := I.N.2; omega))
/-- no voter of a range but one to be replaced is in a node's zone -/
def fresh (σ : Nat → Nat → Int32) (r : Nat) (x : Int32) (k : Nat) : Bool := decide (∀ j, j < nN σ → ¬ ((nV σ r).testBit j = true ∧ ¬ x = nI j ∧ nZ σ j = nZ σ k))
theorem zs_meet {σ : Nat → Nat → Int32} (I : IV σ) {a b : Nat} : zs σ a (nN σ) &&& zs σ b (nN σ) = 0 ↔ ∀ i j, i < nN σ → j < nN σ → a.testBit i = true → b.testBit j = true → ¬ nZ σ i = nZ σ j := by
  constructor
  · intro h i j hi hj h1 h2 h3
    have q1 := (zs_bit σ a (nZ σ i) (nN σ)).mpr ⟨i, hi, h1, rfl⟩
    have q2 := (zs_bit σ b (nZ σ i) (nN σ)).mpr ⟨j, hj, h2, h3.symm⟩
    have q3 : (zs σ a (nN σ) &&& zs σ b (nN σ)).testBit (nZ σ i) = true := by rw [Nat.testBit_and, q1, q2]; rfl
    rw [h] at q3
    simp at q3
  · intro h
    apply Nat.eq_of_testBit_eq
    intro z
    rw [Nat.zero_testBit]
    cases q : (zs σ a (nN σ) &&& zs σ b (nN σ)).testBit z with
    | false => rfl
    | true =>
      rw [Nat.testBit_and, Bool.and_eq_true] at q
      obtain ⟨i, h1, h2, h3⟩ := (zs_bit σ a z (nN σ)).mp q.1
      obtain ⟨j, g1, g2, g3⟩ := (zs_bit σ b z (nN σ)).mp q.2
      exact absurd (h3.trans g3.symm) (h i j h1 g1 h2 g2)
theorem bm_bit {N : Nat} (hN : N ≤ 8) {x : Int32} (h : okN N x) {j : Nat} (hj : j < 2 ^ 31) : (bm x).testBit j = decide (x = nI j) := by
  rcases h with rfl | ⟨k, hk, rfl⟩
  · rw [bm_m1]
    simp [m1_nI hj]
  · rw [bm_n (by omega), Nat.testBit_two_pow]
    by_cases e : k = j
    · subst e; simp
    · have : ¬ nI k = nI j := fun z => e ((nI_eq (by omega) hj).mp z)
      simp [e, this]
theorem k_isFresh {σ : Nat → Nat → Int32} (I : IV σ) {r k : Nat} {x : Int32} (h : r < nR σ) (hk : k < nN σ) (hx : okN (nN σ) x) : f_X1_isFresh σ (nI r) x (nI k) = some (bi (fresh σ r x k)) := by
  obtain ⟨hR, hR1, hR2⟩ := I.R
  have hN2 := I.N.2
  obtain ⟨e1, b1⟩ := bit_any hN2 hx
  have hz1 := zs_lt I (andn (nV σ r) (bm x)) (nN σ) (Nat.le_refl _)
  unfold f_X1_isFresh
  rw [ld_n (by omega) (by decide), e1, bd_s, (I.r r h).2.1.1, nI_andn (I.V8 h) (lt256 b1 hN2), k_zones I (m := andn (nV σ r) (bm x)) (Nat.lt_of_le_of_lt Nat.and_le_left (I.V8 h)), bd_s, bitF (by omega), bd_s, k_zones I (pow8 k (by omega)), bd_s, nI_and, bi_some1]
  congr 2
  have key : (nI (zs σ (andn (nV σ r) (bm x)) (nN σ) &&& zs σ (2 ^ k) (nN σ)) = 0) ↔ ∀ j, j < nN σ → ¬ ((nV σ r).testBit j = true ∧ ¬ x = nI j ∧ nZ σ j = nZ σ k) := by
    rw [nI_0i (Nat.lt_of_le_of_lt Nat.and_le_left (by omega)), zs_meet I]
    constructor
    · intro q j hj ⟨q1, q2, q3⟩
      refine q j k hj hk ?_ ?_ q3
      · rw [andn_bit (by omega), q1, bm_bit hN2 hx (by omega)]
        simp [q2]
      · simp [Nat.testBit_two_pow]
    · intro q i j hi hj q1 q2 q3
      rw [Nat.testBit_two_pow] at q2
      have e : k = j := by simpa using q2
      subst e
      rw [andn_bit (by omega), bm_bit hN2 hx (by omega)] at q1
      simp only [Bool.and_eq_true, Bool.not_eq_true', decide_eq_false_iff_not] at q1
      exact q i hi ⟨q1.1, q1.2, q3⟩
  unfold fresh
  exact decide_eq_decide.mpr key
