/-! reads of the model -/
theorem EQ.st {σ : Nat → Nat → Int32} {s : Nat → Int32} (E : EQ σ s) : ∀ k, k < 6 → s k = σ 0 k := E.1
theorem EQ.ti {σ : Nat → Nat → Int32} {s : Nat → Int32} (E : EQ σ s) : s 6 = σ 0 11 := E.2.1
theorem EQ.pf {σ : Nat → Nat → Int32} {s : Nat → Int32} (E : EQ σ s) : ∀ a, 1 ≤ a → a ≤ 8 → s (6 + a) = σ 6 a := E.2.2.1
theorem EQ.N {σ : Nat → Nat → Int32} {s : Nat → Int32} (E : EQ σ s) : s 15 = σ 0 6 := E.2.2.2.1
theorem EQ.T {σ : Nat → Nat → Int32} {s : Nat → Int32} (E : EQ σ s) : s 16 = σ 0 9 := E.2.2.2.2.1
theorem EQ.R {σ : Nat → Nat → Int32} {s : Nat → Int32} (E : EQ σ s) : s 17 = σ 0 8 := E.2.2.2.2.2.1
theorem EQ.M {σ : Nat → Nat → Int32} {s : Nat → Int32} (E : EQ σ s) : s 18 = σ 0 10 := E.2.2.2.2.2.2.1
theorem EQ.n {σ : Nat → Nat → Int32} {s : Nat → Int32} (E : EQ σ s) : ∀ k, k < nN σ → s (19 + 3 * k) = σ 7 k ∧ s (20 + 3 * k) = σ 8 k ∧ s (21 + 3 * k) = bi ((nU σ).testBit k) := E.2.2.2.2.2.2.2.1
theorem EQ.r {σ : Nat → Nat → Int32} {s : Nat → Int32} (E : EQ σ s) : ∀ r, r < nR σ → ∀ w, w < 6 → s (171 + 6 * r + w) = σ (9 + w) r := E.2.2.2.2.2.2.2.2.1
theorem EQ.m {σ : Nat → Nat → Int32} {s : Nat → Int32} (E : EQ σ s) : ∀ k, k < nM σ → s (267 + k) = σ 17 k := E.2.2.2.2.2.2.2.2.2.1
theorem EQ.i {σ : Nat → Nat → Int32} {s : Nat → Int32} (E : EQ σ s) : (mI s).Perm (gI σ) := E.2.2.2.2.2.2.2.2.2.2
theorem ix_r (r w : Nat) : (171 : Int32) + (6 : Int32) * nI r + nI w = nI (171 + 6 * r + w) := by
  rw [show (171 : Int32) = nI 171 from rfl, show (6 : Int32) = nI 6 from rfl, pk_mul, nI_add, nI_add]
theorem ix_n (k : Nat) : (19 : Int32) + (3 : Int32) * nI k = nI (19 + 3 * k) := by
  rw [show (19 : Int32) = nI 19 from rfl, show (3 : Int32) = nI 3 from rfl, pk_mul, nI_add]
theorem ix_i (k : Nat) : (43 : Int32) + (2 : Int32) * nI k = nI (43 + 2 * k) := by
  rw [show (43 : Int32) = nI 43 from rfl, show (2 : Int32) = nI 2 from rfl, pk_mul, nI_add]
theorem ix_s (k : Nat) : (267 : Int32) + nI k = nI (267 + k) := by
  rw [show (267 : Int32) = nI 267 from rfl, nI_add]
theorem m_of {σ : Nat → Nat → Int32} {s : Nat → Int32} (I : IV σ) (E : EQ σ s) {r : Nat} (h : r < nR σ) (w : Nat) (hw : w < 6) : f_X9_of s (nI r) (nI w) = some (σ (9 + w) r) := by
  have := I.R.2.2
  unfold f_X9_of
  rw [ix_r, ld_n (by omega) (by decide), E.r r h w hw]
theorem m_of0 {σ : Nat → Nat → Int32} {s : Nat → Int32} (I : IV σ) (E : EQ σ s) {r : Nat} (h : r < nR σ) : f_X9_of s (nI r) 0 = some (σ 9 r) := m_of I E h 0 (by decide)
theorem m_of1 {σ : Nat → Nat → Int32} {s : Nat → Int32} (I : IV σ) (E : EQ σ s) {r : Nat} (h : r < nR σ) : f_X9_of s (nI r) 1 = some (nI (nV σ r)) := (m_of I E h 1 (by decide)).trans (by rw [(I.r r h).2.1.1])
theorem m_of2 {σ : Nat → Nat → Int32} {s : Nat → Int32} (I : IV σ) (E : EQ σ s) {r : Nat} (h : r < nR σ) : f_X9_of s (nI r) 2 = some (σ 11 r) := m_of I E h 2 (by decide)
theorem m_of3 {σ : Nat → Nat → Int32} {s : Nat → Int32} (I : IV σ) (E : EQ σ s) {r : Nat} (h : r < nR σ) : f_X9_of s (nI r) 3 = some (σ 12 r) := m_of I E h 3 (by decide)
theorem m_of4 {σ : Nat → Nat → Int32} {s : Nat → Int32} (I : IV σ) (E : EQ σ s) {r : Nat} (h : r < nR σ) : f_X9_of s (nI r) 4 = some (σ 13 r) := m_of I E h 4 (by decide)
theorem m_of5 {σ : Nat → Nat → Int32} {s : Nat → Int32} (I : IV σ) (E : EQ σ s) {r : Nat} (h : r < nR σ) : f_X9_of s (nI r) 5 = some (σ 14 r) := m_of I E h 5 (by decide)
theorem ld_N {β : Type} {σ : Nat → Nat → Int32} {s : Nat → Int32} (I : IV σ) (E : EQ σ s) (k : Int32 → Option β) : ld s 299 (15 : Int32) k = k (nI (nN σ)) := by
  rw [show (15 : Int32) = nI 15 from rfl, ld_n (by decide) (by decide), E.N, I.N.1]
theorem ld_R {β : Type} {σ : Nat → Nat → Int32} {s : Nat → Int32} (I : IV σ) (E : EQ σ s) (k : Int32 → Option β) : ld s 299 (17 : Int32) k = k (nI (nR σ)) := by
  rw [show (17 : Int32) = nI 17 from rfl, ld_n (by decide) (by decide), E.R, I.R.1]
theorem ld_T {β : Type} {σ : Nat → Nat → Int32} {s : Nat → Int32} (I : IV σ) (E : EQ σ s) (k : Int32 → Option β) : ld s 299 (16 : Int32) k = k (nI (nT σ)) := by
  rw [show (16 : Int32) = nI 16 from rfl, ld_n (by decide) (by decide), E.T, I.T.1]
theorem ld_M {β : Type} {σ : Nat → Nat → Int32} {s : Nat → Int32} (I : IV σ) (E : EQ σ s) (k : Int32 → Option β) : ld s 299 (18 : Int32) k = k (nI (nM σ)) := by
  rw [show (18 : Int32) = nI 18 from rfl, ld_n (by decide) (by decide), E.M, I.M.1]
theorem m_isUp {σ : Nat → Nat → Int32} {s : Nat → Int32} (I : IV σ) (E : EQ σ s) {k : Nat} (h : k < nN σ) : f_X9_isUp s (nI k) = some (bi ((nU σ).testBit k)) := by
  have := I.N.2
  unfold f_X9_isUp
  rw [ix_n, show (2 : Int32) = nI 2 from rfl, nI_add, ld_n (by omega) (by decide), show 19 + 3 * k + 2 = 21 + 3 * k by omega, (E.n k h).2.2]
  cases (nU σ).testBit k <;> rfl
theorem m_zone {σ : Nat → Nat → Int32} {s : Nat → Int32} (I : IV σ) (E : EQ σ s) {k : Nat} (h : k < nN σ) : f_X9_zone s (nI k) = some (nI (nZ σ k)) := by
  have := I.N.2
  unfold f_X9_zone
  rw [ix_n, ld_n (by omega) (by decide), (E.n k h).1, (I.Z k h).1]
theorem has8 {m k : Nat} (hm : m < 256) (hk : k < 8) : f_X9_has (nI m) (nI k) = some (bi (m.testBit k)) := by
  unfold f_X9_has
  rw [shr8 m hm k hk, bi_some1]
  congr 2
  cases m.testBit k <;> decide
theorem m_countL {m : Nat} (hm : m < 256) : ∀ k i n, i + k = 8 → k < n → f_X9_count_4 n (nI m) (nI (ct (fun k => m.testBit k) i)) (nI i) = some (nI (pc m)) := by
  intro k
  induction k with
  | zero =>
    intro i n hi hn
    obtain ⟨n, rfl⟩ : ∃ m, n = m + 1 := ⟨n - 1, by omega⟩
    have e : i = 8 := by omega
    subst e
    rw [f_X9_count_4, if_pos (by decide)]
    rfl
  | succ k ih =>
    intro i n hi hn
    obtain ⟨n, rfl⟩ : ∃ m, n = m + 1 := ⟨n - 1, by omega⟩
    have h1 := ih (i + 1) n (by omega) (by omega)
    rw [ct_s] at h1
    rw [f_X9_count_4, show (8 : Int32) = nI 8 from rfl, if_le (by omega) (by omega), if_neg (by omega), shr8 m hm i (by omega), nI_1]
    cases hb : m.testBit i with
    | true =>
      rw [hb, if_pos rfl] at h1
      rw [bi_t, nI_1]
      exact h1
    | false =>
      rw [hb] at h1
      rw [bi_f, show (0 : Int32) = nI 0 from rfl, nI_add]
      exact h1
theorem m_count {m : Nat} (hm : m < 256) : f_X9_count (nI m) = some (nI (pc m)) := m_countL hm 8 0 FU rfl (FU_gt (by decide))
theorem mod_bit (m i : Nat) : m % 2 ^ (i + 1) = (m % 2 ^ i) ||| (if m.testBit i = true then 2 ^ i else 0) := by
  apply Nat.eq_of_testBit_eq
  intro j
  rw [Nat.testBit_or, Nat.testBit_mod_two_pow, Nat.testBit_mod_two_pow]
  by_cases h : m.testBit i = true
  · rw [if_pos h, Nat.testBit_two_pow]
    rcases Nat.lt_trichotomy j i with q | q | q
    · have : ¬ i = j := by omega
      simp [q, this, show j < i + 1 by omega]
    · subst q
      simp [h]
    · have h1 : ¬ j < i := by omega
      have h2 : ¬ i = j := by omega
      have h3 : ¬ j < i + 1 := by omega
      simp [h1, h2, h3]
  · rw [if_neg h]
    rcases Nat.lt_trichotomy j i with q | q | q
    · simp [q, show j < i + 1 by omega]
    · subst q
      simp [h]
    · have h1 : ¬ j < i := by omega
      have h3 : ¬ j < i + 1 := by omega
      simp [h1, h3]
theorem m_upsL {σ : Nat → Nat → Int32} {s : Nat → Int32} (I : IV σ) (E : EQ σ s) : ∀ k i n, i + k = nN σ → k < n → f_X9_ups_4 n s (nI (nU σ % 2 ^ i)) (nI i) = some (nI (nU σ)) := by
  have hN2 := I.N.2
  intro k
  induction k with
  | zero =>
    intro i n hi hn
    obtain ⟨n, rfl⟩ : ∃ m, n = m + 1 := ⟨n - 1, by omega⟩
    have e : i = nN σ := by omega
    subst e
    rw [f_X9_ups_4, ld_N I E, if_pos (nI_le (Nat.le_refl _) (by omega)), Nat.mod_eq_of_lt I.U.2]
  | succ k ih =>
    intro i n hi hn
    obtain ⟨n, rfl⟩ : ∃ m, n = m + 1 := ⟨n - 1, by omega⟩
    have h1 := ih (i + 1) n (by omega) (by omega)
    rw [mod_bit] at h1
    rw [f_X9_ups_4, ld_N I E, if_le (by omega) (by omega), if_neg (by omega), m_isUp I E (by omega), bd_s, bi_if, nI_1, shl8 i (by omega), show (0 : Int32) = nI 0 from rfl, nI_or, nI_or]
    cases hb : (nU σ).testBit i with
    | true => rw [hb] at h1; exact h1
    | false => rw [hb] at h1; exact h1
theorem m_ups {σ : Nat → Nat → Int32} {s : Nat → Int32} (I : IV σ) (E : EQ σ s) : f_X9_ups s = some (nI (nU σ)) := by
  have h := m_upsL I E (nN σ) 0 FU (by omega) (FU_gt (by have := I.N.2; omega))
  rw [show nU σ % 2 ^ 0 = 0 from Nat.mod_one _] at h
  exact h
theorem m_avail {σ : Nat → Nat → Int32} {s : Nat → Int32} (I : IV σ) (E : EQ σ s) {r : Nat} (h : r < nR σ) : f_X9_available s (nI r) = some (bi (quo σ r)) := by
  have h1 := pc_le (nV σ r)
  have h2 := pc_le (nV σ r &&& nU σ)
  unfold f_X9_available
  rw [m_of1 I E h, bd_s, m_ups I E, bd_s, nI_and, m_count (Nat.lt_of_le_of_lt Nat.and_le_left (I.V8 h)), bd_s, bd_s, m_count (I.V8 h), bd_s, show (2 : Int32) = nI 2 from rfl, pk_mul, if_le (by omega) (by omega), bi_some]
  congr 2
  unfold quo
  by_cases q : pc (nV σ r) < 2 * pc (nV σ r &&& nU σ) <;> simp [q] <;> omega
theorem m_replL {σ : Nat → Nat → Int32} {s : Nat → Int32} (I : IV σ) (E : EQ σ s) {x : Nat} (hx : x < 8) : ∀ k i n, i + k = nR σ → k < n → f_X9_replicasOf_4 n s (nI x) (nI (ct (fun r => (nV σ r).testBit x || decide (σ 12 r = nI x)) i)) (nI i) = some (nI (repl σ x)) := by
  obtain ⟨hR, hR1, hR2⟩ := I.R
  intro k
  induction k with
  | zero =>
    intro i n hi hn
    obtain ⟨n, rfl⟩ : ∃ m, n = m + 1 := ⟨n - 1, by omega⟩
    have e : i = nR σ := by omega
    subst e
    rw [f_X9_replicasOf_4, ld_R I E, if_pos (nI_le (Nat.le_refl _) (by omega))]
    rfl
  | succ k ih =>
    intro i n hi hn
    obtain ⟨n, rfl⟩ : ∃ m, n = m + 1 := ⟨n - 1, by omega⟩
    have h1 := ih (i + 1) n (by omega) (by omega)
    rw [ct_s] at h1
    rw [f_X9_replicasOf_4, ld_R I E, if_le (by omega) (by omega), if_neg (by omega), m_of1 I E (by omega), bd_s, has8 (I.V8 (by omega)) hx, bd_s, bi_if]
    unfold f_X9_replicasOf_39
    rw [nI_1, nI_1]
    cases hb : (nV σ i).testBit x with
    | true =>
      rw [if_pos (by simp [hb])] at h1
      exact h1
    | false =>
      rw [cond_false, m_of3 I E (by omega), bd_s]
      by_cases q : σ 12 i = nI x
      · rw [if_pos q]
        rw [if_pos (by simp [q])] at h1
        exact h1
      · rw [if_neg q, show (0 : Int32) = nI 0 from rfl, nI_add]
        rw [if_neg (by simp [hb, q])] at h1
        exact h1
theorem m_repl {σ : Nat → Nat → Int32} {s : Nat → Int32} (I : IV σ) (E : EQ σ s) {x : Nat} (hx : x < 8) : f_X9_replicasOf s (nI x) = some (nI (repl σ x)) :=
  m_replL I E hx (nR σ) 0 FU (by omega) (FU_gt (by have := I.R.2.2; omega))
/-- of how many ranges a node is the leader, one not counted -/
def leadB (σ : Nat → Nat → Int32) (y : Int32) (x : Int32) : Nat := ct (fun r => decide (¬ nI r = y ∧ σ 11 r = x)) (nR σ)
theorem m_leadsL {σ : Nat → Nat → Int32} {s : Nat → Int32} (I : IV σ) (E : EQ σ s) (x y : Int32) : ∀ k i n, i + k = nR σ → k < n → f_X9_leads_5 n s x y (nI (ct (fun r => decide (¬ nI r = y ∧ σ 11 r = x)) i)) (nI i) = some (nI (leadB σ y x)) := by
  obtain ⟨hR, hR1, hR2⟩ := I.R
  intro k
  induction k with
  | zero =>
    intro i n hi hn
    obtain ⟨n, rfl⟩ : ∃ m, n = m + 1 := ⟨n - 1, by omega⟩
    have e : i = nR σ := by omega
    subst e
    rw [f_X9_leads_5, ld_R I E, if_pos (nI_le (Nat.le_refl _) (by omega))]
    rfl
  | succ k ih =>
    intro i n hi hn
    obtain ⟨n, rfl⟩ : ∃ m, n = m + 1 := ⟨n - 1, by omega⟩
    have h1 := ih (i + 1) n (by omega) (by omega)
    rw [ct_s] at h1
    rw [f_X9_leads_5, ld_R I E, if_le (by omega) (by omega), if_neg (by omega)]
    unfold f_X9_leads_39
    rw [show (0 : Int32) = nI 0 from rfl, nI_add, nI_1]
    by_cases q : nI i = y
    · rw [if_pos q]
      rw [if_neg (by simp [q])] at h1
      exact h1
    · rw [if_neg q, m_of2 I E (by omega), bd_s, nI_1]
      by_cases q2 : σ 11 i = x
      · rw [if_pos q2]
        rw [if_pos (by simp [q, q2])] at h1
        exact h1
      · rw [if_neg q2]
        rw [if_neg (by simp [q2])] at h1
        exact h1
theorem m_leads {σ : Nat → Nat → Int32} {s : Nat → Int32} (I : IV σ) (E : EQ σ s) (x y : Int32) : f_X9_leads s x y = some (nI (leadB σ y x)) :=
  m_leadsL I E x y (nR σ) 0 FU (by omega) (FU_gt (by have := I.R.2.2; omega))
theorem leadB_m1 {σ : Nat → Nat → Int32} (I : IV σ) (x : Int32) : leadB σ (-1) x = lead σ x :=
  ct_cong (fun k hk => by
    have := I.R.2.2
    simp [nI_m1 (a := k) (by omega)])
theorem leadB_le {σ : Nat → Nat → Int32} (I : IV σ) (y x : Int32) : leadB σ y x ≤ 16 := Nat.le_trans (ct_le _ _) I.R.2.2
/-- the voters of a range but one, below a number, that are in a node's zone: none -/
def frU (σ : Nat → Nat → Int32) (r : Nat) (x : Int32) (k n : Nat) : Bool := decide (∀ j, j < n → ¬ ((nV σ r).testBit j = true ∧ ¬ x = nI j ∧ nZ σ j = nZ σ k))
theorem m_freshL {σ : Nat → Nat → Int32} {s : Nat → Int32} (I : IV σ) (E : EQ σ s) {r k0 : Nat} {x : Int32} (h : r < nR σ) (hk0 : k0 < nN σ) : ∀ k i n, i + k = nN σ → k < n → f_X9_isFresh_6 n s (nI r) (nI k0) x (bi (frU σ r x k0 i)) (nI i) = some (bi (fresh σ r x k0)) := by
  have hN2 := I.N.2
  intro k
  induction k with
  | zero =>
    intro i n hi hn
    obtain ⟨n, rfl⟩ : ∃ m, n = m + 1 := ⟨n - 1, by omega⟩
    have e : i = nN σ := by omega
    subst e
    rw [f_X9_isFresh_6, ld_N I E, if_pos (nI_le (Nat.le_refl _) (by omega)), zr_bi]
    rfl
  | succ k ih =>
    intro i n hi hn
    obtain ⟨n, rfl⟩ : ∃ m, n = m + 1 := ⟨n - 1, by omega⟩
    have h1 := ih (i + 1) n (by omega) (by omega)
    have hu : frU σ r x k0 (i + 1) = (frU σ r x k0 i && !decide ((nV σ r).testBit i = true ∧ ¬ x = nI i ∧ nZ σ i = nZ σ k0)) := by
      unfold frU
      by_cases q : (nV σ r).testBit i = true ∧ ¬ x = nI i ∧ nZ σ i = nZ σ k0
      · have q2 : ¬ ∀ j, j < i + 1 → ¬ ((nV σ r).testBit j = true ∧ ¬ x = nI j ∧ nZ σ j = nZ σ k0) := fun z => z i (by omega) q
        rw [decide_eq_false q2, decide_eq_true q]
        simp
      · rw [decide_eq_false q, Bool.not_false, Bool.and_true]
        apply decide_eq_decide.mpr
        constructor
        · intro z j hj
          exact z j (by omega)
        · intro z j hj
          rcases Nat.lt_or_ge j i with w | w
          · exact z j w
          · have : j = i := by omega
            subst this
            exact q
    rw [hu] at h1
    rw [f_X9_isFresh_6, ld_N I E, if_le (by omega) (by omega), if_neg (by omega), bi_if, nI_1]
    unfold f_X9_isFresh_57
    rw [nI_1]
    cases hf : frU σ r x k0 i with
    | false =>
      rw [hf] at h1
      exact h1
    | true =>
      rw [hf, Bool.true_and] at h1
      rw [cond_true, m_of1 I E h, bd_s, has8 (I.V8 h) (by omega), bd_s, bi_if]
      cases hb : (nV σ r).testBit i with
      | false =>
        rw [decide_eq_false (by simp [hb])] at h1
        exact h1
      | true =>
        rw [cond_true]
        by_cases q : nI i = x
        · rw [if_pos q]
          rw [decide_eq_false (by simp [q])] at h1
          exact h1
        · have hz1 := (I.Z i (by omega)).2
          have hz2 := (I.Z k0 hk0).2
          rw [if_neg q, m_zone I E (by omega), bd_s, m_zone I E hk0, bd_s, if_eq (by omega) (by omega)]
          by_cases q2 : nZ σ i = nZ σ k0
          · rw [if_pos q2]
            rw [decide_eq_true ⟨hb, fun z => q z.symm, q2⟩] at h1
            exact h1
          · rw [if_neg q2]
            rw [decide_eq_false (by simp [q2])] at h1
            exact h1
theorem m_fresh {σ : Nat → Nat → Int32} {s : Nat → Int32} (I : IV σ) (E : EQ σ s) {r k0 : Nat} {x : Int32} (h : r < nR σ) (hk0 : k0 < nN σ) : f_X9_isFresh s (nI r) (nI k0) x = some (bi (fresh σ r x k0)) := by
  have h1 := m_freshL I E (x := x) h hk0 (nN σ) 0 FU (by omega) (FU_gt (by have := I.N.2; omega))
  rw [show frU σ r x k0 0 = true from decide_eq_true (fun j hj => by omega)] at h1
  exact h1
def rkm (σ : Nat → Nat → Int32) (r : Nat) (x : Int32) (k : Nat) : Nat := (if fresh σ r x k = true then 0 else 100) + repl σ k
theorem rkm_lt {σ : Nat → Nat → Int32} (I : IV σ) (r : Nat) (x : Int32) (i j : Nat) : decide (rkm σ r x i < rkm σ r x j) = decide (rk σ r x i < rk σ r x j) := by
  have h1 := repl_le I i
  have h2 := repl_le I j
  apply decide_eq_decide.mpr
  unfold rkm rk
  by_cases q1 : fresh σ r x i = true
  · by_cases q2 : fresh σ r x j = true
    · rw [if_pos q1, if_pos q2, if_pos q1, if_pos q2]; omega
    · rw [if_pos q1, if_neg q2, if_pos q1, if_neg q2]; omega
  · by_cases q2 : fresh σ r x j = true
    · rw [if_neg q1, if_pos q2, if_neg q1, if_pos q2]; omega
    · rw [if_neg q1, if_neg q2, if_neg q1, if_neg q2]; omega
theorem m_chooseL {σ : Nat → Nat → Int32} {s : Nat → Int32} (I : IV σ) (E : EQ σ s) {r : Nat} {x : Int32} (h : r < nR σ) : ∀ k i n, i + k = nN σ → k < n → f_X9_choose_8 n s (nI r) x (on (chs σ r x i)) (match chs σ r x i with | none => 0 | some j => nI (rkm σ r x j)) (nI i) = some (on (chs σ r x (nN σ))) := by
  have hN2 := I.N.2
  intro k
  induction k with
  | zero =>
    intro i n hi hn
    obtain ⟨n, rfl⟩ : ∃ m, n = m + 1 := ⟨n - 1, by omega⟩
    have e : i = nN σ := by omega
    subst e
    rw [f_X9_choose_8, ld_N I E, if_pos (nI_le (Nat.le_refl _) (by omega))]
  | succ k ih =>
    intro i n hi hn
    obtain ⟨n, rfl⟩ : ∃ m, n = m + 1 := ⟨n - 1, by omega⟩
    have h1 := ih (i + 1) n (by omega) (by omega)
    have hrp := repl_le I i
    -- what comes behind the four tests: may is y
    have tl : ∀ y : Bool, y = cnd σ r i → f_X9_choose_86 (f_X9_choose_8 n) s (nI r) x (on (chs σ r x i)) (match chs σ r x i with | none => 0 | some j => nI (rkm σ r x j)) (nI i) (nI (repl σ i)) (bi y) = some (on (chs σ r x (nN σ))) := by
      intro y hy
      unfold f_X9_choose_86
      rw [m_fresh I E h (by omega), bd_s, bi_if]
      have hrk : (bif fresh σ r x i then f_X9_choose_105 (f_X9_choose_8 n) s (nI r) x (on (chs σ r x i)) (match chs σ r x i with | none => 0 | some j => nI (rkm σ r x j)) (nI i) (nI (repl σ i)) (bi y) 0 else f_X9_choose_105 (f_X9_choose_8 n) s (nI r) x (on (chs σ r x i)) (match chs σ r x i with | none => 0 | some j => nI (rkm σ r x j)) (nI i) (nI (repl σ i)) (bi y) 100) = f_X9_choose_105 (f_X9_choose_8 n) s (nI r) x (on (chs σ r x i)) (match chs σ r x i with | none => 0 | some j => nI (rkm σ r x j)) (nI i) (nI (repl σ i)) (bi y) (nI (if fresh σ r x i = true then 0 else 100)) := by
        cases hf : fresh σ r x i <;> rfl
      rw [hrk]
      unfold f_X9_choose_105
      rw [bi_if, nI_1, nI_add, show (if fresh σ r x i = true then 0 else 100) + repl σ i = rkm σ r x i from rfl]
      cases hc : cnd σ r i with
      | false =>
        rw [hy, hc, cond_false]
        have e : chs σ r x (i + 1) = chs σ r x i := amx_no hc
        rw [e] at h1
        exact h1
      | true =>
        rw [hy, hc, cond_true]
        cases ha : chs σ r x i with
        | none =>
          have e : chs σ r x (i + 1) = some i := amx_first hc ha
          rw [e] at h1
          rw [if_pos (show on none = -1 from rfl)]
          unfold f_X9_choose_127
          rw [nI_1]
          exact h1
        | some j =>
          have hj := (amx_mem ha).1
          have hl : rkm σ r x i ≤ 116 ∧ rkm σ r x j ≤ 116 := by
            have := repl_le I j
            unfold rkm
            constructor <;> split <;> omega
          show (if nI j = -1 then _ else _) = _
          rw [if_neg (nI_m1 (by omega))]
          show (if nI (rkm σ r x j) ≤ nI (rkm σ r x i) then _ else _) = _
          rw [if_le (by omega) (by omega)]
          have hlt := rkm_lt I r x i j
          by_cases q2 : rkm σ r x i < rkm σ r x j
          · have e : chs σ r x (i + 1) = some i := amx_yes hc ha (by rw [← hlt]; simpa using q2)
            rw [e] at h1
            rw [if_neg (by omega)]
            unfold f_X9_choose_127
            rw [nI_1]
            exact h1
          · have e : chs σ r x (i + 1) = chs σ r x i := amx_stay ha (by rw [← hlt]; simpa using q2)
            rw [e, ha] at h1
            rw [if_pos (by omega)]
            exact h1
    have tl0 : cnd σ r i = false → f_X9_choose_85 (f_X9_choose_8 n) s (nI r) x (on (chs σ r x i)) (match chs σ r x i with | none => 0 | some j => nI (rkm σ r x j)) (nI i) (nI (repl σ i)) = some (on (chs σ r x (nN σ))) := fun hc => tl false hc.symm
    rw [f_X9_choose_8, ld_N I E, if_le (by omega) (by omega), if_neg (by omega), m_repl I E (by omega), bd_s, m_isUp I E (by omega), bd_s, bi_if]
    cases hu : (nU σ).testBit i with
    | false => exact tl0 (by unfold cnd; rw [hu]; rfl)
    | true =>
      rw [cond_true, ix_n, show (1 : Int32) = nI 1 from rfl, nI_add, ld_n (by omega) (by decide), show 19 + 3 * i + 1 = 20 + 3 * i by omega, (E.n i (by omega)).2.1]
      by_cases q : σ 8 i ≤ nI (repl σ i)
      · rw [if_pos q]
        exact tl0 (by unfold cnd; simp [q])
      · rw [if_neg q, show nI 1 = (1 : Int32) from rfl, m_of1 I E h, bd_s, has8 (I.V8 h) (by omega), bd_s, bi_if]
        cases hv : (nV σ r).testBit i with
        | true => exact tl0 (by unfold cnd; simp [hv])
        | false =>
          rw [cond_false, m_of3 I E h, bd_s]
          by_cases q3 : σ 12 r = nI i
          · rw [if_pos q3]
            exact tl0 (by unfold cnd; simp [q3])
          · rw [if_neg q3]
            exact tl true (by unfold cnd; simp [hu, hv, q3, q])
theorem m_choose {σ : Nat → Nat → Int32} {s : Nat → Int32} (I : IV σ) (E : EQ σ s) {r : Nat} {x : Int32} (h : r < nR σ) : f_X9_choose s (nI r) x = some (on (chs σ r x (nN σ))) :=
  m_chooseL I E h (nN σ) 0 FU (by omega) (FU_gt (by have := I.N.2; omega))
