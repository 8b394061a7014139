/-! choosing a node -/
def cnd (σ : Nat → Nat → Int32) (r k : Nat) : Bool := (nU σ).testBit k && (!(nV σ r).testBit k && (!decide (σ 12 r = nI k) && !decide (σ 8 k ≤ nI (repl σ k))))
def rk (σ : Nat → Nat → Int32) (r : Nat) (x : Int32) (k : Nat) : Nat := if fresh σ r x k = true then repl σ k else repl σ k + 17
def chs (σ : Nat → Nat → Int32) (r : Nat) (x : Int32) (n : Nat) : Option Nat := amx (cnd σ r) (fun i j => decide (rk σ r x i < rk σ r x j)) n
theorem rk_le {σ : Nat → Nat → Int32} (I : IV σ) (r : Nat) (x : Int32) (k : Nat) : rk σ r x k ≤ 33 := by
  have := repl_le I k
  unfold rk
  split <;> omega
/-- the nodes that are up and hold nothing of the range, as a mask -/
def frM (σ : Nat → Nat → Int32) (r : Nat) : Nat := andn (nU σ) (nV σ r ||| bm (σ 12 r))
theorem frM_8 {σ : Nat → Nat → Int32} (I : IV σ) (r : Nat) : frM σ r < 256 := Nat.lt_of_le_of_lt Nat.and_le_left I.U8
theorem frM_bit {σ : Nat → Nat → Int32} (I : IV σ) {r k : Nat} (h : r < nR σ) (hk : k < 8) : (frM σ r).testBit k = ((nU σ).testBit k && (!(nV σ r).testBit k && !decide (σ 12 r = nI k))) := by
  unfold frM
  rw [andn_bit hk, Nat.testBit_or, bm_bit I.N.2 (I.r r h).2.2.2.1 (by omega), Bool.not_or]
theorem k_chooseM {σ : Nat → Nat → Int32} (I : IV σ) {r : Nat} {x : Int32} (h : r < nR σ) : f_X1_choose σ (nI r) x = f_X1_choose_45 FU σ (nI r) x (nI (frM σ r)) (-1) 0 0 := by
  obtain ⟨hR, hR1, hR2⟩ := I.R
  have hN2 := I.N.2
  obtain ⟨e1, b1⟩ := bit_any hN2 (I.r r h).2.2.2.1
  unfold f_X1_choose frM
  rw [ld_n (by omega) (by decide), ld_n (by omega) (by decide), e1, bd_s, (I.r r h).2.1.1, I.U.1, nI_or, nI_andn I.U8 (Nat.or_lt_two_pow (n := 8) (I.V8 h) (lt256 b1 hN2))]
theorem k_chooseL {σ : Nat → Nat → Int32} (I : IV σ) {r : Nat} {x : Int32} (h : r < nR σ) (hx : okN (nN σ) x) : ∀ k i n, i + k = nN σ → k < n → f_X1_choose_45 n σ (nI r) x (nI (frM σ r)) (on (chs σ r x i)) (match chs σ r x i with | none => 0 | some j => nI (rk σ r x j)) (nI i) = some (on (chs σ r x (nN σ))) := by
  obtain ⟨hN, hN2⟩ := I.N
  intro k
  induction k with
  | zero =>
    intro i n hi hn
    obtain ⟨n, rfl⟩ : ∃ m, n = m + 1 := ⟨n - 1, by omega⟩
    have e : i = nN σ := by omega
    subst e
    rw [f_X1_choose_45, hN, if_pos (nI_le (Nat.le_refl _) (by omega))]
  | succ k ih =>
    intro i n hi hn
    obtain ⟨n, rfl⟩ : ∃ m, n = m + 1 := ⟨n - 1, by omega⟩
    have h1 := ih (i + 1) n (by omega) (by omega)
    have hrp := repl_le I i
    rw [f_X1_choose_45, hN, if_le (by omega) (by omega), if_neg (by omega), k_repl I (by omega), bd_s, bitF (by omega), bd_s, bit_if (frM_8 I r) (by omega), frM_bit I h (by omega), nI_1]
    cases hb : ((nU σ).testBit i && (!(nV σ r).testBit i && !decide (σ 12 r = nI i))) with
    | false =>
      have hc : cnd σ r i = false := by
        unfold cnd
        simp only [Bool.and_eq_false_iff] at hb ⊢
        rcases hb with q | q | q
        · exact Or.inl q
        · exact Or.inr (Or.inl q)
        · exact Or.inr (Or.inr (Or.inl q))
      have e : chs σ r x (i + 1) = chs σ r x i := amx_no hc
      rw [e] at h1
      exact h1
    | true =>
      rw [cond_true, ld_n (by omega) (by decide)]
      by_cases q : σ 8 i ≤ nI (repl σ i)
      · have hc : cnd σ r i = false := by
          unfold cnd
          simp [q]
        have e : chs σ r x (i + 1) = chs σ r x i := amx_no hc
        rw [e] at h1
        rw [if_pos q]
        exact h1
      · have hc : cnd σ r i = true := by
          unfold cnd
          simp only [Bool.and_eq_true] at hb ⊢
          exact ⟨hb.1, hb.2.1, hb.2.2, by simp [q]⟩
        rw [if_neg q, k_isFresh I h (by omega) hx, bd_s, bi_if]
        have hrk : (bif fresh σ r x i then f_X1_choose_117 (f_X1_choose_45 n) σ (nI r) x (nI (frM σ r)) (on (chs σ r x i)) (match chs σ r x i with | none => 0 | some j => nI (rk σ r x j)) (nI i) (nI (repl σ i)) else f_X1_choose_117 (f_X1_choose_45 n) σ (nI r) x (nI (frM σ r)) (on (chs σ r x i)) (match chs σ r x i with | none => 0 | some j => nI (rk σ r x j)) (nI i) (nI (repl σ i) + 16 + 1)) = f_X1_choose_117 (f_X1_choose_45 n) σ (nI r) x (nI (frM σ r)) (on (chs σ r x i)) (match chs σ r x i with | none => 0 | some j => nI (rk σ r x j)) (nI i) (nI (rk σ r x i)) := by
          unfold rk
          cases hf : fresh σ r x i with
          | true => rw [cond_true, if_pos rfl]
          | false => rw [cond_false, if_neg (by decide), show nI (repl σ i) + 16 + 1 = nI (repl σ i + 17) by rw [show (16 : Int32) = nI 16 from rfl, nI_add, nI_1]]
        rw [hrk]
        unfold f_X1_choose_117
        cases ha : chs σ r x i with
        | none =>
          have e : chs σ r x (i + 1) = some i := amx_first hc ha
          rw [e] at h1
          rw [if_pos (show on none = -1 from rfl)]
          unfold f_X1_choose_132
          rw [nI_1]
          exact h1
        | some j =>
          have hj := (amx_mem ha).1
          have hr1 := rk_le I r x i
          have hr2 := rk_le I r x j
          show (if nI j = -1 then _ else _) = _
          rw [if_neg (nI_m1 (by omega))]
          show (if nI (rk σ r x j) ≤ nI (rk σ r x i) then _ else _) = _
          rw [if_le (by omega) (by omega), nI_1]
          by_cases q2 : rk σ r x i < rk σ r x j
          · have e : chs σ r x (i + 1) = some i := amx_yes hc ha (by simpa using q2)
            rw [e] at h1
            rw [if_neg (by omega)]
            unfold f_X1_choose_132
            rw [nI_1]
            exact h1
          · have e : chs σ r x (i + 1) = chs σ r x i := amx_stay ha (by simpa using q2)
            rw [e, ha] at h1
            rw [if_pos (by omega)]
            exact h1
theorem k_choose {σ : Nat → Nat → Int32} (I : IV σ) {r : Nat} {x : Int32} (h : r < nR σ) (hx : okN (nN σ) x) : f_X1_choose σ (nI r) x = some (on (chs σ r x (nN σ))) := by
  rw [k_chooseM I h]
  exact k_chooseL I h hx (nN σ) 0 FU (by omega) (FU_gt (by have := I.N.2; omega))
/-! first and last of a set -/
theorem amx_low {p : Nat → Bool} {i : Nat} (h : p i = true) (h0 : ∀ j, j < i → p j = false) : ∀ n, i < n → amx p (fun _ _ => false) n = some i
  | 0, hn => by omega
  | n + 1, hn => by
    rcases Nat.lt_or_ge i n with q | q
    · rw [amx_stay (amx_low h h0 n q) rfl]
      exact amx_low h h0 n q
    · have : i = n := by omega
      subst this
      have e : amx p (fun _ _ => false) i = none := by
        cases ha : amx p (fun _ _ => false) i with
        | none => rfl
        | some j =>
          obtain ⟨h1, h2⟩ := amx_mem ha
          rw [h0 j h1] at h2
          cases h2
      exact amx_first h e
theorem amx_zero {p : Nat → Bool} {lt : Nat → Nat → Bool} {n : Nat} (h0 : ∀ j, j < n → p j = false) : amx p lt n = none := by
  cases ha : amx p lt n with
  | none => rfl
  | some j =>
    obtain ⟨h1, h2⟩ := amx_mem ha
    rw [h0 j h1] at h2
    cases h2
theorem amx_high {p : Nat → Bool} {i : Nat} (h : p i = true) : ∀ n, i < n → (∀ j, i < j → j < n → p j = false) → amx p (fun _ _ => true) n = some i
  | 0, hn, _ => by omega
  | n + 1, hn, h0 => by
    rcases Nat.lt_or_ge i n with q | q
    · rw [amx_no (h0 n q (by omega))]
      exact amx_high h n q (fun j h1 h2 => h0 j h1 (by omega))
    · have : i = n := by omega
      subst this
      cases ha : amx p (fun _ _ => true) i with
      | none => exact amx_first h ha
      | some j => exact amx_yes h ha rfl
theorem k_lowestL {σ : Nat → Nat → Int32} (I : IV σ) {m : Nat} (hm : m < 256) : ∀ k i n, i + k = nN σ → k < n → (∀ j, j < i → m.testBit j = false) → f_X1_lowestOf_2 n σ (nI m) (nI i) = some (on (amx (fun k => m.testBit k) (fun _ _ => false) (nN σ))) := by
  obtain ⟨hN, hN2⟩ := I.N
  intro k
  induction k with
  | zero =>
    intro i n hi hn h0
    obtain ⟨n, rfl⟩ : ∃ m, n = m + 1 := ⟨n - 1, by omega⟩
    have e : i = nN σ := by omega
    subst e
    rw [f_X1_lowestOf_2, hN, if_pos (nI_le (Nat.le_refl _) (by omega)), amx_zero h0]
    rfl
  | succ k ih =>
    intro i n hi hn h0
    obtain ⟨n, rfl⟩ : ∃ m, n = m + 1 := ⟨n - 1, by omega⟩
    rw [f_X1_lowestOf_2, hN, if_le (by omega) (by omega), if_neg (by omega), bitF (by omega), bd_s, bit_if hm (by omega), nI_1]
    cases hb : m.testBit i with
    | true => rw [cond_true, amx_low (p := fun k => m.testBit k) hb h0 _ (by omega)]; rfl
    | false =>
      rw [cond_false]
      exact ih (i + 1) n (by omega) (by omega) (fun j hj => by
        rcases Nat.lt_or_ge j i with q | q
        · exact h0 j q
        · have : j = i := by omega
          subst this
          exact hb)
theorem k_lowest {σ : Nat → Nat → Int32} (I : IV σ) {m : Nat} (hm : m < 256) : f_X1_lowestOf σ (nI m) = some (on (amx (fun k => m.testBit k) (fun _ _ => false) (nN σ))) :=
  k_lowestL I hm (nN σ) 0 FU (by omega) (FU_gt (by have := I.N.2; omega)) (fun j hj => by omega)
/-- a counter that goes down -/
def dn : Nat → Int32
  | 0 => -1
  | c + 1 => nI c
theorem dn_pred : ∀ c, nI c + (-1) = dn c
  | 0 => by decide
  | c + 1 => pk_m1 c
theorem dn_sub (c : Nat) : nI c - 1 = dn c := by
  cases c with
  | zero => decide
  | succ c => exact nI_pred c
/-- a voter that shares its zone with another -/
def shz (σ : Nat → Nat → Int32) (r k : Nat) : Bool := (nV σ r).testBit k && !fresh σ r (nI k) k
theorem k_highL {σ : Nat → Nat → Int32} (I : IV σ) {r : Nat} (h : r < nR σ) : ∀ c n, c ≤ nN σ → c < n → (∀ j, c ≤ j → j < nN σ → shz σ r j = false) → f_X1_highestSharingZone_10 n σ (nI (nV σ r)) (dn c) = some (on (amx (shz σ r) (fun _ _ => true) (nN σ))) := by
  obtain ⟨hN, hN2⟩ := I.N
  intro c
  induction c with
  | zero =>
    intro n hc hn h0
    obtain ⟨n, rfl⟩ : ∃ m, n = m + 1 := ⟨n - 1, by omega⟩
    rw [f_X1_highestSharingZone_10, dn, if_pos (by decide), amx_zero (fun j hj => h0 j (by omega) hj)]
    rfl
  | succ c ih =>
    intro n hc hn h0
    obtain ⟨n, rfl⟩ : ∃ m, n = m + 1 := ⟨n - 1, by omega⟩
    have hV := I.V8 h
    have next : shz σ r c = false → f_X1_highestSharingZone_10 n σ (nI (nV σ r)) (dn c) = some (on (amx (shz σ r) (fun _ _ => true) (nN σ))) := fun hs => ih n (by omega) (by omega) (fun j h1 h2 => by
      rcases Nat.lt_or_ge c j with q | q
      · exact h0 j (by omega) h2
      · have : j = c := by omega
        subst this
        exact hs)
    rw [f_X1_highestSharingZone_10, dn, if_neg (nI_neg (by omega)), bitF (by omega), bd_s, bit_if hV (by omega), dn_pred]
    cases hb : (nV σ r).testBit c with
    | false =>
      rw [cond_false]
      exact next (by unfold shz; rw [hb]; rfl)
    | true =>
      have hf := k_isFresh I h (k := c) (x := nI c) (by omega) (Or.inr ⟨c, by omega, rfl⟩)
      have hz1 := zs_lt I (andn (nV σ r) (2 ^ c)) (nN σ) (Nat.le_refl _)
      unfold f_X1_isFresh at hf
      rw [ld_n (by have := I.R.2.2; omega) (by decide), bitF (by omega), bd_s, (I.r r h).2.1.1, nI_andn hV (pow8 c (by omega)), k_zones I (m := andn (nV σ r) (2 ^ c)) (Nat.lt_of_le_of_lt Nat.and_le_left hV), bd_s, bd_s, k_zones I (pow8 c (by omega)), bd_s] at hf
      rw [cond_true, nI_andn hV (pow8 c (by omega)), k_zones I (m := andn (nV σ r) (2 ^ c)) (Nat.lt_of_le_of_lt Nat.and_le_left hV), bd_s, k_zones I (pow8 c (by omega)), bd_s]
      by_cases q : nI (zs σ (andn (nV σ r) (2 ^ c)) (nN σ)) &&& nI (zs σ (2 ^ c) (nN σ)) = 0
      · rw [if_pos q] at hf ⊢
        refine next ?_
        have e : (1 : Int32) = bi (fresh σ r (nI c) c) := Option.some.inj hf
        unfold shz
        rw [(bi_1 _).mp e.symm]
        simp
      · rw [if_neg q] at hf ⊢
        have e : (0 : Int32) = bi (fresh σ r (nI c) c) := Option.some.inj hf
        have e2 := (bi_z _).mp e.symm
        rw [amx_high (p := shz σ r) (i := c) (by unfold shz; rw [hb, e2]; rfl) _ (by omega) (fun j h1 h2 => h0 j (by omega) h2)]
        rfl
theorem k_high {σ : Nat → Nat → Int32} (I : IV σ) {r : Nat} (h : r < nR σ) : f_X1_highestSharingZone σ (nI (nV σ r)) = some (on (amx (shz σ r) (fun _ _ => true) (nN σ))) := by
  unfold f_X1_highestSharingZone
  rw [I.N.1, dn_sub]
  exact k_highL I h (nN σ) FU (Nat.le_refl _) (FU_gt (by have := I.N.2; omega)) (fun j h1 h2 => by omega)
def most (σ : Nat → Nat → Int32) (m n : Nat) : Option Nat := amx (fun k => m.testBit k) (fun i j => decide (repl σ j < repl σ i)) n
theorem k_mostL {σ : Nat → Nat → Int32} (I : IV σ) {m : Nat} (hm : m < 256) : ∀ k i n, i + k = nN σ → k < n → f_X1_mostLoaded_7 n σ (nI m) (on (most σ m i)) (match most σ m i with | none => -1 | some j => nI (repl σ j)) (nI i) = some (on (most σ m (nN σ))) := by
  obtain ⟨hN, hN2⟩ := I.N
  intro k
  induction k with
  | zero =>
    intro i n hi hn
    obtain ⟨n, rfl⟩ : ∃ m, n = m + 1 := ⟨n - 1, by omega⟩
    have e : i = nN σ := by omega
    subst e
    rw [f_X1_mostLoaded_7, hN, if_pos (nI_le (Nat.le_refl _) (by omega))]
  | succ k ih =>
    intro i n hi hn
    obtain ⟨n, rfl⟩ : ∃ m, n = m + 1 := ⟨n - 1, by omega⟩
    have h1 := ih (i + 1) n (by omega) (by omega)
    have hl := repl_le I i
    rw [f_X1_mostLoaded_7, hN, if_le (by omega) (by omega), if_neg (by omega), bitF (by omega), bd_s, bit_if hm (by omega), nI_1]
    cases hb : m.testBit i with
    | false =>
      have e : most σ m (i + 1) = most σ m i := amx_no hb
      rw [e] at h1
      exact h1
    | true =>
      rw [cond_true, k_repl I (by omega), bd_s, bd_s]
      cases ha : most σ m i with
      | none =>
        have e : most σ m (i + 1) = some i := amx_first hb ha
        rw [e] at h1
        rw [if_neg (fun z => by
          have z2 : nI (repl σ i) ≤ (-1 : Int32) := z
          rw [Int32.le_iff_toInt_le, nI_toInt (by omega)] at z2
          have : (-1 : Int32).toInt = -1 := by decide
          omega)]
        exact h1
      | some j =>
        have hl2 := repl_le I j
        show (if nI (repl σ i) ≤ nI (repl σ j) then _ else _) = _
        rw [if_le (by omega) (by omega)]
        by_cases q : repl σ j < repl σ i
        · have e : most σ m (i + 1) = some i := amx_yes hb ha (by simpa using q)
          rw [e] at h1
          rw [if_neg (by omega)]
          exact h1
        · have e : most σ m (i + 1) = most σ m i := amx_stay ha (by simpa using q)
          rw [e, ha] at h1
          rw [if_pos (by omega)]
          exact h1
theorem k_most {σ : Nat → Nat → Int32} (I : IV σ) {m : Nat} (hm : m < 256) : f_X1_mostLoaded σ (nI m) = some (on (most σ m (nN σ))) :=
  k_mostL I hm (nN σ) 0 FU (by omega) (FU_gt (by have := I.N.2; omega))
/-! other reads -/
theorem k_isFull {σ : Nat → Nat → Int32} (I : IV σ) : f_X5_isFull σ = some (bi (decide (nR σ = 16))) := by
  obtain ⟨hR, hR1, hR2⟩ := I.R
  unfold f_X5_isFull
  rw [hR, show (16 : Int32) = nI 16 from rfl, if_lt (by omega) (by omega), bi_some]
  congr 2
  by_cases q : nR σ = 16 <;> simp [q] <;> omega
def whol (σ : Nat → Nat → Int32) (r : Nat) : Bool := decide (σ 12 r = -1) && (decide (andn (nV σ r) (nU σ) = 0) && quo σ r)
theorem k_isWhole {σ : Nat → Nat → Int32} (I : IV σ) {r : Nat} (h : r < nR σ) : f_X1_isWhole σ (nI r) = some (bi (whol σ r)) := by
  unfold f_X1_isWhole whol
  rw [k_hasLearner I h, bd_s, bi_if]
  by_cases q : σ 12 r = -1
  · simp only [q, decide_true, Bool.not_true, cond_false, Bool.true_and]
    rw [k_votersDown I h, bd_s]
    by_cases q2 : andn (nV σ r) (nU σ) = 0
    · rw [if_pos (by rw [q2]; rfl), k_quorum I h, bd_s, bi_if]
      simp only [q2, decide_true, Bool.true_and]
      cases quo σ r <;> rfl
    · have hz : ¬ nI (andn (nV σ r) (nU σ)) = 0 := fun z => q2 ((nI_0i (Nat.lt_of_le_of_lt Nat.and_le_left (by have := I.V8 h; omega))).mp z)
      rw [if_neg hz]
      simp [q2, bi]
  · simp [q, bi]
theorem k_ticks {σ : Nat → Nat → Int32} (I : IV σ) (x : Int32) : f_X7_learnerTicks σ x = some (1 + x / σ 0 5) := by
  obtain ⟨h1, h2, h3⟩ := I.P
  unfold f_X7_learnerTicks
  rw [if_pos (by rw [h1, show (1 : Int32) = nI 1 from rfl]; exact nI_le h2 (by omega))]
  unfold dz
  rw [if_neg (by rw [h1]; exact nI_ne0 (by omega) (by omega))]
