/-! nodes: one more, up, down -/
def anK (σ : Nat → Nat → Int32) (x y : Int32) : Nat → Nat → Int32 := cu (cu (cu (cu σ 7 (nN σ) x) 8 (nN σ) y) 0 7 (nI (nU σ ||| 2 ^ nN σ))) 0 6 (nI (nN σ + 1))
def anS (s : Nat → Int32) (N : Nat) (x y : Int32) : Nat → Int32 := upd (upd (upd (upd s (19 + 3 * N) x) (19 + 3 * N + 1) y) (19 + 3 * N + 2) 1) 15 (nI (N + 1))
theorem k_append {σ : Nat → Nat → Int32} (I : IV σ) (h : nN σ < 8) (x y : Int32) : f_X4_append σ x y = some (nI (nN σ), anK σ x y) := by
  have hb := bitF (k := nN σ) (by omega)
  unfold f_X4_append
  rw [I.N.1, show (8 : Int32) = nI 8 from rfl, if_lt (by omega) (by omega), if_pos h, sd_n h (by decide), sd_n h (by decide), hb, bd_s, nI_clamp (by omega)]
  have e1 : cu (cu σ 7 (nN σ) x) 8 (nN σ) y 0 7 = nI (nU σ) := I.U.1
  have e2 : ∀ v, cu (cu (cu σ 7 (nN σ) x) 8 (nN σ) y) 0 7 v 0 6 = nI (nN σ) := fun v => I.N.1
  rw [e1, nI_or, e2, nI_1]
  rfl
theorem p_add {σ : Nat → Nat → Int32} {s : Nat → Int32} (h : Pr σ s) (hN : nN σ < 8) {x : Nat} (hx : x ≤ 3) (y : Int32) : Pr (anK σ (nI x) y) (anS s (nN σ) (nI x) y) := by
  have I := h.1
  have E := h.2
  have hT := I.T.2
  have hU := I.U.2
  have hpow : 2 ^ nN σ < 2 ^ (nN σ + 1) := Nat.pow_lt_pow_right (by decide) (by omega)
  have hor : nU σ ||| 2 ^ nN σ < 2 ^ (nN σ + 1) := Nat.or_lt_two_pow (by omega) hpow
  have h8 : nU σ ||| 2 ^ nN σ < 256 := lt256 hor (by omega)
  have eN : nN (anK σ (nI x) y) = nN σ + 1 := tn_n (by omega)
  have eU : nU (anK σ (nI x) y) = nU σ ||| 2 ^ nN σ := tn_n (by omega)
  have e7 : ∀ k, anK σ (nI x) y 7 k = if k = nN σ then nI x else σ 7 k := fun k => rfl
  have e78 : ∀ k, anK σ (nI x) y 8 k = if k = nN σ then y else σ 8 k := fun k => rfl
  have ok1 : ∀ v, okN (nN σ) v → okN (nN σ + 1) v := fun v hv => by
    rcases hv with e | ⟨k, k1, k2⟩
    · exact Or.inl e
    · exact Or.inr ⟨k, by omega, k2⟩
  refine ⟨?_, ?_⟩
  · unfold IV
    rw [eN, eU]
    refine ⟨⟨rfl, by omega⟩, ⟨rfl, hor⟩, fun k hk => ?_, I.R, fun r hr => ?_, I.S, I.T, I.i, I.K, I.M, I.m, I.P⟩
    · by_cases c : k = nN σ
      · subst c
        unfold nZ
        rw [e7, if_pos rfl, tn_n (by omega)]
        exact ⟨rfl, hx⟩
      · unfold nZ
        rw [e7, if_neg c]
        exact I.Z k (by omega)
    · obtain ⟨a, b, c, d, e⟩ := I.r r hr
      unfold IVr
      rw [eN]
      exact ⟨a, ⟨b.1, Nat.lt_trans b.2 hpow⟩, ok1 _ c, ok1 _ d, ok1 _ e⟩
  · have lo : ∀ k, ¬ k = 15 → (k < 19 + 3 * nN σ ∨ 19 + 3 * nN σ + 2 < k) → anS s (nN σ) (nI x) y k = s k := fun k k1 k2 => by
      unfold anS
      rw [up_ne k1, up_ne (by omega), up_ne (by omega), up_ne (by omega)]
    unfold EQ
    rw [eN, eU]
    refine ⟨fun k hk => ?_, ?_, fun a a1 a2 => ?_, rfl, ?_, ?_, ?_, fun k hk => ?_, fun r hr w hw => ?_, fun k hk => ?_, ?_⟩
    · rw [lo k (by omega) (by omega), E.st k hk]
      unfold anK
      rw [cu_eq, up_ne (by omega), cu_eq, up_ne (by omega)]
      rfl
    · rw [lo 6 (by omega) (by omega)]
      exact E.ti
    · rw [lo _ (by omega) (by omega)]
      exact E.pf a a1 a2
    · rw [lo 16 (by omega) (by omega)]
      exact E.T
    · rw [lo 17 (by omega) (by omega)]
      exact E.R
    · rw [lo 18 (by omega) (by omega)]
      exact E.M
    · by_cases c : k = nN σ
      · subst c
        rw [e7, e78, if_pos rfl, if_pos rfl]
        unfold anS
        refine ⟨?_, ?_, ?_⟩
        · rw [up_ne (by omega), up_ne (by omega), up_ne (by omega), up_eq]
        · rw [up_ne (by omega), up_ne (by omega), show 20 + 3 * nN σ = 19 + 3 * nN σ + 1 by omega, up_eq]
        · rw [up_ne (by omega), show 21 + 3 * nN σ = 19 + 3 * nN σ + 2 by omega, up_eq]
          simp [bi]
      · rw [e7, e78, if_neg c, if_neg c, lo _ (by omega) (by omega), lo _ (by omega) (by omega), lo _ (by omega) (by omega), Nat.testBit_or, Nat.testBit_two_pow, show decide (nN σ = k) = false by simp; omega, Bool.or_false]
        exact E.n k (by omega)
    · rw [lo _ (by omega) (by omega), E.r r hr w hw]
      unfold anK
      rw [cu_ne (by omega), cu_ne (by omega), cu_ne (by omega), cu_ne (by omega)]
    · rw [lo _ (by omega) (by omega)]
      exact E.m k hk
    · rw [mI_c (lo 16 (by omega) (by omega)) (fun k hk => ?_)]
      · exact E.i
      · exact ⟨lo _ (by omega) (by omega), lo _ (by omega) (by omega)⟩
theorem p_up {σ : Nat → Nat → Int32} {s : Nat → Int32} (h : Pr σ s) {k u : Nat} (hk : k < nN σ) (hu : u < 2 ^ nN σ) (hb : ∀ j, j < nN σ → ¬ j = k → u.testBit j = (nU σ).testBit j) : Pr (cu σ 0 7 (nI u)) (upd s (21 + 3 * k) (bi (u.testBit k))) := by
  have I := h.1
  have E := h.2
  have hN := I.N.2
  have h8 := lt256 hu hN
  have eU : nU (cu σ 0 7 (nI u)) = u := tn_n (by omega)
  refine ⟨?_, ?_⟩
  · unfold IV
    rw [eU]
    exact ⟨I.N, ⟨rfl, hu⟩, I.Z, I.R, I.r, I.S, I.T, I.i, I.K, I.M, I.m, I.P⟩
  · have lo : ∀ j, ¬ j = 21 + 3 * k → upd s (21 + 3 * k) (bi (u.testBit k)) j = s j := fun j hj => up_ne hj
    unfold EQ
    rw [eU]
    refine ⟨fun j hj => ?_, ?_, fun a a1 a2 => ?_, ?_, ?_, ?_, ?_, fun j hj => ?_, fun r hr w hw => ?_, fun j hj => ?_, ?_⟩
    · rw [lo j (by omega), E.st j hj]
      show _ = upd (σ 0) 7 (nI u) j
      rw [up_ne (by omega)]
    · rw [lo 6 (by omega)]
      exact E.ti
    · rw [lo _ (by omega)]
      exact E.pf a a1 a2
    · rw [lo 15 (by omega)]
      exact E.N
    · rw [lo 16 (by omega)]
      exact E.T
    · rw [lo 17 (by omega)]
      exact E.R
    · rw [lo 18 (by omega)]
      exact E.M
    · have hj : j < nN σ := hj
      rw [lo (19 + 3 * j) (by omega), lo (20 + 3 * j) (by omega)]
      refine ⟨(E.n j hj).1, (E.n j hj).2.1, ?_⟩
      by_cases c : j = k
      · subst c
        exact up_eq
      · rw [lo _ (by omega), hb j hj c]
        exact (E.n j hj).2.2
    · rw [lo _ (by omega), E.r r hr w hw, cu_ne (by omega)]
    · rw [lo _ (by omega)]
      exact E.m j hj
    · rw [mI_c (lo 16 (by omega)) (fun j hj => ?_)]
      · exact E.i
      · exact ⟨lo _ (by omega), lo _ (by omega)⟩
/-! leaders after a node went up -/
theorem u_up : ∀ k i n m {σ : Nat → Nat → Int32} {s : Nat → Int32}, Pr σ s → i + k = nR σ → k < n → k < m → ∃ σ' s', f_X0_bringUp_18 n σ (nI i) = some σ' ∧ f_X9_goUp_2 m s (nI i) = some s' ∧ Pr σ' s' := by
  intro k
  induction k with
  | zero =>
    intro i n m σ s h hi hn hm
    have hR := h.1.R.2.2
    obtain ⟨n, rfl⟩ : ∃ m, n = m + 1 := ⟨n - 1, by omega⟩
    obtain ⟨m, rfl⟩ : ∃ n, m = n + 1 := ⟨m - 1, by omega⟩
    have e : i = nR σ := by omega
    subst e
    rw [f_X0_bringUp_18, f_X9_goUp_2, ld_R h.1 h.2, h.1.R.1, if_pos (nI_le (Nat.le_refl _) (by omega)), if_pos (nI_le (Nat.le_refl _) (by omega))]
    exact ⟨_, _, rfl, rfl, h⟩
  | succ k ih =>
    intro i n m σ s h hi hn hm
    have hR := h.1.R.2.2
    have hr : i < nR σ := by omega
    obtain ⟨n, rfl⟩ : ∃ m, n = m + 1 := ⟨n - 1, by omega⟩
    obtain ⟨m, rfl⟩ : ∃ n, m = n + 1 := ⟨m - 1, by omega⟩
    rw [f_X0_bringUp_18, f_X9_goUp_2, ld_R h.1 h.2, h.1.R.1, if_le (by omega) (by omega), if_neg (by omega), if_le (by omega) (by omega), if_neg (by omega), ld_n (by omega) (by decide), m_of2 h.1 h.2 hr, bd_s, nI_1]
    by_cases q : σ 11 i = -1
    · rw [if_pos q, if_pos q, k_elect h.1 hr, bd_s, m_elect h.1 h.2 hr, bd_s]
      exact ih (i + 1) n m (p_elect h hr) (by show i + 1 + k = nR σ; omega) (by omega) (by omega)
    · rw [if_neg q, if_neg q]
      exact ih (i + 1) n m h (by omega) (by omega) (by omega)
theorem u_down2 {x : Int32} : ∀ k i n m {σ : Nat → Nat → Int32} {s : Nat → Int32}, Pr σ s → i + k = nR σ → k < n → k < m → ∃ σ' s', f_X0_takeDown_60 n σ x (nI i) = some σ' ∧ f_X9_goDown_36 m s x (nI i) = some s' ∧ Pr σ' s' := by
  intro k
  induction k with
  | zero =>
    intro i n m σ s h hi hn hm
    have hR := h.1.R.2.2
    obtain ⟨n, rfl⟩ : ∃ m, n = m + 1 := ⟨n - 1, by omega⟩
    obtain ⟨m, rfl⟩ : ∃ n, m = n + 1 := ⟨m - 1, by omega⟩
    have e : i = nR σ := by omega
    subst e
    rw [f_X0_takeDown_60, f_X9_goDown_36, ld_R h.1 h.2, h.1.R.1, if_pos (nI_le (Nat.le_refl _) (by omega)), if_pos (nI_le (Nat.le_refl _) (by omega))]
    exact ⟨_, _, rfl, rfl, h⟩
  | succ k ih =>
    intro i n m σ s h hi hn hm
    have hR := h.1.R.2.2
    have hr : i < nR σ := by omega
    obtain ⟨n, rfl⟩ : ∃ m, n = m + 1 := ⟨n - 1, by omega⟩
    obtain ⟨m, rfl⟩ : ∃ n, m = n + 1 := ⟨m - 1, by omega⟩
    rw [f_X0_takeDown_60, f_X9_goDown_36, ld_R h.1 h.2, h.1.R.1, if_le (by omega) (by omega), if_neg (by omega), if_le (by omega) (by omega), if_neg (by omega), k_quorum h.1 hr, bd_s, bi_if, m_avail h.1 h.2 hr, bd_s, bi_if, nI_1]
    cases quo σ i with
    | false =>
      rw [cond_false, cond_false, sd_n (by omega) (by decide), nI_clamp (by omega), m_set2 (by omega), bd_s]
      exact ih (i + 1) n m ⟨IV_w2 h.1 i (Or.inl rfl), EQ_w h.1 h.2 _ hr (by decide)⟩ (by show i + 1 + k = nR σ; omega) (by omega) (by omega)
    | true =>
      rw [cond_true, cond_true, ld_n (by omega) (by decide), m_of2 h.1 h.2 hr, bd_s]
      by_cases q : σ 11 i = x
      · rw [if_pos q, if_pos q, k_elect h.1 hr, bd_s, m_elect h.1 h.2 hr, bd_s]
        exact ih (i + 1) n m (p_elect h hr) (by show i + 1 + k = nR σ; omega) (by omega) (by omega)
      · rw [if_neg q, if_neg q]
        exact ih (i + 1) n m h (by omega) (by omega) (by omega)
theorem u_down {x : Int32} : ∀ k i n m {σ : Nat → Nat → Int32} {s : Nat → Int32}, Pr σ s → i + k = nR σ → k < n → k < m → ∃ σ' s', f_X0_takeDown_20 n σ x (nI i) = some σ' ∧ f_X9_goDown_2 m s x (nI i) = some s' ∧ Pr σ' s' := by
  intro k
  induction k with
  | zero =>
    intro i n m σ s h hi hn hm
    have hR := h.1.R.2.2
    obtain ⟨n, rfl⟩ : ∃ m, n = m + 1 := ⟨n - 1, by omega⟩
    obtain ⟨m, rfl⟩ : ∃ n, m = n + 1 := ⟨m - 1, by omega⟩
    have e : i = nR σ := by omega
    subst e
    rw [f_X0_takeDown_20, f_X9_goDown_2, ld_R h.1 h.2, h.1.R.1, if_pos (nI_le (Nat.le_refl _) (by omega)), if_pos (nI_le (Nat.le_refl _) (by omega))]
    exact u_down2 (nR σ) 0 FU FU h (Nat.zero_add _) (FU_gt (by omega)) (FU_gt (by omega))
  | succ k ih =>
    intro i n m σ s h hi hn hm
    have hR := h.1.R.2.2
    have hr : i < nR σ := by omega
    obtain ⟨n, rfl⟩ : ∃ m, n = m + 1 := ⟨n - 1, by omega⟩
    obtain ⟨m, rfl⟩ : ∃ n, m = n + 1 := ⟨m - 1, by omega⟩
    rw [f_X0_takeDown_20, f_X9_goDown_2, ld_R h.1 h.2, h.1.R.1, if_le (by omega) (by omega), if_neg (by omega), if_le (by omega) (by omega), if_neg (by omega), ld_n (by omega) (by decide), m_of3 h.1 h.2 hr, bd_s, nI_1]
    by_cases q : σ 12 i = x
    · rw [if_pos q, if_pos q, k_clear (by omega), bd_s, m_forget (by omega), bd_s]
      exact ih (i + 1) n m (p_lr h hr _ (Or.inl rfl) (Or.inl rfl)) (by show i + 1 + k = nR σ; omega) (by omega) (by omega)
    · rw [if_neg q, if_neg q]
      exact ih (i + 1) n m h (by omega) (by omega) (by omega)
/-! counts of the model -/
theorem m_cntA {σ : Nat → Nat → Int32} {s : Nat → Int32} (I : IV σ) (E : EQ σ s) {P E' : Nat → Int32} {c : Int32} : ∀ k i n, i + k = nR σ → k < n → f_X9_setNode_89 n s P E' c (nI (ct (quo σ) i)) (nI i) = some (nI (avail σ), s, P, E', c) := by
  have hR := I.R.2.2
  intro k
  induction k with
  | zero =>
    intro i n hi hn
    obtain ⟨n, rfl⟩ : ∃ m, n = m + 1 := ⟨n - 1, by omega⟩
    have e : i = nR σ := by omega
    subst e
    rw [f_X9_setNode_89, ld_R I E, if_pos (nI_le (Nat.le_refl _) (by omega))]
    rfl
  | succ k ih =>
    intro i n hi hn
    obtain ⟨n, rfl⟩ : ∃ m, n = m + 1 := ⟨n - 1, by omega⟩
    have h1 := ih (i + 1) n (by omega) (by omega)
    rw [ct_s] at h1
    rw [f_X9_setNode_89, ld_R I E, if_le (by omega) (by omega), if_neg (by omega), m_avail I E (by omega), bd_s, bi_if, nI_1, Int32.add_zero, nI_1]
    cases hq : quo σ i with
    | false =>
      rw [hq] at h1
      exact h1
    | true =>
      rw [hq] at h1
      exact h1
theorem m_anyLL {σ : Nat → Nat → Int32} {s : Nat → Int32} (I : IV σ) (E : EQ σ s) : ∀ k i n (b : Bool), i + k = nR σ → k < n → (b = true ↔ ∃ r, r < i ∧ ¬ σ 12 r = -1) → f_X9_hasLearner_4 n s (bi b) (nI i) = some (bi (anyL σ)) := by
  have hR := I.R.2.2
  intro k
  induction k with
  | zero =>
    intro i n b hi hn hb
    obtain ⟨n, rfl⟩ : ∃ m, n = m + 1 := ⟨n - 1, by omega⟩
    have e : i = nR σ := by omega
    subst e
    rw [f_X9_hasLearner_4, ld_R I E, if_pos (nI_le (Nat.le_refl _) (by omega)), zr_bi]
    congr 2
    unfold anyL
    by_cases q : ∃ r, r < nR σ ∧ ¬ σ 12 r = -1
    · rw [hb.mpr q]
      simp [q]
    · cases b with
      | true => exact absurd (hb.mp rfl) q
      | false => simp [q]
  | succ k ih =>
    intro i n b hi hn hb
    obtain ⟨n, rfl⟩ : ∃ m, n = m + 1 := ⟨n - 1, by omega⟩
    have hT : (∃ r, r < i + 1 ∧ ¬ σ 12 r = -1) → f_X9_hasLearner_4 n s (bi true) (nI (i + 1)) = some (bi (anyL σ)) := fun hx => ih (i + 1) n true (by omega) (by omega) ⟨fun _ => hx, fun _ => rfl⟩
    rw [f_X9_hasLearner_4, ld_R I E, if_le (by omega) (by omega), if_neg (by omega), bi_if, m_of3 I E (by omega), bd_s]
    unfold f_X9_hasLearner_29
    rw [nI_1]
    cases b with
    | true =>
      obtain ⟨r, r1, r2⟩ := hb.mp rfl
      exact hT ⟨r, by omega, r2⟩
    | false =>
      rw [cond_false]
      by_cases q : σ 12 i = -1
      · rw [if_pos q]
        refine ih (i + 1) n false (by omega) (by omega) ⟨(fun z => by cases z), fun ⟨r, r1, r2⟩ => ?_⟩
        rcases Nat.lt_or_ge r i with w | w
        · exact hb.mpr ⟨r, w, r2⟩
        · rw [show r = i by omega] at r2
          exact absurd q r2
      · rw [if_neg q]
        exact hT ⟨i, by omega, q⟩
theorem m_anyL {σ : Nat → Nat → Int32} {s : Nat → Int32} (I : IV σ) (E : EQ σ s) : f_X9_hasLearner s = some (bi (anyL σ)) :=
  m_anyLL I E (nR σ) 0 FU false (by omega) (FU_gt (by have := I.R.2.2; omega)) ⟨(fun z => by cases z), fun ⟨r, r1, _⟩ => by omega⟩
