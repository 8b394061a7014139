/-! the splits and the merge of a tick -/
theorem d_splitS {σ : Nat → Nat → Int32} {s : Nat → Int32} (h : Pr σ s) {r : Nat} (hr : r < nR σ) : Pd σ s (f_X1_splitBySize σ (nI r)) (f_X9_splitBy s (nI r) 0) := by
  have I := h.1
  have E := h.2
  have hR := I.R.2.2
  obtain ⟨v, v1, v2, v3⟩ := a_sizeSplit I E hr
  unfold f_X1_splitBySize f_X9_splitBy f_X9_splitBy_20
  rw [k_hasLearner I hr, bd_s, bi_if, k_isFull I, bd_s, bi_if, k_rangeSize I hr, bd_s, v1, bd_s, v2, bd_s, if_pos rfl, ld_s2 E, m_of3 I E hr, bd_s, m_size I E hr, bd_s, ld_R I E]
  by_cases q1 : σ 12 r = -1
  · rw [if_pos q1, show (!decide (σ 12 r = -1)) = false by simp [q1], cond_false]
    by_cases q2 : nR σ = 16
    · rw [show decide (nR σ = 16) = true by simp [q2], cond_true]
      refine Or.inl ⟨rfl, ?_⟩
      rw [q2]
      split <;> (try rfl) <;> split <;> rfl
    · rw [show decide (nR σ = 16) = false by simp [q2], cond_false]
      have hF : nR σ < 16 := by omega
      have c16 : ¬ nI (nR σ) = 16 := fun z => q2 ((nI_eq (b := 16) (by omega) (by decide)).mp z)
      by_cases q3 : σ 0 2 < nI (rZ σ r)
      · rw [if_pos q3, if_neg (Int32.not_le.mpr q3), if_neg c16, m_divide I E hr hF, bd_s]
        unfold f_X1_divideAt
        rcases v3 with rfl | ⟨x, rfl, x1, x2⟩
        · rw [if_pos rfl, if_pos rfl, bd_s, zr_0]
          exact Or.inl ⟨rfl, rfl⟩
        · have hx := nE_le I r
          rw [if_neg (nI_m1 (by omega)), if_neg (nI_m1 (by omega)), k_divide I hr hF, bd_s, bd_s, zr_1]
          exact Or.inr ⟨_, _, rfl, rfl, p_divide h hr hF x1 x2⟩
      · rw [if_neg q3, if_pos (Int32.not_lt.mp q3)]
        exact Or.inl ⟨rfl, rfl⟩
  · rw [if_neg q1, show (!decide (σ 12 r = -1)) = true by simp [q1], cond_true]
    exact Or.inl ⟨rfl, rfl⟩
theorem d_splitL {σ : Nat → Nat → Int32} {s : Nat → Int32} (h : Pr σ s) {r : Nat} (hr : r < nR σ) : Pd σ s (f_X1_splitByLoad σ (nI r)) (f_X9_splitBy s (nI r) 1) := by
  have I := h.1
  have E := h.2
  have hR := I.R.2.2
  obtain ⟨v, v1, v2, v3⟩ := a_loadSplit I E hr
  unfold f_X1_splitByLoad f_X9_splitBy f_X9_splitBy_20
  rw [k_hasLearner I hr, bd_s, bi_if, k_isFull I, bd_s, bi_if, k_rangeLoad I hr, bd_s, v1, bd_s, v2, bd_s, if_neg (show ¬ (1 : Int32) = 0 by decide), ld_s4 E, m_of3 I E hr, bd_s, m_load I E hr, bd_s, ld_R I E]
  by_cases q1 : σ 12 r = -1
  · rw [if_pos q1, show (!decide (σ 12 r = -1)) = false by simp [q1], cond_false]
    by_cases q2 : nR σ = 16
    · rw [show decide (nR σ = 16) = true by simp [q2], cond_true]
      refine Or.inl ⟨rfl, ?_⟩
      rw [q2]
      split <;> (try rfl) <;> split <;> rfl
    · rw [show decide (nR σ = 16) = false by simp [q2], cond_false]
      have hF : nR σ < 16 := by omega
      have c16 : ¬ nI (nR σ) = 16 := fun z => q2 ((nI_eq (b := 16) (by omega) (by decide)).mp z)
      by_cases q3 : σ 0 4 < nI (rL σ r)
      · rw [if_pos q3, if_neg (Int32.not_le.mpr q3), if_neg c16, m_divide I E hr hF, bd_s]
        unfold f_X1_divideAt
        rcases v3 with rfl | ⟨x, rfl, x1, x2⟩
        · rw [if_pos rfl, if_pos rfl, bd_s, zr_0]
          exact Or.inl ⟨rfl, rfl⟩
        · have hx := nE_le I r
          rw [if_neg (nI_m1 (by omega)), if_neg (nI_m1 (by omega)), k_divide I hr hF, bd_s, bd_s, zr_1]
          exact Or.inr ⟨_, _, rfl, rfl, p_divide h hr hF x1 x2⟩
      · rw [if_neg q3, if_pos (Int32.not_lt.mp q3)]
        exact Or.inl ⟨rfl, rfl⟩
  · rw [if_neg q1, show (!decide (σ 12 r = -1)) = true by simp [q1], cond_true]
    exact Or.inl ⟨rfl, rfl⟩
theorem d_merge {σ : Nat → Nat → Int32} {s : Nat → Int32} (h : Pr σ s) {r : Nat} (hr : r < nR σ) : Pd σ s (f_X1_merge σ (nI r)) (f_X9_mergeNext s (nI r)) := by
  have I := h.1
  have E := h.2
  have hR := I.R.2.2
  unfold f_X1_merge f_X9_mergeNext
  rw [I.R.1, ld_R I E, nI_1, if_le (by omega) (by omega), if_eq (by omega) (by omega)]
  by_cases q0 : nR σ ≤ r + 1
  · rw [if_pos q0, if_pos (by omega)]
    exact Or.inl ⟨rfl, rfl⟩
  · have hr2 : r + 1 < nR σ := by omega
    rw [if_neg q0, if_neg (by omega), ld_n (by omega) (by decide), ld_n (by omega) (by decide), (I.r r hr).2.1.1, (I.r (r + 1) hr2).2.1.1, k_isCold I hr, bd_s, k_isCold I hr2, bd_s, bi_if, bi_if, m_isCold I E hr, bd_s, m_isCold I E hr2, bd_s, bi_if, bi_if, k_rangeSize I hr, bd_s, k_rangeSize I hr2, bd_s, m_of1 I E hr, bd_s, m_of1 I E hr2, bd_s, m_size I E hr, bd_s, m_size I E hr2, bd_s, ld_s2 E, k_merge I hr2, bd_s, m_merge I E hr2, bd_s]
    by_cases q1 : nI (nV σ r) = nI (nV σ (r + 1))
    · rw [if_pos q1, if_pos q1]
      cases cold σ r with
      | false => exact Or.inl ⟨rfl, rfl⟩
      | true =>
        cases cold σ (r + 1) with
        | false => exact Or.inl ⟨rfl, rfl⟩
        | true =>
          rw [cond_true, cond_true, cond_true, cond_true]
          by_cases q2 : nI (rZ σ r) + nI (rZ σ (r + 1)) ≤ σ 0 2
          · rw [if_pos q2, if_pos q2]
            exact Or.inr ⟨_, _, rfl, rfl, p_merge h hr2⟩
          · rw [if_neg q2, if_neg q2]
            exact Or.inl ⟨rfl, rfl⟩
    · rw [if_neg q1, if_neg q1]
      refine Or.inl ⟨rfl, ?_⟩
      cases cold σ r <;> cases cold σ (r + 1) <;> rfl
theorem Pd_z {σ : Nat → Nat → Int32} {s : Nat → Int32} {oc : Option (Int32 × (Nat → Nat → Int32))} {om : Option (Int32 × (Nat → Int32))} (h : Pd σ s oc om) : Pd σ s (oc.bind fun v => zr v.1 (some (v.1, v.2))) (om.bind fun v => zr v.1 (some (v.1, v.2))) := by
  rcases h with ⟨rfl, rfl⟩ | ⟨σ', s', rfl, rfl, h3⟩
  · rw [bd_s, bd_s, zr_0, zr_0]
    exact Or.inl ⟨rfl, rfl⟩
  · rw [bd_s, bd_s, zr_1, zr_1]
    exact Or.inr ⟨σ', s', rfl, rfl, h3⟩
theorem d_perform {σ : Nat → Nat → Int32} {s : Nat → Int32} (h : Pr σ s) {r a : Nat} (hr : r < nR σ) (h1 : 1 ≤ a) (h8 : a ≤ 8) : Pd σ s (f_X1_perform σ (nI a) (nI r)) (f_X9_does s (nI a) (nI r)) := by
  have : a = 1 ∨ a = 2 ∨ a = 3 ∨ a = 4 ∨ a = 5 ∨ a = 6 ∨ a = 7 ∨ a = 8 := by omega
  rcases this with rfl | rfl | rfl | rfl | rfl | rfl | rfl | rfl
  · exact Pd_z (d_create h hr)
  · exact Pd_z (d_repair h hr)
  · exact Pd_z (d_spread h hr)
  · exact Pd_z (d_splitS h hr)
  · exact Pd_z (d_splitL h hr)
  · exact Pd_z (d_merge h hr)
  · exact Pd_z (d_shiftL h hr)
  · exact Pd_z (d_shiftR h hr)
/-! settings, the time, what was performed -/
theorem EQ_c {σ τ : Nat → Nat → Int32} {s t : Nat → Int32} (I : IV σ) (E : EQ σ s) (h0 : ∀ k, 6 ≤ k → k ≤ 10 → τ 0 k = σ 0 k) (hq : ∀ q, 7 ≤ q → τ q = σ q) (t0 : ∀ k, k < 6 → t k = τ 0 k) (t6 : t 6 = τ 0 11) (tp : ∀ a, 1 ≤ a → a ≤ 8 → t (6 + a) = τ 6 a) (ts : ∀ k, 15 ≤ k → t k = s k) : EQ τ t := by
  have e1 : nN τ = nN σ := by unfold nN; rw [h0 6 (by decide) (by decide)]
  have e2 : nU τ = nU σ := by unfold nU; rw [h0 7 (by decide) (by decide)]
  have e3 : nR τ = nR σ := by unfold nR; rw [h0 8 (by decide) (by decide)]
  have e4 : gI τ = gI σ := by unfold gI nT; rw [h0 9 (by decide) (by decide), hq 15 (by decide), hq 16 (by decide)]
  have e5 : nM τ = nM σ := by unfold nM; rw [h0 10 (by decide) (by decide)]
  unfold EQ
  rw [hq 7 (by decide), hq 8 (by decide), hq 17 (by decide), e1, e2, e3, e4, e5, h0 6 (by decide) (by decide), h0 8 (by decide) (by decide), h0 9 (by decide) (by decide), h0 10 (by decide) (by decide)]
  refine ⟨t0, t6, tp, by rw [ts 15 (by decide)]; exact E.N, by rw [ts 16 (by decide)]; exact E.T, by rw [ts 17 (by decide)]; exact E.R, by rw [ts 18 (by decide)]; exact E.M, fun k hk => by rw [ts _ (by omega), ts _ (by omega), ts _ (by omega)]; exact E.n k hk, fun r hr w hw => by rw [ts _ (by omega), hq _ (by omega)]; exact E.r r hr w hw, fun k hk => by rw [ts _ (by omega)]; exact E.m k hk, ?_⟩
  rw [mI_c (ts 16 (by decide)) (fun k hk => ⟨ts _ (by omega), ts _ (by omega)⟩)]
  exact E.i
theorem p_done {σ : Nat → Nat → Int32} {s : Nat → Int32} (h : Pr σ s) {a : Nat} (h1 : 1 ≤ a) (h8 : a ≤ 8) (v : Int32) : Pr (cu σ 6 a v) (upd s (6 + a) v) := by
  refine ⟨IV_c h.1 (fun _ _ _ => rfl) rfl rfl rfl rfl rfl (fun q hq => h.1.r q hq), EQ_c h.1 h.2 (fun _ _ _ => rfl) (fun q hq => cu_ne (by omega)) (fun k hk => ?_) ?_ (fun b b1 b8 => ?_) (fun k hk => up_ne (by omega))⟩
  · rw [up_ne (by omega)]
    exact h.2.st k hk
  · rw [up_ne (by omega)]
    exact h.2.ti
  · show _ = upd (σ 6) a v b
    by_cases q : b = a
    · subst q
      rw [up_eq, up_eq]
    · rw [up_ne (by omega), up_ne q]
      exact h.2.pf b b1 b8
theorem p_time {σ : Nat → Nat → Int32} {s : Nat → Int32} (h : Pr σ s) (v : Int32) : Pr (cu σ 0 11 v) (upd s 6 v) := by
  refine ⟨IV_c h.1 (fun k h1 h2 => ?_) rfl rfl rfl rfl rfl (fun q hq => h.1.r q hq), EQ_c h.1 h.2 (fun k h1 h2 => ?_) (fun q hq => cu_ne (by omega)) (fun k hk => ?_) rfl (fun b b1 b8 => ?_) (fun k hk => up_ne (by omega))⟩
  · show upd (σ 0) 11 v k = _
    exact up_ne (by omega)
  · show upd (σ 0) 11 v k = _
    exact up_ne (by omega)
  · show _ = upd (σ 0) 11 v k
    rw [up_ne (by omega), up_ne (by omega)]
    exact h.2.st k hk
  · rw [up_ne (by omega)]
    exact h.2.pf b b1 b8
/-! a tick -/
def Pt (oc : Option (Int32 × (Nat → Nat → Int32))) (om : Option (Int32 × (Nat → Int32))) : Prop := ∃ v σ' s', oc = some (v, σ') ∧ om = some (v, s') ∧ Pr σ' s'
theorem t_in {σ : Nat → Nat → Int32} {s : Nat → Int32} (h : Pr σ s) {a : Nat} (h1 : 1 ≤ a) (h8 : a ≤ 8) {kc : (Nat → Nat → Int32) → Int32 → Option (Int32 × (Nat → Nat → Int32))} {km : (Nat → Int32) → Int32 → Option (Int32 × (Nat → Int32))} (hK : Pt (kc σ (nI (a + 1))) (km s (nI (a + 1)))) : ∀ k i n m, i + k = nR σ → k < n → k < m → Pt (f_X1_runTick_47 kc n σ (nI a) (nI i)) (f_X9_oneTick_45 km m s (nI a) (nI i)) := by
  have I := h.1
  have E := h.2
  have hR := I.R.2.2
  intro k
  induction k with
  | zero =>
    intro i n m hi hn hm
    obtain ⟨n, rfl⟩ : ∃ m, n = m + 1 := ⟨n - 1, by omega⟩
    obtain ⟨m, rfl⟩ : ∃ n, m = n + 1 := ⟨m - 1, by omega⟩
    have e : i = nR σ := by omega
    subst e
    rw [f_X1_runTick_47, f_X9_oneTick_45, ld_R I E, I.R.1, if_pos (nI_le (Nat.le_refl _) (by omega)), if_pos (nI_le (Nat.le_refl _) (by omega)), nI_1]
    exact hK
  | succ k ih =>
    intro i n m hi hn hm
    obtain ⟨n, rfl⟩ : ∃ m, n = m + 1 := ⟨n - 1, by omega⟩
    obtain ⟨m, rfl⟩ : ∃ n, m = n + 1 := ⟨m - 1, by omega⟩
    rw [f_X1_runTick_47, f_X9_oneTick_45, ld_R I E, I.R.1, if_le (by omega) (by omega), if_neg (by omega), if_le (by omega) (by omega), if_neg (by omega)]
    rcases d_perform h (r := i) (by omega) h1 h8 with ⟨e1, e2⟩ | ⟨σ', s', e1, e2, h'⟩
    · rw [e1, bd_s, if_pos rfl, e2, bd_s, if_pos rfl, nI_1]
      exact ih (i + 1) n m (by omega) (by omega) (by omega)
    · rw [e1, bd_s, if_neg (show ¬ (1 : Int32) = 0 by decide), e2, bd_s, if_neg (show ¬ (1 : Int32) = 0 by decide), ld_n (by omega) (by decide), sd_n (by omega) (by decide), show (6 : Int32) + nI a = nI (6 + a) from nI_add 6 a, ld_n (by omega) (by decide), sd_n (by omega) (by decide), nI_clamp (by omega), nI_clamp (by omega)]
      show Pt (some (100 * nI a + nI i, cu σ' 6 a (σ' 6 a + 1))) (some (100 * nI a + nI i, upd s' (6 + a) (s' (6 + a) + 1)))
      rw [h'.2.pf a h1 h8]
      exact ⟨_, _, _, rfl, rfl, p_done h' h1 h8 _⟩
theorem t_mid {σ : Nat → Nat → Int32} {s : Nat → Int32} (h : Pr σ s) : ∀ k a n m, a + k = 9 → 1 ≤ a → k < n → k < m → Pt (f_X1_runTick_39 n σ (nI a)) (f_X9_oneTick_37 m s (nI a)) := by
  have hR := h.1.R.2.2
  intro k
  induction k with
  | zero =>
    intro a n m ha h1 hn hm
    obtain ⟨n, rfl⟩ : ∃ m, n = m + 1 := ⟨n - 1, by omega⟩
    obtain ⟨m, rfl⟩ : ∃ n, m = n + 1 := ⟨m - 1, by omega⟩
    have e : a = 9 := by omega
    subst e
    rw [f_X1_runTick_39, f_X9_oneTick_37, if_pos (by decide), if_pos (by decide)]
    exact ⟨_, _, _, rfl, rfl, h⟩
  | succ k ih =>
    intro a n m ha h1 hn hm
    obtain ⟨n, rfl⟩ : ∃ m, n = m + 1 := ⟨n - 1, by omega⟩
    obtain ⟨m, rfl⟩ : ∃ n, m = n + 1 := ⟨m - 1, by omega⟩
    rw [f_X1_runTick_39, f_X9_oneTick_37, show (8 : Int32) = nI 8 from rfl, if_lt (by omega) (by omega), if_neg (by omega), if_lt (by omega) (by omega), if_neg (by omega)]
    exact t_in h h1 (by omega) (ih (a + 1) n m (by omega) (by omega) (by omega) (by omega)) (nR σ) 0 FU FU (by omega) (FU_gt (by omega)) (FU_gt (by omega))
theorem t_adv : ∀ k i n m {σ : Nat → Nat → Int32} {s : Nat → Int32}, Pr σ s → i + k = nR σ → k < n → k < m → Pt (f_X1_runTick_15 n σ (nI i)) (f_X9_oneTick_13 m s (nI i)) := by
  intro k
  induction k with
  | zero =>
    intro i n m σ s h hi hn hm
    have hR := h.1.R.2.2
    obtain ⟨n, rfl⟩ : ∃ m, n = m + 1 := ⟨n - 1, by omega⟩
    obtain ⟨m, rfl⟩ : ∃ n, m = n + 1 := ⟨m - 1, by omega⟩
    have e : i = nR σ := by omega
    subst e
    rw [f_X1_runTick_15, f_X9_oneTick_13, ld_R h.1 h.2, h.1.R.1, if_pos (nI_le (Nat.le_refl _) (by omega)), if_pos (nI_le (Nat.le_refl _) (by omega))]
    exact t_mid h 8 1 FU FU rfl (by decide) (FU_gt (by decide)) (FU_gt (by decide))
  | succ k ih =>
    intro i n m σ s h hi hn hm
    have hR := h.1.R.2.2
    obtain ⟨n, rfl⟩ : ∃ m, n = m + 1 := ⟨n - 1, by omega⟩
    obtain ⟨m, rfl⟩ : ∃ n, m = n + 1 := ⟨m - 1, by omega⟩
    obtain ⟨σ', s', e1, e2, h', eR⟩ := p_advance h (r := i) (by omega)
    rw [f_X1_runTick_15, f_X9_oneTick_13, ld_R h.1 h.2, h.1.R.1, if_le (by omega) (by omega), if_neg (by omega), if_le (by omega) (by omega), if_neg (by omega), e1, bd_s, e2, bd_s, nI_1]
    exact ih (i + 1) n m h' (by omega) (by omega) (by omega)
theorem t_tick {σ : Nat → Nat → Int32} {s : Nat → Int32} (h : Pr σ s) : Pt (f_X1_runTick σ) (f_X9_oneTick s) := by
  have hR := h.1.R.2.2
  unfold f_X1_runTick f_X9_oneTick
  rw [show (6 : Int32) = nI 6 from rfl, ld_n (by decide) (by decide), sd_n (by decide) (by decide), nI_clamp (by decide), h.2.ti]
  exact t_adv (nR σ) 0 FU FU (p_time h _) (Nat.zero_add _) (FU_gt (by omega)) (FU_gt (by omega))
