/-! the digest -/
def mx (a : Int64) (v : Int32) : Int64 := (31 : Int64) * a + v.toInt64
theorem k_mix (a : Int64) (v : Int32) : f_X8_mix a v = some (mx a v) := rfl
theorem m_mix (a : Int64) (v : Int32) : f_X9_add a v = some (mx a v) := rfl
theorem g_perf {σ : Nat → Nat → Int32} {s : Nat → Int32} (h : Pr σ s) {t : Nat → Int32} {hh : Nat → Nat → Nat → Int32} {E : Nat → Int32} {c : Int32} : ∀ k i n m a, i + k = 9 → 1 ≤ i → k < n → k < m → ∃ A, f_X8_digest_100 n σ t hh a (nI i) = some A ∧ f_X9_digest_316 m s E c a (nI i) = some (A, A) := by
  intro k
  induction k with
  | zero =>
    intro i n m a hi h1 hn hm
    obtain ⟨n, rfl⟩ : ∃ m, n = m + 1 := ⟨n - 1, by omega⟩
    obtain ⟨m, rfl⟩ : ∃ n, m = n + 1 := ⟨m - 1, by omega⟩
    have e : i = 9 := by omega
    subst e
    rw [f_X8_digest_100, f_X9_digest_316, if_pos (by decide), if_pos (by decide)]
    exact ⟨_, rfl, rfl⟩
  | succ k ih =>
    intro i n m a hi h1 hn hm
    obtain ⟨n, rfl⟩ : ∃ m, n = m + 1 := ⟨n - 1, by omega⟩
    obtain ⟨m, rfl⟩ : ∃ n, m = n + 1 := ⟨m - 1, by omega⟩
    rw [f_X8_digest_100, f_X9_digest_316, show (8 : Int32) = nI 8 from rfl, if_lt (by omega) (by omega), if_neg (by omega), if_lt (by omega) (by omega), if_neg (by omega), ld_n (by omega) (by decide), show (6 : Int32) + nI i = nI (6 + i) from nI_add 6 i, ld_n (by omega) (by decide), h.2.pf i h1 (by omega), k_mix, m_mix, bd_s, bd_s, nI_1]
    exact ih (i + 1) n m _ (by omega) (by omega) (by omega) (by omega)
theorem g_smp {σ : Nat → Nat → Int32} {s : Nat → Int32} (h : Pr σ s) {E : Nat → Int32} {c : Int32} : ∀ k i n m a, i + k = nM σ → k < n → k < m → ∃ A, f_X8_mixRow_10 n σ (nI (nM σ)) a (nI i) = some A ∧ f_X9_digest_283 m s E c a (nI i) = f_X9_digest_316 FU s E c A 1 := by
  have hM := h.1.M.2
  intro k
  induction k with
  | zero =>
    intro i n m a hi hn hm
    obtain ⟨n, rfl⟩ : ∃ m, n = m + 1 := ⟨n - 1, by omega⟩
    obtain ⟨m, rfl⟩ : ∃ n, m = n + 1 := ⟨m - 1, by omega⟩
    have e : i = nM σ := by omega
    subst e
    rw [f_X8_mixRow_10, f_X9_digest_283, ld_M h.1 h.2, if_pos (nI_le (Nat.le_refl _) (by omega)), if_pos (nI_le (Nat.le_refl _) (by omega))]
    exact ⟨_, rfl, rfl⟩
  | succ k ih =>
    intro i n m a hi hn hm
    obtain ⟨n, rfl⟩ : ∃ m, n = m + 1 := ⟨n - 1, by omega⟩
    obtain ⟨m, rfl⟩ : ∃ n, m = n + 1 := ⟨m - 1, by omega⟩
    rw [f_X8_mixRow_10, f_X9_digest_283, ld_M h.1 h.2, if_le (by omega) (by omega), if_neg (by omega), show (32 : Int32) = nI 32 from rfl, if_le (by omega) (by omega), if_neg (by omega), if_le (by omega) (by omega), if_neg (by omega), ld_n (by omega) (by decide), ix_s, ld_n (by omega) (by decide), h.2.m i (by omega), k_mix, m_mix, bd_s, bd_s, nI_1]
    exact ih (i + 1) n m _ (by omega) (by omega) (by omega)
theorem g_rng {σ : Nat → Nat → Int32} {s : Nat → Int32} (h : Pr σ s) {t : Nat → Int32} {hh : Nat → Nat → Nat → Int32} {E : Nat → Int32} {c : Int32} : ∀ k i n m a, i + k = nR σ → k < n → k < m → ∃ A, f_X8_mixRanges_21 n σ t hh a (nI i) = some A ∧ f_X9_digest_164 m s E c a (nI i) = f_X9_digest_283 FU s E c (mx A (nI (nM σ))) 0 := by
  have I := h.1
  have hR := I.R.2.2
  intro k
  induction k with
  | zero =>
    intro i n m a hi hn hm
    obtain ⟨n, rfl⟩ : ∃ m, n = m + 1 := ⟨n - 1, by omega⟩
    obtain ⟨m, rfl⟩ : ∃ n, m = n + 1 := ⟨m - 1, by omega⟩
    have e : i = nR σ := by omega
    subst e
    rw [f_X8_mixRanges_21, f_X9_digest_164, ld_R I h.2, I.R.1, if_pos (nI_le (Nat.le_refl _) (by omega)), if_pos (nI_le (Nat.le_refl _) (by omega)), ld_M I h.2, m_mix, bd_s]
    exact ⟨_, rfl, rfl⟩
  | succ k ih =>
    intro i n m a hi hn hm
    obtain ⟨n, rfl⟩ : ∃ m, n = m + 1 := ⟨n - 1, by omega⟩
    obtain ⟨m, rfl⟩ : ∃ n, m = n + 1 := ⟨m - 1, by omega⟩
    have hr : i < nR σ := by omega
    obtain ⟨v, v1, v2, -⟩ := a_sizeSplit I h.2 hr
    obtain ⟨w, w1, w2, -⟩ := a_loadSplit I h.2 hr
    rw [f_X8_mixRanges_21, f_X9_digest_164, ld_R I h.2, I.R.1, if_le (by omega) (by omega), if_neg (by omega), if_le (by omega) (by omega), if_neg (by omega)]
    rw [ld_n (by omega) (by decide), k_mix, bd_s, k_rangeSize I hr, bd_s, k_mix, bd_s, k_rangeLoad I hr, bd_s, k_mix, bd_s, ld_n (by omega) (by decide), k_mix, bd_s, ld_n (by omega) (by decide), k_mix, bd_s, k_learnerCode I hr, bd_s, k_mix, bd_s, ld_n (by omega) (by decide), k_mix, bd_s, v1, bd_s, k_mix, bd_s, w1, bd_s, k_mix, bd_s]
    rw [m_of0 I h.2 hr, bd_s, m_mix, bd_s, m_size I h.2 hr, bd_s, m_mix, bd_s, m_load I h.2 hr, bd_s, m_mix, bd_s, m_of1 I h.2 hr, bd_s, m_mix, bd_s, m_of2 I h.2 hr, bd_s, m_mix, bd_s, m_lcode I h.2 hr, bd_s, m_mix, bd_s, m_of5 I h.2 hr, bd_s, m_mix, bd_s, v2, bd_s, m_mix, bd_s, w2, bd_s, m_mix, bd_s, (I.r i hr).2.1.1, nI_1]
    exact ih (i + 1) n m _ (by omega) (by omega) (by omega)
theorem g_98 {σ : Nat → Nat → Int32} {s : Nat → Int32} (h : Pr σ s) {k85 : (Nat → Int32) → (Nat → Int32) → Int32 → Int64 → Int32 → Option (Int64 × Int64)} {E : Nat → Int32} {c : Int32} {i : Nat} (hi : i < nN σ) (a : Int64) : f_X9_digest_98 k85 FU s E c a (nI i) 0 = k85 s E c (mx (mx (mx (mx (mx a (σ 7 i)) (σ 8 i)) (bi ((nU σ).testBit i))) (nI (repl σ i))) (nI (lead σ (nI i)))) (nI (i + 1)) := by
  have I := h.1
  have hN := I.N.2
  obtain ⟨a1, a2, a3⟩ := h.2.n i hi
  show f_X9_digest_98 k85 (4996 + 1 + 1 + 1 + 1) s E c a (nI i) (nI 0) = _
  rw [f_X9_digest_98, if_neg (by decide), ix_n, nI_add, ld_n (by omega) (by decide), m_mix, bd_s, nI_1, f_X9_digest_98, if_neg (by decide), ix_n, nI_add, ld_n (by omega) (by decide), m_mix, bd_s, nI_1, f_X9_digest_98, if_neg (by decide), ix_n, nI_add, ld_n (by omega) (by decide), m_mix, bd_s, nI_1, f_X9_digest_98, if_pos (by decide), m_repl I h.2 (by omega), bd_s, m_mix, bd_s, m_leads I h.2, bd_s, leadB_m1 I, m_mix, bd_s, nI_1]
  rw [show 19 + 3 * i + 0 = 19 + 3 * i by omega, show 19 + 3 * i + (0 + 1) = 20 + 3 * i by omega, show 19 + 3 * i + (0 + 1 + 1) = 21 + 3 * i by omega, a1, a2, a3]
theorem g_nod {σ : Nat → Nat → Int32} {s : Nat → Int32} (h : Pr σ s) {t : Nat → Int32} {hh : Nat → Nat → Nat → Int32} {E : Nat → Int32} {c : Int32} : ∀ k i n m a, i + k = nN σ → k < n → k < m → ∃ A, f_X8_mixNodes_21 n σ t hh a (nI i) = some A ∧ f_X9_digest_85 m s E c a (nI i) = f_X9_digest_164 FU s E c (mx A (nI (nR σ))) 0 := by
  have I := h.1
  have hN := I.N.2
  intro k
  induction k with
  | zero =>
    intro i n m a hi hn hm
    obtain ⟨n, rfl⟩ : ∃ m, n = m + 1 := ⟨n - 1, by omega⟩
    obtain ⟨m, rfl⟩ : ∃ n, m = n + 1 := ⟨m - 1, by omega⟩
    have e : i = nN σ := by omega
    subst e
    rw [f_X8_mixNodes_21, f_X9_digest_85, ld_N I h.2, I.N.1, if_pos (nI_le (Nat.le_refl _) (by omega)), if_pos (nI_le (Nat.le_refl _) (by omega)), ld_R I h.2, m_mix, bd_s]
    exact ⟨_, rfl, rfl⟩
  | succ k ih =>
    intro i n m a hi hn hm
    obtain ⟨n, rfl⟩ : ∃ m, n = m + 1 := ⟨n - 1, by omega⟩
    obtain ⟨m, rfl⟩ : ∃ n, m = n + 1 := ⟨m - 1, by omega⟩
    have hk : i < nN σ := by omega
    rw [f_X8_mixNodes_21, f_X9_digest_85, ld_N I h.2, I.N.1, if_le (by omega) (by omega), if_neg (by omega), if_le (by omega) (by omega), if_neg (by omega), g_98 h hk, ld_n (by omega) (by decide), k_mix, bd_s, ld_n (by omega) (by decide), k_mix, bd_s, k_isUp I (by omega), bd_s]
    have e : ∀ x : Int64, (if bi ((nU σ).testBit i) = 0 then f_X8_mixNodes_74 (f_X8_mixNodes_21 n) σ t hh (nI i) 0 x else f_X8_mixNodes_74 (f_X8_mixNodes_21 n) σ t hh (nI i) 1 x) = f_X8_mixNodes_21 n σ t hh (mx (mx (mx x (bi ((nU σ).testBit i))) (nI (repl σ i))) (nI (lead σ (nI i)))) (nI (i + 1)) := fun x => by
      have e0 : ∀ y, f_X8_mixNodes_74 (f_X8_mixNodes_21 n) σ t hh (nI i) y x = f_X8_mixNodes_21 n σ t hh (mx (mx (mx x y) (nI (repl σ i))) (nI (lead σ (nI i)))) (nI (i + 1)) := fun y => by
        unfold f_X8_mixNodes_74
        rw [k_mix, bd_s, k_repl I (by omega), bd_s, k_mix, bd_s, k_ledBy I, bd_s, k_mix, bd_s, nI_1]
      rw [e0, e0]
      cases (nU σ).testBit i <;> rfl
    rw [e]
    exact ih (i + 1) n m _ (by omega) (by omega) (by omega)
theorem g_51 {σ : Nat → Nat → Int32} {s : Nat → Int32} (h : Pr σ s) {E : Nat → Int32} {c : Int32} (a : Int64) : f_X9_digest_51 FU s E c a 0 = f_X9_digest_85 FU s E c (mx (mx (mx (mx (mx (mx (mx a (σ 0 0)) (σ 0 1)) (σ 0 2)) (σ 0 3)) (σ 0 4)) (σ 0 5)) (nI (nN σ))) 0 := by
  have I := h.1
  show f_X9_digest_51 (4993 + 1 + 1 + 1 + 1 + 1 + 1 + 1) s E c a (nI 0) = _
  rw [f_X9_digest_51, if_neg (by decide), ld_n (by decide) (by decide), m_mix, bd_s, nI_1, f_X9_digest_51, if_neg (by decide), ld_n (by decide) (by decide), m_mix, bd_s, nI_1, f_X9_digest_51, if_neg (by decide), ld_n (by decide) (by decide), m_mix, bd_s, nI_1, f_X9_digest_51, if_neg (by decide), ld_n (by decide) (by decide), m_mix, bd_s, nI_1, f_X9_digest_51, if_neg (by decide), ld_n (by decide) (by decide), m_mix, bd_s, nI_1, f_X9_digest_51, if_neg (by decide), ld_n (by decide) (by decide), m_mix, bd_s, nI_1, f_X9_digest_51, if_pos (by decide), ld_N I h.2, m_mix, bd_s]
  rw [show s (0 + 1) = σ 0 1 from h.2.st 1 (by decide), show s (0 + 1 + 1) = σ 0 2 from h.2.st 2 (by decide), show s (0 + 1 + 1 + 1) = σ 0 3 from h.2.st 3 (by decide), show s (0 + 1 + 1 + 1 + 1) = σ 0 4 from h.2.st 4 (by decide), show s (0 + 1 + 1 + 1 + 1 + 1) = σ 0 5 from h.2.st 5 (by decide), h.2.st 0 (by decide)]
theorem g_9 {σ : Nat → Nat → Int32} {s : Nat → Int32} (h : Pr σ s) {E : Nat → Int32} {c : Int32} (a : Int64) : f_X9_digest_9 FU s E c a 0 = f_X9_digest_51 FU s E c (mx (mx (mx (mx (mx a (E 0)) (E 1)) (E 2)) c) (σ 0 11)) 0 := by
  show f_X9_digest_9 (4996 + 1 + 1 + 1 + 1) s E c a (nI 0) = _
  rw [f_X9_digest_9, if_neg (by decide), ld_n (by decide) (by decide), m_mix, bd_s, nI_1, f_X9_digest_9, if_neg (by decide), ld_n (by decide) (by decide), m_mix, bd_s, nI_1, f_X9_digest_9, if_neg (by decide), ld_n (by decide) (by decide), m_mix, bd_s, nI_1, f_X9_digest_9, if_pos (by decide), m_mix, bd_s, show (6 : Int32) = nI 6 from rfl, ld_n (by decide) (by decide), m_mix, bd_s, h.2.ti]
theorem s_digest : St_digest Rel := by
  intro σ t hh s P E n hs R
  have h := R.1
  have I := h.1
  obtain ⟨-, ⟨c0, c1, c2⟩, m, x, hm, hx, e1, e2, e3, -⟩ := id R
  have hN := I.N.2
  have hR := I.R.2.2
  have hM := I.M.2
  obtain ⟨A1, a1, b1⟩ := g_nod h (t := t) (hh := hh) (E := E) (c := n) (nN σ) 0 FU FU (mx (mx (mx (mx (mx (mx (mx (mx (mx (mx (mx (mx (12532 : Int64) (E 0)) (E 1)) (E 2)) n) (σ 0 11)) (σ 0 0)) (σ 0 1)) (σ 0 2)) (σ 0 3)) (σ 0 4)) (σ 0 5)) (nI (nN σ))) (by omega) (FU_gt (by omega)) (FU_gt (by omega))
  obtain ⟨A2, a2, b2⟩ := g_rng h (t := t) (hh := hh) (E := E) (c := n) (nR σ) 0 FU FU (mx A1 (nI (nR σ))) (by omega) (FU_gt (by omega)) (FU_gt (by omega))
  obtain ⟨A3, a3, b3⟩ := g_smp h (E := E) (c := n) (nM σ) 0 FU FU (mx A2 (nI (nM σ))) (by omega) (FU_gt (by omega)) (FU_gt (by omega))
  obtain ⟨A4, a4, b4⟩ := g_perf h (t := t) (hh := hh) (E := E) (c := n) 8 1 FU FU A3 rfl (by decide) (FU_gt (by decide)) (FU_gt (by decide))
  refine ⟨A4, (A4, A4), ?_, ?_, rfl, R⟩
  · unfold f_X8_digest f_X8_mixSettings f_X8_mixNodes f_X8_mixRanges f_X8_mixRow
    rw [k_mix, bd_s, k_mix, bd_s, k_mix, bd_s, k_mix, bd_s, k_mix, bd_s, k_mix, bd_s, k_mix, bd_s, k_mix, bd_s, k_mix, bd_s, k_mix, bd_s, k_mix, bd_s, bd_s, k_mix, bd_s, I.N.1, c0, c1, c2, e2, ← e1]
    rw [show f_X8_mixNodes_21 FU σ t hh _ 0 = _ from a1, bd_s, k_mix, bd_s, I.R.1, show f_X8_mixRanges_21 FU σ t hh _ 0 = _ from a2, bd_s, k_mix, bd_s, I.M.1, show f_X8_mixRow_10 FU σ _ _ 0 = _ from a3, bd_s]
    exact a4
  · unfold f_X9_digest
    rw [g_9 h, g_51 h]
    rw [show f_X9_digest_85 FU s E n _ 0 = _ from b1, show f_X9_digest_164 FU s E n _ 0 = _ from b2, show f_X9_digest_283 FU s E n _ 0 = _ from b3]
    exact b4
/-! all of it -/
theorem s_all : St_all Rel := ⟨s_addNode, s_setNode, s_setReplication, s_setSizes, s_setLoads, s_setSpeed, s_put, s_remove, s_access, s_splitAt, s_sizeOf, s_tick, s_settle, s_performed, s_time, s_rangeCount, s_start, s_size, s_load, s_rangeOf, s_voters, s_leader, s_learner, s_isAvailable, s_splitKey, s_replicas, s_leaders, s_undo, s_errorCount, s_digest⟩
theorem p_begin : Pr σI sI := by
  have eN : nN σI = 0 := by decide
  have eU : nU σI = 0 := by decide
  have eR : nR σI = 1 := by decide
  have eT : nT σI = 0 := by decide
  have eM : nM σI = 0 := by decide
  have eS : nS σI 0 = 0 := by decide
  have eV : nV σI 0 = 0 := by decide
  refine ⟨?_, ?_⟩
  · unfold IV
    rw [eN, eU, eR, eT, eM, eS]
    refine ⟨⟨rfl, by decide⟩, ⟨rfl, by decide⟩, fun k hk => absurd hk (by omega), ⟨rfl, by decide, by decide⟩, fun r hr => ?_, ⟨rfl, fun r hr => absurd hr (by omega)⟩, ⟨rfl, by decide⟩, fun k hk => absurd hk (by omega), fun k hk => absurd hk (by omega), ⟨rfl, by decide⟩, fun k hk => absurd hk (by omega), by decide⟩
    have : r = 0 := by omega
    subst this
    unfold IVr
    rw [eN, eS, eV]
    exact ⟨⟨rfl, by decide⟩, ⟨rfl, by decide⟩, Or.inl rfl, Or.inl rfl, Or.inl rfl⟩
  · unfold EQ
    rw [eN, eU, eR, eM]
    refine ⟨by decide, by decide, fun a h1 h2 => ?_, by decide, by decide, by decide, by decide, fun k hk => absurd hk (by omega), fun r hr w hw => ?_, fun k hk => absurd hk (by omega), ?_⟩
    · have : a = 1 ∨ a = 2 ∨ a = 3 ∨ a = 4 ∨ a = 5 ∨ a = 6 ∨ a = 7 ∨ a = 8 := by omega
      rcases this with rfl | rfl | rfl | rfl | rfl | rfl | rfl | rfl <;> rfl
    · have e0 : r = 0 := by omega
      subst e0
      have : w = 0 ∨ w = 1 ∨ w = 2 ∨ w = 3 ∨ w = 4 ∨ w = 5 := by omega
      rcases this with rfl | rfl | rfl | rfl | rfl | rfl <;> rfl
    · rw [show mI sI = [] by decide, show gI σI = [] by decide]
theorem r_begin : Rel σI (fun _ => 0) (fun _ => σI) sI (fun _ => 0) (fun _ => 0) 0 :=
  ⟨p_begin, ⟨rfl, rfl, rfl⟩, 0, 0, by decide, by decide, rfl, rfl, rfl, fun j hj => absurd hj (by omega)⟩
