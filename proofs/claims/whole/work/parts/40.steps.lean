/-! arguments, inside their bounds or not -/
theorem i32_nat {x : Int32} (h : ¬ x < 0) : ∃ k, k < 2 ^ 31 ∧ x = nI k := by
  have h0 : 0 ≤ x.toInt := by
    have := Int32.not_lt.mp h
    rw [Int32.le_iff_toInt_le] at this
    simpa using this
  have h1 : x.toInt < 2 ^ 31 := Int32.toInt_lt x
  refine ⟨x.toInt.toNat, by omega, ?_⟩
  apply Int32.toInt_inj.mp
  rw [nI_toInt (by omega)]
  omega
theorem ltz {x : Int32} {a : Nat} (ha : a < 2 ^ 31) (h : x < 0) : x < nI a := by
  rw [Int32.lt_iff_toInt_lt] at h ⊢
  rw [nI_toInt ha]
  have : (0 : Int32).toInt = 0 := by decide
  omega
theorem wthn {x A B : Int32} {a b : Nat} (hA : A = nI a) (hB : B = nI b) (ha : a < 2 ^ 31) (hb : b < 2 ^ 31) : (f_X8_isWithin x A B = some 0 ∧ f_X9_in x A B = some 0) ∨ ∃ k, a ≤ k ∧ k ≤ b ∧ x = nI k ∧ f_X8_isWithin x A B = some 1 ∧ f_X9_in x A B = some 1 := by
  subst hA hB
  unfold f_X8_isWithin f_X9_in
  by_cases q : x < nI a
  · rw [if_pos q]
    exact Or.inl ⟨rfl, rfl⟩
  · obtain ⟨k, hk, rfl⟩ := i32_nat (fun z => q (ltz ha z))
    rw [if_lt hk ha, if_lt hb hk] at *
    rw [if_neg (fun z => q ((nI_ltI hk ha).mpr z))]
    by_cases q2 : b < k
    · rw [if_pos q2]
      exact Or.inl ⟨rfl, rfl⟩
    · rw [if_neg q2]
      exact Or.inr ⟨k, by
        rcases Nat.lt_or_ge k a with w | w
        · exact absurd ((nI_ltI hk ha).mpr w) q
        · exact w, by omega, rfl, rfl, rfl⟩
theorem isKey {x : Int32} : (f_X8_isKey x = some 0 ∧ f_X9_isKey x = some 0) ∨ ∃ k, k ≤ 9999 ∧ x = nI k ∧ f_X8_isKey x = some 1 ∧ f_X9_isKey x = some 1 := by
  unfold f_X8_isKey f_X9_isKey
  rcases wthn (x := x) (A := 0) (B := 9999) (a := 0) (b := 9999) rfl rfl (by decide) (by decide) with ⟨e1, e2⟩ | ⟨k, k1, k2, e, e1, e2⟩
  · rw [e1, e2, bd_s, zr_0]
    exact Or.inl ⟨rfl, rfl⟩
  · rw [e1, e2, bd_s, zr_1]
    exact Or.inr ⟨k, k2, e, rfl, rfl⟩
theorem cnt_in {x : Int32} {N : Nat} (hN : N ≤ 100) : ((if x < 0 then some (0 : Int32) else if nI N ≤ x then some 0 else some 1) = some 0 ∧ f_X9_in x 0 (nI N - 1) = some 0) ∨ ∃ k, k < N ∧ x = nI k ∧ (if x < 0 then some (0 : Int32) else if nI N ≤ x then some 0 else some 1) = some 1 ∧ f_X9_in x 0 (nI N - 1) = some 1 := by
  unfold f_X9_in
  by_cases q : x < 0
  · rw [if_pos q, if_pos q]
    exact Or.inl ⟨rfl, rfl⟩
  · obtain ⟨k, hk, rfl⟩ := i32_nat q
    rw [if_neg q, if_neg q, if_le (by omega) hk]
    cases N with
    | zero =>
      refine Or.inl ⟨rfl, ?_⟩
      have : (nI 0 - 1 : Int32) < nI k := by
        rw [Int32.lt_iff_toInt_lt, nI_toInt hk, show (nI 0 - 1 : Int32).toInt = -1 from by decide]
        omega
      rw [if_pos this]
    | succ N =>
      rw [nI_pred, if_lt (by omega) hk]
      by_cases q2 : N + 1 ≤ k
      · rw [if_pos q2, if_pos (by omega)]
        exact Or.inl ⟨rfl, rfl⟩
      · rw [if_neg q2, if_neg (by omega)]
        exact Or.inr ⟨k, by omega, rfl, rfl, rfl⟩
theorem isRng {σ : Nat → Nat → Int32} {s : Nat → Int32} (h : Pr σ s) {x : Int32} : (f_X5_exists σ x = some 0 ∧ f_X9_isRange s x = some 0) ∨ ∃ k, k < nR σ ∧ x = nI k ∧ f_X5_exists σ x = some 1 ∧ f_X9_isRange s x = some 1 := by
  unfold f_X5_exists f_X9_isRange
  rw [ld_R h.1 h.2, h.1.R.1]
  rcases cnt_in (x := x) (N := nR σ) (by have := h.1.R.2.2; omega) with ⟨e1, e2⟩ | ⟨k, k1, k2, e1, e2⟩
  · rw [e1, e2, bd_s, zr_0]
    exact Or.inl ⟨rfl, rfl⟩
  · rw [e1, e2, bd_s, zr_1]
    exact Or.inr ⟨k, k1, k2, rfl, rfl⟩
theorem isNod {σ : Nat → Nat → Int32} {s : Nat → Int32} (h : Pr σ s) {x : Int32} : (f_X4_exists σ x = some 0 ∧ f_X9_isNode s x = some 0) ∨ ∃ k, k < nN σ ∧ x = nI k ∧ f_X4_exists σ x = some 1 ∧ f_X9_isNode s x = some 1 := by
  unfold f_X4_exists f_X9_isNode
  rw [ld_N h.1 h.2, h.1.N.1]
  rcases cnt_in (x := x) (N := nN σ) (by have := h.1.N.2; omega) with ⟨e1, e2⟩ | ⟨k, k1, k2, e1, e2⟩
  · rw [e1, e2, bd_s, zr_0]
    exact Or.inl ⟨rfl, rfl⟩
  · rw [e1, e2, bd_s, zr_1]
    exact Or.inr ⟨k, k1, k2, rfl, rfl⟩
theorem one_n0 : ¬ (1 : Int32) = 0 := by decide
/-! questions -/
theorem s_time : St_time Rel := by
  intro σ t h s P E n R
  refine ⟨_, _, rfl, ?_, rfl, R⟩
  unfold f_X9_time
  rw [show (6 : Int32) = nI 6 from rfl, ld_n (by decide) (by decide), R.1.2.ti]
theorem s_rangeCount : St_rangeCount Rel := by
  intro σ t h s P E n R
  refine ⟨_, _, rfl, ?_, rfl, R⟩
  unfold f_X9_rangeCount
  rw [ld_R R.1.1 R.1.2, R.1.1.R.1]
theorem s_start : St_start Rel := by
  intro σ t h s P E n x R
  have I := R.1.1
  have hR := I.R.2.2
  unfold f_X8_start f_X9_start
  rcases isRng R.1 (x := x) with ⟨e1, e2⟩ | ⟨k, k1, rfl, e1, e2⟩
  · rw [e1, e2, bd_s, bd_s, if_pos rfl, if_pos rfl, k_fail2, m_fail2]
    exact ⟨_, _, rfl, rfl, rfl, r_fail2 R⟩
  · rw [e1, e2, bd_s, bd_s, if_neg one_n0, if_neg one_n0, ld_n (by omega) (by decide), m_of0 I R.1.2 k1]
    exact ⟨_, _, rfl, rfl, rfl, R⟩
theorem s_size : St_size Rel := by
  intro σ t h s P E n x R
  unfold f_X8_size f_X9_size
  rcases isRng R.1 (x := x) with ⟨e1, e2⟩ | ⟨k, k1, rfl, e1, e2⟩
  · rw [e1, e2, bd_s, bd_s, if_pos rfl, if_pos rfl, k_fail2, m_fail2]
    exact ⟨_, _, rfl, rfl, rfl, r_fail2 R⟩
  · rw [e1, e2, bd_s, bd_s, if_neg one_n0, if_neg one_n0, k_rangeSize R.1.1 k1, m_size R.1.1 R.1.2 k1]
    exact ⟨_, _, rfl, rfl, rfl, R⟩
theorem s_load : St_load Rel := by
  intro σ t h s P E n x R
  unfold f_X8_load f_X9_load
  rcases isRng R.1 (x := x) with ⟨e1, e2⟩ | ⟨k, k1, rfl, e1, e2⟩
  · rw [e1, e2, bd_s, bd_s, if_pos rfl, if_pos rfl, k_fail2, m_fail2]
    exact ⟨_, _, rfl, rfl, rfl, r_fail2 R⟩
  · rw [e1, e2, bd_s, bd_s, if_neg one_n0, if_neg one_n0, k_rangeLoad R.1.1 k1, m_load R.1.1 R.1.2 k1]
    exact ⟨_, _, rfl, rfl, rfl, R⟩
theorem s_rangeOf : St_rangeOf Rel := by
  intro σ t h s P E n x R
  unfold f_X8_rangeOf f_X9_rangeOf
  rcases isKey (x := x) with ⟨e1, e2⟩ | ⟨k, k1, rfl, e1, e2⟩
  · rw [e1, e2, bd_s, bd_s, if_pos rfl, if_pos rfl, k_fail2, m_fail2]
    exact ⟨_, _, rfl, rfl, rfl, r_fail2 R⟩
  · obtain ⟨r, r1, r2⟩ := k_hold R.1.1 k1
    rw [e1, e2, bd_s, bd_s, if_neg one_n0, if_neg one_n0, r2, m_rangeAt R.1.1 R.1.2 k1 r1]
    exact ⟨_, _, rfl, rfl, rfl, R⟩
theorem s_voters : St_voters Rel := by
  intro σ t h s P E n x R
  have I := R.1.1
  have hR := I.R.2.2
  unfold f_X8_voters f_X9_voters
  rcases isRng R.1 (x := x) with ⟨e1, e2⟩ | ⟨k, k1, rfl, e1, e2⟩
  · rw [e1, e2, bd_s, bd_s, if_pos rfl, if_pos rfl, k_fail2, m_fail2]
    exact ⟨_, _, rfl, rfl, rfl, r_fail2 R⟩
  · rw [e1, e2, bd_s, bd_s, if_neg one_n0, if_neg one_n0, ld_n (by omega) (by decide), m_of1 I R.1.2 k1, (I.r k k1).2.1.1]
    exact ⟨_, _, rfl, rfl, rfl, R⟩
theorem s_leader : St_leader Rel := by
  intro σ t h s P E n x R
  have I := R.1.1
  have hR := I.R.2.2
  unfold f_X8_leader f_X9_leader
  rcases isRng R.1 (x := x) with ⟨e1, e2⟩ | ⟨k, k1, rfl, e1, e2⟩
  · rw [e1, e2, bd_s, bd_s, if_pos rfl, if_pos rfl, k_fail2, m_fail2]
    exact ⟨_, _, rfl, rfl, rfl, r_fail2 R⟩
  · rw [e1, e2, bd_s, bd_s, if_neg one_n0, if_neg one_n0, ld_n (by omega) (by decide), m_of2 I R.1.2 k1]
    exact ⟨_, _, rfl, rfl, rfl, R⟩
theorem s_learner : St_learner Rel := by
  intro σ t h s P E n x R
  unfold f_X8_learner f_X9_learner
  rcases isRng R.1 (x := x) with ⟨e1, e2⟩ | ⟨k, k1, rfl, e1, e2⟩
  · rw [e1, e2, bd_s, bd_s, if_pos rfl, if_pos rfl, k_fail2, m_fail2]
    exact ⟨_, _, rfl, rfl, rfl, r_fail2 R⟩
  · rw [e1, e2, bd_s, bd_s, if_neg one_n0, if_neg one_n0, k_learnerCode R.1.1 k1, m_lcode R.1.1 R.1.2 k1]
    exact ⟨_, _, rfl, rfl, rfl, R⟩
theorem s_isAvailable : St_isAvailable Rel := by
  intro σ t h s P E n x R
  unfold f_X8_isAvailable f_X9_isAvailable
  rcases isRng R.1 (x := x) with ⟨e1, e2⟩ | ⟨k, k1, rfl, e1, e2⟩
  · rw [e1, e2, bd_s, bd_s, if_pos rfl, if_pos rfl, k_fail2, m_fail2]
    exact ⟨_, _, rfl, rfl, rfl, r_fail2 R⟩
  · rw [e1, e2, bd_s, bd_s, if_neg one_n0, if_neg one_n0, k_quorum R.1.1 k1, m_avail R.1.1 R.1.2 k1, bd_s, bd_s, bi_if, bi_if]
    cases quo σ k with
    | false => exact ⟨_, _, rfl, rfl, rfl, R⟩
    | true => exact ⟨_, _, rfl, rfl, rfl, R⟩
theorem s_splitKey : St_splitKey Rel := by
  intro σ t h s P E n x y R
  unfold f_X8_splitKey f_X9_splitKey f_X8_splitKey_23 f_X9_splitKey_26
  rcases isRng R.1 (x := x) with ⟨e1, e2⟩ | ⟨k, k1, rfl, e1, e2⟩
  · rw [e1, e2, bd_s, bd_s, if_pos rfl, if_pos rfl, k_fail2, m_fail2]
    exact ⟨_, _, rfl, rfl, rfl, r_fail2 R⟩
  · rw [e1, e2, bd_s, bd_s, if_neg one_n0, if_neg one_n0]
    rcases wthn (x := y) (A := 0) (B := 1) (a := 0) (b := 1) rfl rfl (by decide) (by decide) with ⟨g1, g2⟩ | ⟨j, j1, j2, rfl, g1, g2⟩
    · rw [g1, g2, bd_s, bd_s, if_pos rfl, if_pos rfl, k_fail2, m_fail2]
      exact ⟨_, _, rfl, rfl, rfl, r_fail2 R⟩
    · rw [g1, g2, bd_s, bd_s, if_neg one_n0, if_neg one_n0]
      have : j = 0 ∨ j = 1 := by omega
      rcases this with rfl | rfl
      · obtain ⟨v, v1, v2, -⟩ := a_sizeSplit R.1.1 R.1.2 k1
        rw [if_pos (show nI 0 = 0 from rfl), v1, show f_X9_splitKeyOf s (nI k) (nI 0) = some v from v2]
        exact ⟨_, _, rfl, rfl, rfl, R⟩
      · obtain ⟨v, v1, v2, -⟩ := a_loadSplit R.1.1 R.1.2 k1
        rw [if_neg (show ¬ nI 1 = 0 from one_n0), v1, show f_X9_splitKeyOf s (nI k) (nI 1) = some v from v2]
        exact ⟨_, _, rfl, rfl, rfl, R⟩
theorem s_replicas : St_replicas Rel := by
  intro σ t h s P E n x R
  have hN := R.1.1.N.2
  unfold f_X8_replicas f_X9_replicas
  rcases isNod R.1 (x := x) with ⟨e1, e2⟩ | ⟨k, k1, rfl, e1, e2⟩
  · rw [e1, e2, bd_s, bd_s, if_pos rfl, if_pos rfl, k_fail2, m_fail2]
    exact ⟨_, _, rfl, rfl, rfl, r_fail2 R⟩
  · rw [e1, e2, bd_s, bd_s, if_neg one_n0, if_neg one_n0, k_repl R.1.1 (by omega), m_repl R.1.1 R.1.2 (by omega)]
    exact ⟨_, _, rfl, rfl, rfl, R⟩
theorem s_leaders : St_leaders Rel := by
  intro σ t h s P E n x R
  unfold f_X8_leaders f_X9_leaders
  rcases isNod R.1 (x := x) with ⟨e1, e2⟩ | ⟨k, k1, rfl, e1, e2⟩
  · rw [e1, e2, bd_s, bd_s, if_pos rfl, if_pos rfl, k_fail2, m_fail2]
    exact ⟨_, _, rfl, rfl, rfl, r_fail2 R⟩
  · rw [e1, e2, bd_s, bd_s, if_neg one_n0, if_neg one_n0, k_ledBy R.1.1, m_leads R.1.1 R.1.2, leadB_m1 R.1.1]
    exact ⟨_, _, rfl, rfl, rfl, R⟩
theorem s_performed : St_performed Rel := by
  intro σ t h s P E n x R
  unfold f_X8_performed f_X9_performed
  rcases wthn (x := x) (A := 1) (B := 8) (a := 1) (b := 8) rfl rfl (by decide) (by decide) with ⟨e1, e2⟩ | ⟨k, k1, k2, rfl, e1, e2⟩
  · rw [e1, e2, bd_s, bd_s, if_pos rfl, if_pos rfl, k_fail2, m_fail2]
    exact ⟨_, _, rfl, rfl, rfl, r_fail2 R⟩
  · rw [e1, e2, bd_s, bd_s, if_neg one_n0, if_neg one_n0, ld_n (by omega) (by decide), show (6 : Int32) + nI k = nI (6 + k) from nI_add 6 k, ld_n (by omega) (by decide), R.1.2.pf k k1 k2]
    exact ⟨_, _, rfl, rfl, rfl, R⟩
theorem s_errorCount : St_errorCount Rel := by
  intro σ t h s P E n x R
  unfold f_X8_errorCount f_X9_errorCount
  rcases wthn (x := x) (A := 0) (B := 2) (a := 0) (b := 2) rfl rfl (by decide) (by decide) with ⟨e1, e2⟩ | ⟨k, k1, k2, rfl, e1, e2⟩
  · have hx : ∀ j, j ≤ 2 → ¬ x = nI j := fun j hj z => by
      rw [z] at e2
      have h1 := in_at (x := j) (a := 0) (b := 2) (by omega) (by decide) (by decide)
      rw [show decide (0 ≤ j ∧ j ≤ 2) = true by simp; omega] at h1
      have h2 : (some (1 : Int32)) = some 0 := h1.symm.trans e2
      exact one_n0 (Option.some.inj h2)
    rw [if_neg (show ¬ x = 0 from hx 0 (by decide)), if_neg (show ¬ x = 1 from hx 1 (by decide)), if_neg (show ¬ x = 2 from hx 2 (by decide)), e2, bd_s, if_pos rfl, k_fail2, m_fail2]
    exact ⟨_, _, rfl, rfl, rfl, r_fail2 R⟩
  · rw [e2, bd_s, if_neg one_n0, ld_n (by omega) (by decide)]
    have c := R.2.1
    have : k = 0 ∨ k = 1 ∨ k = 2 := by omega
    rcases this with rfl | rfl | rfl
    · rw [if_pos (show nI 0 = 0 from rfl)]
      exact ⟨_, _, rfl, rfl, c.1, R⟩
    · rw [if_neg (show ¬ nI 1 = 0 by decide), if_pos (show nI 1 = 1 from rfl)]
      exact ⟨_, _, rfl, rfl, c.2.1, R⟩
    · rw [if_neg (show ¬ nI 2 = 0 by decide), if_neg (show ¬ nI 2 = 1 by decide), if_pos (show nI 2 = 2 from rfl)]
      exact ⟨_, _, rfl, rfl, c.2.2, R⟩
/-! an item on both sides -/
theorem b_item {σ : Nat → Nat → Int32} {s : Nat → Int32} (h : Pr σ s) {key : Nat} (hk : key ≤ 9999) : (∃ p i, p < nT σ ∧ iK σ p = key ∧ i < nT σ ∧ jK s i = key ∧ f_X3_placeOf σ (nI key) = some (nI p) ∧ f_X3_sizeAt σ (nI key) = some (nI (iZ σ p)) ∧ f_X9_placeOf s (nI key) = some (nI (43 + 2 * i)) ∧ s (44 + 2 * i) = nI (iZ σ p)) ∨ ((∀ p, p < nT σ → ¬ iK σ p = key) ∧ ∃ p, plc σ key p ∧ f_X3_placeOf σ (nI key) = some (nI p) ∧ f_X3_sizeAt σ (nI key) = some 0 ∧ f_X9_placeOf s (nI key) = some (-1)) := by
  have I := h.1
  have E := h.2
  rcases k_sizeAt I (key := key) (by omega) with ⟨p, p1, p2, p3, p4, p5⟩ | ⟨p0, p, p3, p4, p5⟩
  · rcases m_place I E (key := key) (by omega) with ⟨i, i1, i2, i3⟩ | ⟨i0, i3⟩
    · have e := (i_erase h (P := s) (E' := s) (n0 := 0) (x3 := 0) hk p4 p1 p2 i1 i2).1
      rw [(I.i p p1).2.1] at e
      exact Or.inl ⟨p, i, p1, p2, i1, i2, p4, p5, i3, e⟩
    · obtain ⟨k, k1, k2, -⟩ := E.mem' p1
      exact absurd (show jK s k = key by unfold jK; rw [k2]; exact p2) (i0 k k1)
  · rcases m_place I E (key := key) (by omega) with ⟨i, i1, i2, i3⟩ | ⟨i0, i3⟩
    · obtain ⟨k, k1, k2, -⟩ := E.mem i1
      exact absurd (show iK σ k = key by unfold iK; rw [← k2]; exact i2) (p0 k k1)
    · exact Or.inr ⟨p0, p, p3, p4, p5, i3⟩
theorem s_sizeOf : St_sizeOf Rel := by
  intro σ t h s P E n x R
  have hT := R.1.1.T.2
  unfold f_X8_sizeOf f_X9_sizeOf
  rcases isKey (x := x) with ⟨e1, e2⟩ | ⟨k, k1, rfl, e1, e2⟩
  · rw [e1, e2, bd_s, bd_s, if_pos rfl, if_pos rfl, k_fail2, m_fail2]
    exact ⟨_, _, rfl, rfl, rfl, r_fail2 R⟩
  · rw [e1, e2, bd_s, bd_s, if_neg one_n0, if_neg one_n0]
    rcases b_item R.1 k1 with ⟨p, i, p1, p2, i1, i2, p3, p4, i3, i4⟩ | ⟨p0, p, p1, p2, p3, p4⟩
    · rw [p4, i3, bd_s, bd_s, if_neg (nI_m1 (by omega)), nI_1, ld_n (by omega) (by decide), show 43 + 2 * i + 1 = 44 + 2 * i by omega, i4]
      exact ⟨_, _, rfl, rfl, rfl, R⟩
    · rw [p3, p4, bd_s, bd_s, if_pos rfl]
      exact ⟨_, _, rfl, rfl, rfl, R⟩
