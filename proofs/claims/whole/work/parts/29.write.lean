/-! writes of a range's field keep IV and EQ -/
theorem cu_ne {σ : Nat → Nat → Int32} {a b k : Nat} {v : Int32} (h : ¬ b = a) : cu σ a k v b = σ b := by
  unfold cu cr
  rw [show Nat.beq b a = false from by
    cases e : Nat.beq b a with
    | false => rfl
    | true => exact absurd (Nat.eq_of_beq_eq_true e) h]
  rfl
theorem cu_eq {σ : Nat → Nat → Int32} {a k : Nat} {v : Int32} : cu σ a k v a = upd (σ a) k v := by
  unfold cu cr
  rw [Nat.beq_refl]
  rfl
theorem up_eq {f : Nat → Int32} {k : Nat} {v : Int32} : upd f k v k = v := if_pos rfl
theorem up_ne {f : Nat → Int32} {k j : Nat} {v : Int32} (h : ¬ j = k) : upd f k v j = f j := if_neg h
theorem up_up {f : Nat → Int32} {k : Nat} {v w : Int32} : upd (upd f k v) k w = upd f k w := by
  funext j
  unfold upd
  split <;> rfl
theorem cu_cu {σ : Nat → Nat → Int32} {a k : Nat} {v w : Int32} : cu (cu σ a k v) a k w = cu σ a k w := by
  funext b
  by_cases h : b = a
  · subst h
    rw [cu_eq, cu_eq, cu_eq, up_up]
  · rw [cu_ne h, cu_ne h, cu_ne h]
theorem tn_n {a : Nat} (h : a < 2 ^ 31) : tn (nI a) = a := nI_clamp h
theorem IV_c {σ τ : Nat → Nat → Int32} (I : IV σ) (h0 : ∀ k, 5 ≤ k → k ≤ 10 → τ 0 k = σ 0 k) (h7 : τ 7 = σ 7) (h9 : τ 9 = σ 9) (h15 : τ 15 = σ 15) (h16 : τ 16 = σ 16) (h17 : τ 17 = σ 17) (hr : ∀ r, r < nR σ → IVr τ r) : IV τ := by
  have e1 : nN τ = nN σ := by unfold nN; rw [h0 6 (by decide) (by decide)]
  have e2 : nU τ = nU σ := by unfold nU; rw [h0 7 (by decide) (by decide)]
  have e3 : nR τ = nR σ := by unfold nR; rw [h0 8 (by decide) (by decide)]
  have e4 : nT τ = nT σ := by unfold nT; rw [h0 9 (by decide) (by decide)]
  have e5 : nM τ = nM σ := by unfold nM; rw [h0 10 (by decide) (by decide)]
  have e6 : nZ τ = nZ σ := by funext k; unfold nZ; rw [h7]
  have e7 : nS τ = nS σ := by funext k; unfold nS; rw [h9]
  have e8 : iK τ = iK σ := by funext k; unfold iK; rw [h15]
  have e9 : iZ τ = iZ σ := by funext k; unfold iZ; rw [h16]
  have e10 : sK τ = sK σ := by funext k; unfold sK; rw [h17]
  have hI : ∀ k, k < nT σ → IVi τ k := fun k hk => by
    unfold IVi
    rw [h15, h16, e8, e9]
    exact I.i k hk
  unfold IV
  rw [h0 6 (by decide) (by decide), h0 7 (by decide) (by decide), h0 8 (by decide) (by decide), h0 9 (by decide) (by decide), h0 10 (by decide) (by decide), h0 5 (by decide) (by decide), h7, h17, e1, e2, e3, e4, e5, e6, e7, e8, e10]
  exact ⟨I.N, I.U, I.Z, I.R, hr, I.S, I.T, hI, I.K, I.M, I.m, I.P⟩
theorem IV_w1 {σ : Nat → Nat → Int32} (I : IV σ) (r : Nat) {x : Nat} (hx : x < 2 ^ nN σ) : IV (cu σ 10 r (nI x)) := by
  have h8 := lt256 hx I.N.2
  refine IV_c I (fun _ _ _ => rfl) rfl rfl rfl rfl rfl (fun q hq => ?_)
  obtain ⟨a, b, c, d, e⟩ := I.r q hq
  refine ⟨a, ?_, c, d, e⟩
  show upd (σ 10) r (nI x) q = nI (tn (upd (σ 10) r (nI x) q)) ∧ tn (upd (σ 10) r (nI x) q) < 2 ^ nN σ
  by_cases h : q = r
  · subst h
    rw [up_eq, tn_n (by omega)]
    exact ⟨rfl, hx⟩
  · rw [up_ne h]
    exact b
theorem IV_w2 {σ : Nat → Nat → Int32} (I : IV σ) (r : Nat) {v : Int32} (hx : okN (nN σ) v) : IV (cu σ 11 r v) := by
  refine IV_c I (fun _ _ _ => rfl) rfl rfl rfl rfl rfl (fun q hq => ?_)
  obtain ⟨a, b, c, d, e⟩ := I.r q hq
  refine ⟨a, b, ?_, d, e⟩
  show okN (nN σ) (upd (σ 11) r v q)
  by_cases h : q = r
  · subst h
    rw [up_eq]
    exact hx
  · rw [up_ne h]
    exact c
theorem IV_w3 {σ : Nat → Nat → Int32} (I : IV σ) (r : Nat) {v : Int32} (hx : okN (nN σ) v) : IV (cu σ 12 r v) := by
  refine IV_c I (fun _ _ _ => rfl) rfl rfl rfl rfl rfl (fun q hq => ?_)
  obtain ⟨a, b, c, d, e⟩ := I.r q hq
  refine ⟨a, b, c, ?_, e⟩
  show okN (nN σ) (upd (σ 12) r v q)
  by_cases h : q = r
  · subst h
    rw [up_eq]
    exact hx
  · rw [up_ne h]
    exact d
theorem IV_w4 {σ : Nat → Nat → Int32} (I : IV σ) (r : Nat) (v : Int32) : IV (cu σ 13 r v) :=
  IV_c I (fun _ _ _ => rfl) rfl rfl rfl rfl rfl (fun q hq => I.r q hq)
theorem IV_w5 {σ : Nat → Nat → Int32} (I : IV σ) (r : Nat) {v : Int32} (hx : okN (nN σ) v) : IV (cu σ 14 r v) := by
  refine IV_c I (fun _ _ _ => rfl) rfl rfl rfl rfl rfl (fun q hq => ?_)
  obtain ⟨a, b, c, d, e⟩ := I.r q hq
  refine ⟨a, b, c, d, ?_⟩
  show okN (nN σ) (upd (σ 14) r v q)
  by_cases h : q = r
  · subst h
    rw [up_eq]
    exact hx
  · rw [up_ne h]
    exact e
theorem mI_c {s t : Nat → Int32} (h : t 16 = s 16) (h2 : ∀ k, k < tn (s 16) → t (43 + 2 * k) = s (43 + 2 * k) ∧ t (44 + 2 * k) = s (44 + 2 * k)) : mI t = mI s := by
  unfold mI
  rw [h]
  refine List.map_congr_left (fun k hk => ?_)
  obtain ⟨a, b⟩ := h2 k (List.mem_range.mp hk)
  rw [a, b]
theorem EQ_w {σ : Nat → Nat → Int32} {s : Nat → Int32} (I : IV σ) (E : EQ σ s) {r w : Nat} (v : Int32) (hr : r < nR σ) (hw : w < 6) : EQ (cu σ (9 + w) r v) (upd s (171 + 6 * r + w) v) := by
  have h : ∀ b, (b < 9 ∨ 14 < b) → cu σ (9 + w) r v b = σ b := fun b hb => cu_ne (by omega)
  have hN := I.N.2
  have hR := I.R.2.2
  have hM := I.M.2
  have hT := I.T.2
  have e1 : nN (cu σ (9 + w) r v) = nN σ := by unfold nN; rw [h 0 (by decide)]
  have e2 : nU (cu σ (9 + w) r v) = nU σ := by unfold nU; rw [h 0 (by decide)]
  have e3 : nR (cu σ (9 + w) r v) = nR σ := by unfold nR; rw [h 0 (by decide)]
  have e4 : gI (cu σ (9 + w) r v) = gI σ := by unfold gI nT; rw [h 0 (by decide), h 15 (by decide), h 16 (by decide)]
  have e5 : nM (cu σ (9 + w) r v) = nM σ := by unfold nM; rw [h 0 (by decide)]
  have hx : ∀ k, k < 171 → upd s (171 + 6 * r + w) v k = s k := fun k hk => up_ne (by omega)
  unfold EQ
  rw [h 0 (by decide), h 6 (by decide), h 7 (by decide), h 8 (by decide), h 17 (by decide), e1, e2, e3, e4, e5]
  refine ⟨fun k hk => by rw [hx k (by omega)]; exact E.st k hk, by rw [hx 6 (by omega)]; exact E.ti, fun a h1 h2 => by rw [hx _ (by omega)]; exact E.pf a h1 h2, by rw [hx 15 (by omega)]; exact E.N, by rw [hx 16 (by omega)]; exact E.T, by rw [hx 17 (by omega)]; exact E.R, by rw [hx 18 (by omega)]; exact E.M, fun k hk => by rw [hx _ (by omega), hx _ (by omega), hx _ (by omega)]; exact E.n k hk, fun q hq x hx2 => ?_, fun k hk => by rw [up_ne (by omega)]; exact E.m k hk, ?_⟩
  · by_cases c : q = r ∧ x = w
    · obtain ⟨rfl, rfl⟩ := c
      rw [up_eq, cu_eq, up_eq]
    · rw [up_ne (by omega), E.r q hq x hx2]
      by_cases c2 : x = w
      · subst c2
        rw [cu_eq, up_ne (by omega)]
      · rw [cu_ne (by omega)]
  · rw [mI_c (hx 16 (by omega)) (fun k hk => ?_)]
    · exact E.i
    · rw [E.cT] at hk
      exact ⟨hx _ (by omega), hx _ (by omega)⟩
theorem m_set {s : Nat → Int32} {r : Nat} (h : r < 16) (w : Nat) (hw : w < 6) (v : Int32) : f_X9_set s (nI r) (nI w) v = some (upd s (171 + 6 * r + w) v) := by
  unfold f_X9_set
  rw [ix_r, sd_n (by omega) (by decide), nI_clamp (by omega)]
/-! the election -/
def elL (σ : Nat → Nat → Int32) (r m n : Nat) : Option Nat := amx (fun k => m.testBit k) (fun i j => decide (leadB σ (nI r) (nI i) < leadB σ (nI r) (nI j))) n
theorem lead_off {σ : Nat → Nat → Int32} (I : IV σ) {r k : Nat} (h : r < nR σ) (hk : k < 2 ^ 31) : lead (cu σ 11 r (-1)) (nI k) = leadB σ (nI r) (nI k) := by
  have hR := I.R.2.2
  refine ct_cong (fun q hq => ?_)
  have hq : q < nR σ := hq
  show decide (upd (σ 11) r (-1) q = nI k) = decide (¬ nI q = nI r ∧ σ 11 q = nI k)
  by_cases c : q = r
  · subst c
    rw [up_eq]
    simp [m1_nI hk]
  · rw [up_ne c]
    have : ¬ nI q = nI r := fun z => c ((nI_eq (by omega) (by omega)).mp z)
    simp [this]
theorem m_electL {σ : Nat → Nat → Int32} {s : Nat → Int32} (I : IV σ) (E : EQ σ s) {r m : Nat} (h : r < nR σ) (hm : m < 256) : ∀ k i n, i + k = 8 → k < n → f_X9_elect_29 n s (nI r) (on (elL σ r m i)) (nI m) (nI i) = some (upd s (171 + 6 * r + 2) (on (elL σ r m 8))) := by
  have hR := I.R.2.2
  intro k
  induction k with
  | zero =>
    intro i n hi hn
    obtain ⟨n, rfl⟩ : ∃ m, n = m + 1 := ⟨n - 1, by omega⟩
    have e : i = 8 := by omega
    subst e
    rw [f_X9_elect_29, if_pos (by decide), show (2 : Int32) = nI 2 from rfl, m_set (by omega) 2 (by decide), bd_s]
  | succ k ih =>
    intro i n hi hn
    obtain ⟨n, rfl⟩ : ∃ m, n = m + 1 := ⟨n - 1, by omega⟩
    have h1 := ih (i + 1) n (by omega) (by omega)
    rw [f_X9_elect_29, show (8 : Int32) = nI 8 from rfl, if_le (by omega) (by omega), if_neg (by omega), has8 hm (by omega), bd_s, bi_if]
    cases hb : m.testBit i with
    | false =>
      have e : elL σ r m (i + 1) = elL σ r m i := amx_no hb
      rw [e] at h1
      rw [cond_false]
      unfold f_X9_elect_70 f_X9_elect_71
      rw [if_pos rfl, nI_1]
      exact h1
    | true =>
      have hl := leadB_le I (nI r) (nI i)
      rw [cond_true]
      cases ha : elL σ r m i with
      | none =>
        have e : elL σ r m (i + 1) = some i := amx_first hb ha
        rw [e] at h1
        rw [show on none = (-1 : Int32) from rfl, if_pos rfl]
        unfold f_X9_elect_66 f_X9_elect_71
        rw [if_neg (by decide), nI_1]
        exact h1
      | some j =>
        have hl2 := leadB_le I (nI r) (nI j)
        have hj := (amx_mem ha).1
        rw [show on (some j) = nI j from rfl, if_neg (nI_m1 (by omega)), m_leads I E, bd_s, m_leads I E, bd_s, if_le (by omega) (by omega)]
        by_cases q : leadB σ (nI r) (nI i) < leadB σ (nI r) (nI j)
        · have e : elL σ r m (i + 1) = some i := amx_yes hb ha (by simpa using q)
          rw [e] at h1
          rw [if_neg (by omega)]
          unfold f_X9_elect_66 f_X9_elect_71
          rw [if_neg (by decide), nI_1]
          exact h1
        · have e : elL σ r m (i + 1) = elL σ r m i := amx_stay ha (by simpa using q)
          rw [e, ha] at h1
          rw [if_pos (by omega)]
          unfold f_X9_elect_70 f_X9_elect_71
          rw [if_pos rfl, nI_1]
          exact h1
theorem bit_hi {m n k : Nat} (h : m < 2 ^ n) (hk : n ≤ k) : m.testBit k = false := Nat.testBit_lt_two_pow (Nat.lt_of_lt_of_le h (Nat.pow_le_pow_right (by decide) hk))
def elV (σ : Nat → Nat → Int32) (r : Nat) : Int32 := if quo σ r = true then on (elL σ r (nV σ r &&& nU σ) (nN σ)) else -1
theorem elV_ok {σ : Nat → Nat → Int32} (r : Nat) : okN (nN σ) (elV σ r) := by
  unfold elV
  split
  · exact on_ok (fun k hk => (amx_mem hk).1)
  · exact Or.inl rfl
theorem k_elect {σ : Nat → Nat → Int32} (I : IV σ) {r : Nat} (h : r < nR σ) : f_X0_elect σ (nI r) = some (cu σ 11 r (elV σ r)) := by
  have hR := I.R.2.2
  have I2 : IV (cu σ 11 r (-1)) := IV_w2 I r (Or.inl rfl)
  have h2 : r < nR (cu σ 11 r (-1)) := h
  have hm : nV σ r &&& nU σ < 256 := Nat.lt_of_le_of_lt Nat.and_le_left (I.V8 h)
  unfold f_X0_elect elV
  rw [sd_n (by omega) (by decide), nI_clamp (by omega), k_quorum I2 h2, bd_s, bi_if]
  rw [show quo (cu σ 11 r (-1)) r = quo σ r from rfl]
  cases hq : quo σ r with
  | false => simp
  | true =>
    rw [cond_true, k_votersUp I2 h2, bd_s]
    rw [show nV (cu σ 11 r (-1)) r &&& nU (cu σ 11 r (-1)) = nV σ r &&& nU σ from rfl]
    rw [k_least I2 hm, bd_s, sd_n (by omega) (by decide), cu_cu, if_pos rfl]
    rw [show nN (cu σ 11 r (-1)) = nN σ from rfl]
    have e : least (cu σ 11 r (-1)) (nV σ r &&& nU σ) (nN σ) = elL σ r (nV σ r &&& nU σ) (nN σ) := by
      have hN := I.N.2
      refine amx_ext (fun _ _ => rfl) (fun i j hi hj _ _ => ?_)
      show decide (lead (cu σ 11 r (-1)) (nI i) < lead (cu σ 11 r (-1)) (nI j)) = _
      rw [lead_off I h (by omega), lead_off I h (by omega)]
    rw [e]
theorem m_elect {σ : Nat → Nat → Int32} {s : Nat → Int32} (I : IV σ) (E : EQ σ s) {r : Nat} (h : r < nR σ) : f_X9_elect s (nI r) = some (upd s (171 + 6 * r + 2) (elV σ r)) := by
  have hN := I.N.2
  have hm : nV σ r &&& nU σ < 256 := Nat.lt_of_le_of_lt Nat.and_le_left (I.V8 h)
  unfold f_X9_elect elV
  rw [m_avail I E h, bd_s, bi_if]
  cases hq : quo σ r with
  | false =>
    have h1 := m_electL I E h (m := 0) (by decide) 8 0 FU rfl (FU_gt (by decide))
    rw [cond_false]
    refine h1.trans ?_
    have e : elL σ r 0 8 = none := amx_zero (fun j hj => by simp)
    rw [e]
    rfl
  | true =>
    have h1 := m_electL I E h hm 8 0 FU rfl (FU_gt (by decide))
    rw [cond_true, m_of1 I E h, bd_s, m_ups I E, bd_s, nI_and]
    refine h1.trans ?_
    have e : elL σ r (nV σ r &&& nU σ) 8 = elL σ r (nV σ r &&& nU σ) (nN σ) := amx_up hN (fun i h1 h2 => bit_hi (Nat.lt_of_le_of_lt Nat.and_le_left (I.r r h).2.1.2) h1)
    rw [e, if_pos rfl]
/-! both sides, one beside the other -/
def Pr (σ : Nat → Nat → Int32) (s : Nat → Int32) : Prop := IV σ ∧ EQ σ s
theorem p_elect {σ : Nat → Nat → Int32} {s : Nat → Int32} (h : Pr σ s) {r : Nat} (hr : r < nR σ) : Pr (cu σ 11 r (elV σ r)) (upd s (171 + 6 * r + 2) (elV σ r)) :=
  ⟨IV_w2 h.1 r (elV_ok r), EQ_w h.1 h.2 _ hr (by decide)⟩
