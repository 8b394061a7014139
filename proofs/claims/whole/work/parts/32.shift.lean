/-! the least of all, and the least of those below a bound -/
theorem amx_cut {p : Nat → Bool} {f : Nat → Nat} {c : Nat} : ∀ n, (amx p (fun i j => decide (f i < f j)) n = none ∧ amx (fun k => p k && decide (f k + 2 ≤ c)) (fun i j => decide (f i < f j)) n = none) ∨ ∃ j, amx p (fun i j => decide (f i < f j)) n = some j ∧ ((f j + 2 ≤ c ∧ amx (fun k => p k && decide (f k + 2 ≤ c)) (fun i j => decide (f i < f j)) n = some j) ∨ (c < f j + 2 ∧ amx (fun k => p k && decide (f k + 2 ≤ c)) (fun i j => decide (f i < f j)) n = none))
  | 0 => Or.inl ⟨rfl, rfl⟩
  | n + 1 => by
    cases hp : p n with
    | false =>
      have h1 := amx_no (lt := fun i j => decide (f i < f j)) hp
      have h2 := amx_no (p := fun k => p k && decide (f k + 2 ≤ c)) (lt := fun i j => decide (f i < f j)) (i := n) (by simp [hp])
      rw [h1, h2]
      exact amx_cut n
    | true =>
      rcases amx_cut (p := p) (f := f) (c := c) n with ⟨h1, h2⟩ | ⟨j, h1, ⟨h3, h2⟩ | ⟨h3, h2⟩⟩
      · refine Or.inr ⟨n, amx_first hp h1, ?_⟩
        by_cases q : f n + 2 ≤ c
        · exact Or.inl ⟨q, amx_first (by simp [hp, q]) h2⟩
        · exact Or.inr ⟨by omega, (amx_no (by simp [q])).trans h2⟩
      · by_cases q : f n < f j
        · exact Or.inr ⟨n, amx_yes hp h1 (by simpa using q), Or.inl ⟨by omega, amx_yes (by simp [hp]; omega) h2 (by simpa using q)⟩⟩
        · exact Or.inr ⟨j, (amx_stay h1 (by simpa using q)).trans h1, Or.inl ⟨h3, (amx_stay h2 (by simpa using q)).trans h2⟩⟩
      · by_cases q : f n < f j
        · refine Or.inr ⟨n, amx_yes hp h1 (by simpa using q), ?_⟩
          by_cases q2 : f n + 2 ≤ c
          · exact Or.inl ⟨q2, amx_first (by simp [hp, q2]) h2⟩
          · exact Or.inr ⟨by omega, (amx_no (by simp [q2])).trans h2⟩
        · exact Or.inr ⟨j, (amx_stay h1 (by simpa using q)).trans h1, Or.inr ⟨h3, (amx_no (by simp; omega)).trans h2⟩⟩
theorem sub2 {β : Type} {a b : Nat} {x y : β} (ha : a ≤ 16) (hb : b ≤ 16) : (if nI a - 2 < nI b then x else y) = if a < b + 2 then x else y := by
  have h : nI a - 2 < nI b ↔ a < b + 2 := by
    rw [Int32.lt_iff_toInt_lt, show (2 : Int32) = nI 2 from rfl, pk_sub_toInt (by omega) (by omega), nI_toInt (by omega)]
    omega
  by_cases q : a < b + 2
  · rw [if_pos q, if_pos (h.mpr q)]
  · rw [if_neg q, if_neg (fun z => q (h.mp z))]
/-! the leader's shift -/
def slP (σ : Nat → Nat → Int32) (m c k : Nat) : Bool := m.testBit k && decide (lead σ (nI k) + 2 ≤ c)
def slL (σ : Nat → Nat → Int32) (m c n : Nat) : Option Nat := amx (slP σ m c) (fun i j => decide (lead σ (nI i) < lead σ (nI j))) n
theorem m_shLL {σ : Nat → Nat → Int32} {s : Nat → Int32} (I : IV σ) (E : EQ σ s) {r l : Nat} (hr : r < nR σ) (hl : l < 8) : ∀ k i n, i + k = 8 → k < n → f_X9_shiftLeader_12 n s (nI r) (nI l) (on (slL σ (nV σ r &&& nU σ) (lead σ (nI l)) i)) (nI i) = f_X9_shiftLeader_107 s (nI r) (on (slL σ (nV σ r &&& nU σ) (lead σ (nI l)) 8)) := by
  have hm : nV σ r &&& nU σ < 256 := Nat.lt_of_le_of_lt Nat.and_le_left (I.V8 hr)
  have hll := lead_le I (nI l)
  intro k
  induction k with
  | zero =>
    intro i n hi hn
    obtain ⟨n, rfl⟩ : ∃ m, n = m + 1 := ⟨n - 1, by omega⟩
    have e : i = 8 := by omega
    subst e
    rw [f_X9_shiftLeader_12, if_pos (by decide)]
  | succ k ih =>
    intro i n hi hn
    obtain ⟨n, rfl⟩ : ∃ m, n = m + 1 := ⟨n - 1, by omega⟩
    have h1 := ih (i + 1) n (by omega) (by omega)
    have hli := lead_le I (nI i)
    rw [f_X9_shiftLeader_12, show (8 : Int32) = nI 8 from rfl, if_le (by omega) (by omega), if_neg (by omega), if_neg (nI_m1 (by omega)), m_of1 I E hr, bd_s, m_ups I E, bd_s, nI_and, has8 hm (by omega), bd_s, bi_if]
    cases hb : (nV σ r &&& nU σ).testBit i with
    | false =>
      have e : slL σ (nV σ r &&& nU σ) (lead σ (nI l)) (i + 1) = slL σ (nV σ r &&& nU σ) (lead σ (nI l)) i := amx_no (by unfold slP; rw [hb]; rfl)
      rw [e] at h1
      rw [cond_false]
      unfold f_X9_shiftLeader_65 f_X9_shiftLeader_66
      rw [if_pos rfl, nI_1]
      exact h1
    | true =>
      rw [cond_true, m_leads I E, bd_s, m_leads I E, bd_s, leadB_m1 I, leadB_m1 I, sub2 hll hli]
      by_cases q : lead σ (nI l) < lead σ (nI i) + 2
      · have e : slL σ (nV σ r &&& nU σ) (lead σ (nI l)) (i + 1) = slL σ (nV σ r &&& nU σ) (lead σ (nI l)) i := amx_no (by unfold slP; simp; intro _; omega)
        rw [e] at h1
        rw [if_pos q]
        unfold f_X9_shiftLeader_65 f_X9_shiftLeader_66
        rw [if_pos rfl, nI_1]
        exact h1
      · have hp : slP σ (nV σ r &&& nU σ) (lead σ (nI l)) i = true := by unfold slP; rw [hb]; simp; omega
        rw [if_neg q]
        unfold f_X9_shiftLeader_66 f_X9_shiftLeader_94
        rw [if_neg (by decide)]
        cases ha : slL σ (nV σ r &&& nU σ) (lead σ (nI l)) i with
        | none =>
          have e : slL σ (nV σ r &&& nU σ) (lead σ (nI l)) (i + 1) = some i := amx_first hp ha
          rw [e] at h1
          rw [show on none = (-1 : Int32) from rfl, if_pos rfl, nI_1]
          exact h1
        | some j =>
          have hj := (amx_mem ha).1
          have hlj := lead_le I (nI j)
          rw [show on (some j) = nI j from rfl, if_neg (nI_m1 (by omega)), m_leads I E, bd_s, leadB_m1 I, m_leads I E, bd_s, leadB_m1 I, if_le (by omega) (by omega)]
          by_cases q2 : lead σ (nI i) < lead σ (nI j)
          · have e : slL σ (nV σ r &&& nU σ) (lead σ (nI l)) (i + 1) = some i := amx_yes hp ha (by simpa using q2)
            rw [e] at h1
            rw [if_neg (by omega), nI_1]
            exact h1
          · have e : slL σ (nV σ r &&& nU σ) (lead σ (nI l)) (i + 1) = slL σ (nV σ r &&& nU σ) (lead σ (nI l)) i := amx_stay ha (by simpa using q2)
            rw [e, ha] at h1
            rw [if_pos (by omega), nI_1]
            exact h1
theorem d_shiftL {σ : Nat → Nat → Int32} {s : Nat → Int32} (h : Pr σ s) {r : Nat} (hr : r < nR σ) : Pd σ s (f_X1_shiftLeader σ (nI r)) (f_X9_shiftLeader s (nI r)) := by
  have I := h.1
  have E := h.2
  have hR := I.R.2.2
  have hN := I.N.2
  have hm : nV σ r &&& nU σ < 256 := Nat.lt_of_le_of_lt Nat.and_le_left (I.V8 hr)
  unfold f_X1_shiftLeader f_X9_shiftLeader
  rw [ld_n (by omega) (by decide), m_of2 I E hr, bd_s]
  rcases (I.r r hr).2.2.1 with e | ⟨l, hl, e⟩
  · rw [e, if_pos rfl]
    refine Or.inl ⟨rfl, ?_⟩
    show f_X9_shiftLeader_12 (4999 + 1) s (nI r) (-1) (-1) 0 = _
    rw [f_X9_shiftLeader_12, if_neg (by decide), if_pos rfl]
    rfl
  · have hL := m_shLL I E hr (l := l) (by omega) 8 0 FU rfl (FU_gt (by decide))
    rw [e, if_neg (nI_m1 (by omega)), k_votersUp I hr, bd_s, k_least I hm, bd_s]
    rw [show f_X9_shiftLeader_12 FU s (nI r) (nI l) (-1) 0 = _ from hL]
    have e8 : slL σ (nV σ r &&& nU σ) (lead σ (nI l)) 8 = slL σ (nV σ r &&& nU σ) (lead σ (nI l)) (nN σ) := amx_up hN (fun i h1 h2 => by unfold slP; rw [bit_hi (Nat.lt_of_le_of_lt Nat.and_le_left (I.r r hr).2.1.2) h1]; rfl)
    rw [e8]
    have hll := lead_le I (nI l)
    unfold f_X9_shiftLeader_107 f_X9_shiftLeader_119
    rcases amx_cut (p := fun k => (nV σ r &&& nU σ).testBit k) (f := fun k => lead σ (nI k)) (c := lead σ (nI l)) (nN σ) with ⟨h1, h2⟩ | ⟨j, h1, ⟨h3, h2⟩ | ⟨h3, h2⟩⟩
    · rw [show least σ (nV σ r &&& nU σ) (nN σ) = none from h1, show slL σ (nV σ r &&& nU σ) (lead σ (nI l)) (nN σ) = none from h2]
      exact Or.inl ⟨rfl, rfl⟩
    · have hj := (amx_mem h1).1
      have hlj := lead_le I (nI j)
      rw [show least σ (nV σ r &&& nU σ) (nN σ) = some j from h1, show slL σ (nV σ r &&& nU σ) (lead σ (nI l)) (nN σ) = some j from h2]
      rw [show on (some j) = nI j from rfl, if_neg (nI_m1 (by omega)), if_neg (nI_m1 (by omega)), k_ledBy I, bd_s, k_ledBy I, bd_s, show (2 : Int32) = nI 2 from rfl, nI_add, if_le (by omega) (by omega), if_pos h3, sd_n (by omega) (by decide), nI_clamp (by omega), m_set (by omega) 2 (by decide), bd_s, if_neg (nI_m1 (by omega))]
      exact Or.inr ⟨_, _, rfl, rfl, IV_w2 I r (Or.inr ⟨j, hj, rfl⟩), EQ_w I E _ hr (by decide)⟩
    · have hj := (amx_mem h1).1
      have hlj := lead_le I (nI j)
      have h3 : lead σ (nI l) < lead σ (nI j) + 2 := h3
      rw [show least σ (nV σ r &&& nU σ) (nN σ) = some j from h1, show slL σ (nV σ r &&& nU σ) (lead σ (nI l)) (nN σ) = none from h2]
      rw [show on (some j) = nI j from rfl, if_neg (nI_m1 (by omega)), k_ledBy I, bd_s, k_ledBy I, bd_s, show (2 : Int32) = nI 2 from rfl, nI_add, if_le (by omega) (by omega), if_neg (by omega)]
      exact Or.inl ⟨rfl, rfl⟩
/-! the replica's shift -/
theorem m_shRL {σ : Nat → Nat → Int32} {s : Nat → Int32} (I : IV σ) (E : EQ σ s) {r : Nat} (hr : r < nR σ) : ∀ k i n, i + k = nN σ → k < n → f_X9_shiftReplica_14 n s (nI r) (on (most σ (nV σ r) i)) (nI i) = f_X9_shiftReplica_14 1 s (nI r) (on (most σ (nV σ r) (nN σ))) (nI (nN σ)) := by
  have hN := I.N.2
  have hV := I.V8 hr
  intro k
  induction k with
  | zero =>
    intro i n hi hn
    obtain ⟨n, rfl⟩ : ∃ m, n = m + 1 := ⟨n - 1, by omega⟩
    have e : i = nN σ := by omega
    subst e
    rw [f_X9_shiftReplica_14, f_X9_shiftReplica_14, ld_N I E, ld_N I E, if_pos (nI_le (Nat.le_refl _) (by omega)), if_pos (nI_le (Nat.le_refl _) (by omega))]
  | succ k ih =>
    intro i n hi hn
    obtain ⟨n, rfl⟩ : ∃ m, n = m + 1 := ⟨n - 1, by omega⟩
    have h1 := ih (i + 1) n (by omega) (by omega)
    refine Eq.trans ?_ h1
    have hri := repl_le I i
    rw [f_X9_shiftReplica_14, ld_N I E, if_le (by omega) (by omega), if_neg (by omega), m_of1 I E hr, bd_s, has8 hV (by omega), bd_s, bi_if]
    unfold f_X9_shiftReplica_60 f_X9_shiftReplica_56 f_X9_shiftReplica_61
    rw [if_pos (show (0 : Int32) = 0 from rfl), if_neg (show ¬ (1 : Int32) = 0 by decide), nI_1]
    cases hb : (nV σ r).testBit i with
    | false =>
      have e : most σ (nV σ r) (i + 1) = most σ (nV σ r) i := amx_no hb
      rw [e]
      rfl
    | true =>
      rw [cond_true]
      cases ha : most σ (nV σ r) i with
      | none =>
        have e : most σ (nV σ r) (i + 1) = some i := amx_first hb ha
        rw [e]
        rfl
      | some j =>
        have hj := (amx_mem ha).1
        have hrj := repl_le I j
        rw [show on (some j) = nI j from rfl, if_neg (nI_m1 (by omega)), m_repl I E (by omega), bd_s, m_repl I E (by omega), bd_s, if_le (by omega) (by omega)]
        by_cases q2 : repl σ j < repl σ i
        · have e : most σ (nV σ r) (i + 1) = some i := amx_yes hb ha (by simpa using q2)
          rw [e, if_neg (by omega)]
          rfl
        · have e : most σ (nV σ r) (i + 1) = most σ (nV σ r) i := amx_stay ha (by simpa using q2)
          rw [e, ha, if_pos (by omega)]
          rfl
theorem k_existsN {σ : Nat → Nat → Int32} (I : IV σ) {k : Nat} (h : k < nN σ) : f_X4_exists σ (nI k) = some 1 := by
  have hN := I.N.2
  unfold f_X4_exists
  rw [if_neg (nI_neg (by omega)), I.N.1, if_le (by omega) (by omega), if_neg (by omega)]
theorem ct_0 {p : Nat → Bool} : ∀ {n : Nat}, (∀ k, k < n → p k = false) → ct p n = 0
  | 0, _ => rfl
  | n + 1, h => by rw [ct_s, ct_0 (fun k hk => h k (by omega)), h n (by omega)]; rfl
theorem d_shiftR {σ : Nat → Nat → Int32} {s : Nat → Int32} (h : Pr σ s) {r : Nat} (hr : r < nR σ) : Pd σ s (f_X1_shiftReplica σ (nI r)) (f_X9_shiftReplica s (nI r)) := by
  have I := h.1
  have E := h.2
  have hR := I.R.2.2
  have hN := I.N.2
  have hV := I.V8 hr
  unfold f_X1_shiftReplica f_X9_shiftReplica
  rw [k_isWhole I hr, bd_s, bi_if, m_whole I E hr, bd_s, bi_if]
  cases hw : whol σ r with
  | false => exact Or.inl ⟨rfl, rfl⟩
  | true =>
    have hL := m_shRL I E hr (nN σ) 0 FU (by omega) (FU_gt (by omega))
    rw [cond_true, cond_true, ld_n (by omega) (by decide), (I.r r hr).2.1.1, k_most I hV, bd_s]
    rw [show f_X9_shiftReplica_14 FU s (nI r) (-1) 0 = _ from hL]
    rw [f_X9_shiftReplica_14, ld_N I E, if_pos (nI_le (Nat.le_refl _) (by omega))]
    cases ha : most σ (nV σ r) (nN σ) with
    | none =>
      exfalso
      have hq : quo σ r = true := by
        unfold whol at hw
        simp at hw
        exact hw.2.2
      have hz : ∀ k, k < 8 → (nV σ r).testBit k = false := fun k hk => by
        rcases Nat.lt_or_ge k (nN σ) with w | w
        · exact amx_none ha k w
        · exact bit_hi (I.r r hr).2.1.2 w
      have hp : pc (nV σ r &&& nU σ) = 0 := ct_0 (fun k hk => by rw [Nat.testBit_and, hz k hk]; rfl)
      unfold quo at hq
      simp at hq
      omega
    | some j =>
      have hj := (amx_mem ha).1
      have hok : okN (nN σ) (nI j) := Or.inr ⟨j, hj, rfl⟩
      have hrj := repl_le I j
      rw [show on (some j) = nI j from rfl, k_choose I hr hok, bd_s, k_existsN I hj, bd_s, if_neg (by decide), m_choose I E hr, bd_s]
      cases hc : chs σ r (nI j) (nN σ) with
      | none =>
        rw [show on none = (-1 : Int32) from rfl, if_pos rfl]
        exact Or.inl ⟨rfl, rfl⟩
      | some k =>
        have hk := (amx_mem hc).1
        have hrk := repl_le I k
        rw [show on (some k) = nI k from rfl, k_existsN I hk, bd_s, if_neg (by decide), if_neg (nI_m1 (by omega)), k_repl I (by omega), bd_s, k_repl I (by omega), bd_s, m_repl I E (by omega), bd_s, m_repl I E (by omega), bd_s, sub2 hrj hrk, show (2 : Int32) = nI 2 from rfl, nI_add, if_le (by omega) (by omega)]
        by_cases q : repl σ k + 2 ≤ repl σ j
        · rw [if_pos q, if_neg (by omega), k_isFresh I hr hk hok, bd_s, bi_if, m_fresh I E hr hk, bd_s, bi_if]
          obtain ⟨σ', s', e1, e2, e3⟩ := p_learn h hr (x := nI k) (z := nI j) (Or.inr ⟨k, hk, rfl⟩) hok
          have e1' : f_X1_shiftReplica_109 σ (nI r) (nI j) (nI k) = some (1, σ') := by unfold f_X1_shiftReplica_109; rw [e1, bd_s]
          have e2' : f_X9_shiftReplica_132 s (nI r) (nI j) (nI k) = some (1, s') := by unfold f_X9_shiftReplica_132; rw [e2, bd_s]
          rw [e1', e2']
          cases fresh σ r (nI j) k with
          | true => exact Or.inr ⟨_, _, rfl, rfl, e3⟩
          | false =>
            rw [cond_false, cond_false, ld_n (by omega) (by decide), ld_n (by omega) (by decide), m_zone I E hk, bd_s, m_zone I E hj, bd_s, (I.Z k hk).1, (I.Z j hj).1]
            by_cases q3 : nI (nZ σ k) = nI (nZ σ j)
            · rw [if_pos q3, if_pos q3]
              exact Or.inr ⟨_, _, rfl, rfl, e3⟩
            · rw [if_neg q3, if_neg q3]
              exact Or.inl ⟨rfl, rfl⟩
        · rw [if_neg q, if_pos (by omega)]
          exact Or.inl ⟨rfl, rfl⟩
/-! cold ranges -/
def cold (σ : Nat → Nat → Int32) (r : Nat) : Bool := decide (σ 12 r = -1) && (quo σ r && (!decide (σ 0 1 ≤ nI (rZ σ r)) && !decide (σ 0 3 ≤ nI (rL σ r))))
theorem k_isCold {σ : Nat → Nat → Int32} (I : IV σ) {r : Nat} (hr : r < nR σ) : f_X1_isCold σ (nI r) = some (bi (cold σ r)) := by
  unfold f_X1_isCold cold
  rw [k_hasLearner I hr, bd_s, bi_if, k_quorum I hr, bd_s, bi_if, k_rangeSize I hr, bd_s, k_rangeLoad I hr, bd_s, bi_some]
  by_cases q1 : σ 12 r = -1 <;> cases quo σ r <;> by_cases q2 : σ 0 1 ≤ nI (rZ σ r) <;> simp [q1, q2, bi]
theorem m_isCold {σ : Nat → Nat → Int32} {s : Nat → Int32} (I : IV σ) (E : EQ σ s) {r : Nat} (hr : r < nR σ) : f_X9_isCold s (nI r) = some (bi (cold σ r)) := by
  unfold f_X9_isCold cold
  rw [m_of3 I E hr, bd_s, m_avail I E hr, bd_s, bi_if, m_size I E hr, bd_s, ld_s1 E, m_load I E hr, bd_s, ld_s3 E, bi_some]
  by_cases q1 : σ 12 r = -1 <;> cases quo σ r <;> by_cases q2 : σ 0 1 ≤ nI (rZ σ r) <;> simp [q1, q2, bi]
