/-! what a tick may do, one beside the other: nothing on both sides, or the same -/
def Pd (σ : Nat → Nat → Int32) (s : Nat → Int32) (oc : Option (Int32 × (Nat → Nat → Int32))) (om : Option (Int32 × (Nat → Int32))) : Prop := (oc = some (0, σ) ∧ om = some (0, s)) ∨ ∃ σ' s', oc = some (1, σ') ∧ om = some (1, s') ∧ Pr σ' s'
theorem d_create {σ : Nat → Nat → Int32} {s : Nat → Int32} (h : Pr σ s) {r : Nat} (hr : r < nR σ) : Pd σ s (f_X1_create σ (nI r)) (f_X9_create s (nI r)) := by
  have I := h.1
  have E := h.2
  have hR := I.R.2.2
  have hN := I.N.2
  unfold f_X1_create f_X9_create
  rw [ld_n (by omega) (by decide), m_of1 I E hr, bd_s, (I.r r hr).2.1.1]
  by_cases q : nI (nV σ r) = 0
  · rw [if_pos q, if_pos q, k_choose I hr (Or.inl rfl), bd_s, m_choose I E hr, bd_s]
    unfold f_X9_create_19
    cases hc : chs σ r (-1) (nN σ) with
    | none => exact Or.inl ⟨rfl, rfl⟩
    | some k =>
      have hk := (amx_mem hc).1
      have h1 : Pr (cu σ 10 r (nI (2 ^ k))) (upd s (171 + 6 * r + 1) (nI (2 ^ k))) := ⟨IV_w1 I r (Nat.pow_lt_pow_right (by decide) hk), EQ_w I E _ hr (by decide)⟩
      have hr1 : r < nR (cu σ 10 r (nI (2 ^ k))) := hr
      rw [show on (some k) = nI k from rfl, if_neg (nI_m1 (by omega)), if_neg (nI_m1 (by omega)), bitF (by omega), bd_s, sd_n (by omega) (by decide), nI_clamp (by omega), k_elect h1.1 hr1, bd_s, shl8 k (by omega), m_set1 (by omega), bd_s, m_elect h1.1 h1.2 hr1, bd_s]
      exact Or.inr ⟨_, _, rfl, rfl, p_elect h1 hr1⟩
  · rw [if_neg q, if_neg q]
    exact Or.inl ⟨rfl, rfl⟩
theorem ld_s0 {β : Type} {σ : Nat → Nat → Int32} {s : Nat → Int32} (E : EQ σ s) (k : Int32 → Option β) : ld s 299 (0 : Int32) k = k (σ 0 0) := (ld_n (i := 0) (by decide) (by decide)).trans (congrArg k (E.st 0 (by decide)))
theorem ld_s1 {β : Type} {σ : Nat → Nat → Int32} {s : Nat → Int32} (E : EQ σ s) (k : Int32 → Option β) : ld s 299 (1 : Int32) k = k (σ 0 1) := (ld_n (i := 1) (by decide) (by decide)).trans (congrArg k (E.st 1 (by decide)))
theorem ld_s2 {β : Type} {σ : Nat → Nat → Int32} {s : Nat → Int32} (E : EQ σ s) (k : Int32 → Option β) : ld s 299 (2 : Int32) k = k (σ 0 2) := (ld_n (i := 2) (by decide) (by decide)).trans (congrArg k (E.st 2 (by decide)))
theorem ld_s3 {β : Type} {σ : Nat → Nat → Int32} {s : Nat → Int32} (E : EQ σ s) (k : Int32 → Option β) : ld s 299 (3 : Int32) k = k (σ 0 3) := (ld_n (i := 3) (by decide) (by decide)).trans (congrArg k (E.st 3 (by decide)))
theorem ld_s4 {β : Type} {σ : Nat → Nat → Int32} {s : Nat → Int32} (E : EQ σ s) (k : Int32 → Option β) : ld s 299 (4 : Int32) k = k (σ 0 4) := (ld_n (i := 4) (by decide) (by decide)).trans (congrArg k (E.st 4 (by decide)))
theorem ld_s5 {β : Type} {σ : Nat → Nat → Int32} {s : Nat → Int32} (E : EQ σ s) (k : Int32 → Option β) : ld s 299 (5 : Int32) k = k (σ 0 5) := (ld_n (i := 5) (by decide) (by decide)).trans (congrArg k (E.st 5 (by decide)))
/-! repair -/
theorem m_repairE (s : Nat → Int32) (x y z : Int32) : f_X9_repair_51 1 s x y z (-1) = (f_X9_choose s x z).bind fun v17 => (if v17 = (-1 : Int32) then (f_X9_repair_109 s v17) else ((f_X9_learn s x v17 z).bind fun v21 => (f_X9_repair_109 v21 v17))) := by
  rw [f_X9_repair_51, if_pos (by decide)]
theorem m_repairL {σ : Nat → Nat → Int32} {s : Nat → Int32} (I : IV σ) (E : EQ σ s) {r : Nat} (hr : r < nR σ) : ∀ c n x3, c ≤ 8 → c < n → ((x3 = -1 ∧ ∀ j, c ≤ j → j < 8 → (andn (nV σ r) (nU σ)).testBit j = false) ∨ ∃ i, c ≤ i ∧ i < 8 ∧ x3 = nI i ∧ (andn (nV σ r) (nU σ)).testBit i = true ∧ ∀ j, c ≤ j → j < i → (andn (nV σ r) (nU σ)).testBit j = false) →
    f_X9_repair_51 n s (nI r) (nI (nV σ r &&& nU σ)) x3 (dn c) = f_X9_repair_51 1 s (nI r) (nI (nV σ r &&& nU σ)) (on (amx (fun k => (andn (nV σ r) (nU σ)).testBit k) (fun _ _ => false) (nN σ))) (-1) := by
  have hN := I.N.2
  have hV := I.V8 hr
  intro c
  induction c with
  | zero =>
    intro n x3 hc hn h0
    obtain ⟨n, rfl⟩ : ∃ m, n = m + 1 := ⟨n - 1, by omega⟩
    have e : x3 = on (amx (fun k => (andn (nV σ r) (nU σ)).testBit k) (fun _ _ => false) (nN σ)) := by
      rcases h0 with ⟨e, h1⟩ | ⟨i, -, i2, e, i4, i5⟩
      · rw [amx_zero (fun j hj => h1 j (by omega) (by omega)), e]
        rfl
      · have hi : i < nN σ := by
          rcases Nat.lt_or_ge i (nN σ) with w | w
          · exact w
          · rw [bit_hi (andn_lt (I.r r hr).2.1.2) w] at i4
            cases i4
        rw [amx_low (p := fun k => (andn (nV σ r) (nU σ)).testBit k) i4 (fun j hj => i5 j (by omega) hj) _ hi, e]
        rfl
    rw [e, dn, f_X9_repair_51, f_X9_repair_51, if_pos (by decide), if_pos (by decide)]
  | succ c ih =>
    intro n x3 hc hn h0
    obtain ⟨n, rfl⟩ : ∃ m, n = m + 1 := ⟨n - 1, by omega⟩
    have hA : nV σ r &&& nU σ < 256 := Nat.lt_of_le_of_lt Nat.and_le_left hV
    have hB : andn (nV σ r) (nV σ r &&& nU σ) < 256 := Nat.lt_of_le_of_lt Nat.and_le_left hV
    have hbit : (andn (nV σ r) (nV σ r &&& nU σ)).testBit c = (andn (nV σ r) (nU σ)).testBit c := by
      rw [andn_bit (by omega), andn_bit (by omega), Nat.testBit_and]
      cases (nV σ r).testBit c <;> rfl
    rw [f_X9_repair_51, dn, if_neg (nI_neg (by omega)), m_of1 I E hr, bd_s, nI_andn hV hA, has8 hB (by omega), bd_s, bi_if, dn_pred, hbit]
    cases hb : (andn (nV σ r) (nU σ)).testBit c with
    | false =>
      refine ih n x3 (by omega) (by omega) ?_
      rcases h0 with ⟨e, h1⟩ | ⟨i, i1, i2, e, i4, i5⟩
      · refine Or.inl ⟨e, fun j j1 j2 => ?_⟩
        rcases Nat.lt_or_ge c j with w | w
        · exact h1 j (by omega) j2
        · rw [show j = c by omega]
          exact hb
      · refine Or.inr ⟨i, by omega, i2, e, i4, fun j j1 j2 => ?_⟩
        rcases Nat.lt_or_ge c j with w | w
        · exact i5 j (by omega) j2
        · rw [show j = c by omega]
          exact hb
    | true => exact ih n (nI c) (by omega) (by omega) (Or.inr ⟨c, by omega, by omega, rfl, hb, fun j j1 j2 => by omega⟩)
theorem d_repair {σ : Nat → Nat → Int32} {s : Nat → Int32} (h : Pr σ s) {r : Nat} (hr : r < nR σ) : Pd σ s (f_X1_repair σ (nI r)) (f_X9_repair s (nI r)) := by
  have I := h.1
  have E := h.2
  have hR := I.R.2.2
  have hN := I.N.2
  have hV := I.V8 hr
  have hA : nV σ r &&& nU σ < 256 := Nat.lt_of_le_of_lt Nat.and_le_left hV
  unfold f_X1_repair f_X9_repair
  rw [k_hasLearner I hr, bd_s, bi_if, m_of1 I E hr, bd_s, m_ups I E, bd_s, m_avail I E hr, bd_s, bi_if, k_quorum I hr, bd_s, bi_if, m_of3 I E hr, bd_s]
  by_cases q1 : σ 12 r = -1
  · simp only [q1, decide_true, Bool.not_true, cond_false, if_true]
    cases quo σ r with
    | false => exact Or.inl ⟨rfl, rfl⟩
    | true =>
      rw [cond_true, cond_true, k_votersUp I hr, bd_s, bc8 _ hA, bd_s, nI_and, m_count hA, bd_s, ld_s0 E]
      by_cases q2 : nI (pc (nV σ r &&& nU σ)) < σ 0 0
      · have hl := k_lowest I (m := andn (nV σ r) (nU σ)) (Nat.lt_of_le_of_lt Nat.and_le_left hV)
        have hL := m_repairL I E hr 8 FU (-1) (by decide) (FU_gt (by decide)) (Or.inl ⟨rfl, fun j j1 j2 => by omega⟩)
        have hok : okN (nN σ) (on (amx (fun k => (andn (nV σ r) (nU σ)).testBit k) (fun _ _ => false) (nN σ))) := on_ok (fun k hk => (amx_mem hk).1)
        rw [if_pos q2, if_pos q2, k_votersDown I hr, bd_s, hl, bd_s]
        rw [show (7 : Int32) = dn 8 from rfl, hL]
        generalize on (amx (fun k => (andn (nV σ r) (nU σ)).testBit k) (fun _ _ => false) (nN σ)) = z at hok ⊢
        rw [k_choose I hr hok, bd_s, m_repairE, m_choose I E hr, bd_s]
        unfold f_X9_repair_109
        cases hc : chs σ r z (nN σ) with
        | none => exact Or.inl ⟨rfl, rfl⟩
        | some k =>
          have hk := (amx_mem hc).1
          obtain ⟨σ', s', e1, e2, e3⟩ := p_learn h hr (x := nI k) (z := z) (Or.inr ⟨k, hk, rfl⟩) hok
          rw [show on (some k) = nI k from rfl, if_neg (nI_m1 (by omega)), if_neg (nI_m1 (by omega)), e1, bd_s, e2, bd_s, if_neg (nI_m1 (by omega))]
          exact Or.inr ⟨_, _, rfl, rfl, e3⟩
      · rw [if_neg q2, if_neg q2]
        exact Or.inl ⟨rfl, rfl⟩
  · refine Or.inl ⟨?_, ?_⟩
    · simp [q1]
    · cases quo σ r <;> simp [q1]
/-! spread -/
theorem m_spreadL {σ : Nat → Nat → Int32} {s : Nat → Int32} (I : IV σ) (E : EQ σ s) {r : Nat} (hr : r < nR σ) : ∀ k i n, i + k = nN σ → k < n → f_X9_spread_14 n s (nI r) (on (amx (shz σ r) (fun _ _ => true) i)) (nI i) = f_X9_spread_14 1 s (nI r) (on (amx (shz σ r) (fun _ _ => true) (nN σ))) (nI (nN σ)) := by
  have hN := I.N.2
  have hV := I.V8 hr
  intro k
  induction k with
  | zero =>
    intro i n hi hn
    obtain ⟨n, rfl⟩ : ∃ m, n = m + 1 := ⟨n - 1, by omega⟩
    have e : i = nN σ := by omega
    subst e
    rw [f_X9_spread_14, f_X9_spread_14, ld_N I E, ld_N I E, if_pos (nI_le (Nat.le_refl _) (by omega)), if_pos (nI_le (Nat.le_refl _) (by omega))]
  | succ k ih =>
    intro i n hi hn
    obtain ⟨n, rfl⟩ : ∃ m, n = m + 1 := ⟨n - 1, by omega⟩
    have h1 := ih (i + 1) n (by omega) (by omega)
    refine Eq.trans ?_ h1
    rw [f_X9_spread_14, ld_N I E, if_le (by omega) (by omega), if_neg (by omega), m_of1 I E hr, bd_s, has8 hV (by omega), bd_s, bi_if, nI_1]
    cases hb : (nV σ r).testBit i with
    | false =>
      rw [cond_false, amx_no (by unfold shz; rw [hb]; rfl)]
    | true =>
      rw [cond_true, m_fresh I E hr (by omega), bd_s, bi_if]
      cases hf : fresh σ r (nI i) i with
      | false =>
        have hp : shz σ r i = true := by unfold shz; rw [hb, hf]; rfl
        have e : amx (shz σ r) (fun _ _ => true) (i + 1) = some i := by
          cases ha : amx (shz σ r) (fun _ _ => true) i with
          | none => exact amx_first hp ha
          | some j => exact amx_yes hp ha rfl
        rw [e]
        rfl
      | true => rw [cond_true, amx_no (by unfold shz; rw [hb, hf]; rfl)]
theorem d_spread {σ : Nat → Nat → Int32} {s : Nat → Int32} (h : Pr σ s) {r : Nat} (hr : r < nR σ) : Pd σ s (f_X1_spread σ (nI r)) (f_X9_spread s (nI r)) := by
  have I := h.1
  have E := h.2
  have hR := I.R.2.2
  have hN := I.N.2
  unfold f_X1_spread f_X9_spread
  rw [k_isWhole I hr, bd_s, bi_if, m_whole I E hr, bd_s, bi_if]
  cases whol σ r with
  | false => exact Or.inl ⟨rfl, rfl⟩
  | true =>
    have hL := m_spreadL I E hr (nN σ) 0 FU (by omega) (FU_gt (by omega))
    rw [cond_true, cond_true, ld_n (by omega) (by decide), (I.r r hr).2.1.1, k_high I hr, bd_s]
    rw [show f_X9_spread_14 FU s (nI r) (-1) 0 = _ from hL]
    rw [f_X9_spread_14, ld_N I E, if_pos (nI_le (Nat.le_refl _) (by omega))]
    cases ha : amx (shz σ r) (fun _ _ => true) (nN σ) with
    | none =>
      rw [show on none = (-1 : Int32) from rfl, if_pos rfl, if_pos rfl]
      exact Or.inl ⟨rfl, rfl⟩
    | some j =>
      have hj := (amx_mem ha).1
      have hok : okN (nN σ) (nI j) := Or.inr ⟨j, hj, rfl⟩
      rw [show on (some j) = nI j from rfl, if_neg (nI_m1 (by omega)), if_neg (nI_m1 (by omega)), k_choose I hr hok, bd_s, m_choose I E hr, bd_s]
      unfold f_X9_spread_75
      cases hc : chs σ r (nI j) (nN σ) with
      | none =>
        rw [show on none = (-1 : Int32) from rfl, if_pos rfl, if_pos rfl]
        exact Or.inl ⟨rfl, rfl⟩
      | some k =>
        have hk := (amx_mem hc).1
        rw [show on (some k) = nI k from rfl, if_neg (nI_m1 (by omega)), if_neg (nI_m1 (by omega)), k_isFresh I hr hk hok, bd_s, bi_if, m_fresh I E hr hk, bd_s, bi_if]
        cases fresh σ r (nI j) k with
        | false => exact Or.inl ⟨rfl, rfl⟩
        | true =>
          obtain ⟨σ', s', e1, e2, e3⟩ := p_learn h hr (x := nI k) (z := nI j) (Or.inr ⟨k, hk, rfl⟩) hok
          rw [cond_true, cond_true, e1, bd_s, e2, bd_s]
          exact Or.inr ⟨_, _, rfl, rfl, e3⟩
