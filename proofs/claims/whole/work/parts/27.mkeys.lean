theorem in_at {x a b : Nat} (hx : x < 2 ^ 31) (ha : a < 2 ^ 31) (hb : b < 2 ^ 31) : f_X9_in (nI x) (nI a) (nI b) = some (bi (decide (a ≤ x ∧ x ≤ b))) := by
  unfold f_X9_in
  rw [if_lt hx ha, if_lt hb hx]
  by_cases q1 : x < a
  · rw [if_pos q1, decide_eq_false (by omega)]; rfl
  · rw [if_neg q1]
    by_cases q2 : b < x
    · rw [if_pos q2, decide_eq_false (by omega)]; rfl
    · rw [if_neg q2, decide_eq_true (by omega)]; rfl
theorem nE_pos {σ : Nat → Nat → Int32} (I : IV σ) (r : Nat) : 1 ≤ nE σ r := by
  unfold nE
  split
  · have := I.S.2 r (by assumption)
    omega
  · omega
theorem m_end {σ : Nat → Nat → Int32} {s : Nat → Int32} (I : IV σ) (E : EQ σ s) {r : Nat} (h : r < nR σ) : f_X9_end s (nI r) = some (nI (nE σ r - 1)) := by
  obtain ⟨hR, hR1, hR2⟩ := I.R
  have hp := nE_pos I r
  unfold f_X9_end
  rw [ld_R I E, nI_1, if_le (by omega) (by omega)]
  unfold nE at hp ⊢
  by_cases q : r + 1 < nR σ
  · rw [if_neg (by omega), m_of0 I E q, bd_s, (I.r (r + 1) q).1.1, if_pos q]
    rw [if_pos q] at hp
    rw [show (1 : Int32) = nI 1 from rfl, pk_sub hp]
  · rw [if_pos (by omega), if_neg q]
    rfl
theorem m_isIn {σ : Nat → Nat → Int32} {s : Nat → Int32} (I : IV σ) (E : EQ σ s) {r x : Nat} (h : r < nR σ) (hx : x ≤ 20000) : f_X9_isIn s (nI x) (nI r) = some (bi (decide (nS σ r ≤ x ∧ x < nE σ r))) := by
  have hp := nE_pos I r
  have hl := nE_le I r
  have hs := (I.r r h).1
  unfold f_X9_isIn
  rw [m_of0 I E h, bd_s, m_end I E h, bd_s, hs.1, in_at (by omega) (by omega) (by omega), bd_s, zr_bi]
  congr 2
  apply decide_eq_decide.mpr
  omega
theorem m_rangeAtL {σ : Nat → Nat → Int32} {s : Nat → Int32} (I : IV σ) (E : EQ σ s) {key r0 : Nat} (hk : key ≤ 9999) (h0 : inR σ key r0) : ∀ k i n, i + k = r0 → k < n → f_X9_rangeAt_2 n s (nI key) (nI i) = some (nI r0) := by
  obtain ⟨hR, hR1, hR2⟩ := I.R
  have hr0 := h0.1
  intro k
  induction k with
  | zero =>
    intro i n hi hn
    obtain ⟨n, rfl⟩ : ∃ m, n = m + 1 := ⟨n - 1, by omega⟩
    have e : i = r0 := by omega
    subst e
    rw [f_X9_rangeAt_2, m_isIn I E hr0 (by omega), bd_s, bi_if, decide_eq_true h0.2]
    rfl
  | succ k ih =>
    intro i n hi hn
    obtain ⟨n, rfl⟩ : ∃ m, n = m + 1 := ⟨n - 1, by omega⟩
    rw [f_X9_rangeAt_2, m_isIn I E (r := i) (by omega) (by omega), bd_s, bi_if, decide_eq_false (fun z => by
      have := inR_one I (a := i) (b := r0) ⟨by omega, z⟩ h0
      omega), cond_false, nI_1]
    exact ih (i + 1) n (by omega) (by omega)
theorem m_rangeAt {σ : Nat → Nat → Int32} {s : Nat → Int32} (I : IV σ) (E : EQ σ s) {key r0 : Nat} (hk : key ≤ 9999) (h0 : inR σ key r0) : f_X9_rangeAt s (nI key) = some (nI r0) :=
  m_rangeAtL I E hk h0 r0 0 FU (by omega) (FU_gt (by have := h0.1; have := I.R.2.2; omega))
/-- what a kind of keys (items, samples) is in the model's row -/
def KD (s : Nat → Int32) (c : Int32) (n : Nat) (kf wf : Nat → Nat) : Prop :=
  (∀ i, i < n → ∀ F : Int32 → Option Int32, (if c = 0 then ld s 299 ((43 : Int32) + (2 : Int32) * nI i) F else ld s 299 ((267 : Int32) + nI i) F) = F (nI (kf i))) ∧
  (∀ i, i < n → ∀ (K : Int32 → Option Int32) (x : Int32), (if c = 0 then ld s 299 ((43 : Int32) + (2 : Int32) * nI i + (1 : Int32)) (fun v => K (x + v)) else K (x + (1 : Int32))) = K (x + nI (wf i))) ∧
  (∀ F : Int32 → Option Int32, (if c = 0 then ld s 299 (16 : Int32) F else ld s 299 (18 : Int32) F) = F (nI n)) ∧ n ≤ 64 ∧ ∀ i, i < n → kf i ≤ 9999 ∧ wf i ≤ 99
/-- the weight of the keys of a range that are below a key -/
def wB (kf wf : Nat → Nat) (a b x : Nat) (i : Nat) : Nat := sm (fun k => if (a ≤ kf k ∧ kf k < b) ∧ kf k < x then wf k else 0) i
theorem wB_le {kf wf : Nat → Nat} {n : Nat} (h : ∀ i, i < n → wf i ≤ 99) (hn : n ≤ 64) (a b x : Nat) : wB kf wf a b x n ≤ 6336 := by
  have h1 := sm_bound (n := n) (c := 99) (f := fun k => if (a ≤ kf k ∧ kf k < b) ∧ kf k < x then wf k else 0) (fun k hk => by
    show (if (a ≤ kf k ∧ kf k < b) ∧ kf k < x then wf k else 0) ≤ 99
    have := h k hk
    split <;> omega)
  unfold wB
  omega
theorem m_belowL {σ : Nat → Nat → Int32} {s : Nat → Int32} (I : IV σ) (E : EQ σ s) {r x n0 : Nat} {c : Int32} {kf wf : Nat → Nat} (h : r < nR σ) (hx : x ≤ 20000) (hD : KD s c n0 kf wf) : ∀ k i n, i + k = n0 → k < n → f_X9_below_24 n s (nI r) (nI x) c (nI (wB kf wf (nS σ r) (nE σ r) x i)) (nI n0) (nI i) = some (nI (wB kf wf (nS σ r) (nE σ r) x n0)) := by
  obtain ⟨d1, d2, d3, d4, d5⟩ := hD
  intro k
  induction k with
  | zero =>
    intro i n hi hn
    obtain ⟨n, rfl⟩ : ∃ m, n = m + 1 := ⟨n - 1, by omega⟩
    have e : i = n0 := by omega
    subst e
    rw [f_X9_below_24, if_pos (nI_le (Nat.le_refl _) (by omega))]
  | succ k ih =>
    intro i n hi hn
    obtain ⟨n, rfl⟩ : ∃ m, n = m + 1 := ⟨n - 1, by omega⟩
    have h1 := ih (i + 1) n (by omega) (by omega)
    unfold wB at h1
    rw [sm_s] at h1
    have hk := d5 i (by omega)
    rw [f_X9_below_24, if_le (by omega) (by omega), if_neg (by omega), d1 i (by omega)]
    unfold f_X9_below_61 f_X9_below_106
    rw [m_isIn I E h (by omega), bd_s, bi_if, nI_1, show (0 : Int32) = nI 0 from rfl, nI_add, Nat.add_zero]
    by_cases q : nS σ r ≤ kf i ∧ kf i < nE σ r
    · rw [decide_eq_true q, cond_true, if_le (by omega) (by omega)]
      by_cases q2 : x ≤ kf i
      · rw [if_pos q2]
        rw [if_neg (by omega)] at h1
        exact h1
      · rw [if_neg q2]
        rw [if_pos (by omega)] at h1
        have h2 := d2 i (by omega) (fun y => f_X9_below_24 n s (nI r) (nI x) c y (nI n0) (nI (i + 1))) (nI (sm (fun k => if (nS σ r ≤ kf k ∧ kf k < nE σ r) ∧ kf k < x then wf k else 0) i))
        rw [nI_add] at h2
        exact h2.trans h1
    · rw [decide_eq_false q, cond_false]
      rw [if_neg (by omega)] at h1
      exact h1
theorem m_below {σ : Nat → Nat → Int32} {s : Nat → Int32} (I : IV σ) (E : EQ σ s) {r x n0 : Nat} {c : Int32} {kf wf : Nat → Nat} (h : r < nR σ) (hx : x ≤ 20000) (hD : KD s c n0 kf wf) : f_X9_below s (nI r) (nI x) c = some (nI (wB kf wf (nS σ r) (nE σ r) x n0)) := by
  have h1 := m_belowL I E h hx hD n0 0 FU (by omega) (FU_gt (by have := hD.2.2.2.1; omega))
  unfold f_X9_below f_X9_below_18
  rw [hD.2.2.1]
  exact h1
theorem m_all {σ : Nat → Nat → Int32} {s : Nat → Int32} (I : IV σ) (E : EQ σ s) {r n0 : Nat} {c : Int32} {kf wf : Nat → Nat} (h : r < nR σ) (hD : KD s c n0 kf wf) : f_X9_all s (nI r) c = some (nI (wB kf wf (nS σ r) (nE σ r) 10000 n0)) := by
  unfold f_X9_all
  rw [show (10000 : Int32) = nI 10000 from rfl, m_below I E h (by omega) hD, bd_s]
/-- the keys of a range -/
def KsG (kf : Nat → Nat) (n a b : Nat) : Nat → Prop := fun x => (a ≤ x ∧ x < b) ∧ ∃ i, i < n ∧ kf i = x
theorem m_skL2 {σ : Nat → Nat → Int32} {s : Nat → Int32} (I : IV σ) (E : EQ σ s) {r n0 lo hi : Nat} {c : Int32} {kf wf : Nat → Nat} (h : r < nR σ) (hD : KD s c n0 kf wf) (hlo : KsG kf n0 (nS σ r) (nE σ r) lo) (hhi : KsG kf n0 (nS σ r) (nE σ r) hi) (hmin : ∀ x, KsG kf n0 (nS σ r) (nE σ r) x → lo ≤ x) (hmax : ∀ x, KsG kf n0 (nS σ r) (nE σ r) x → x ≤ hi) : ∀ k i n fd, i + k = n0 → k < n → KsG kf n0 (nS σ r) (nE σ r) fd → lo < fd → (fd = hi ∨ wB kf wf (nS σ r) (nE σ r) 10000 n0 ≤ 2 * wB kf wf (nS σ r) (nE σ r) fd n0) → (∀ j, j < i → KsG kf n0 (nS σ r) (nE σ r) (kf j) → lo < kf j → wB kf wf (nS σ r) (nE σ r) 10000 n0 ≤ 2 * wB kf wf (nS σ r) (nE σ r) (kf j) n0 → fd ≤ kf j) → ∃ v, SKa (KsG kf n0 (nS σ r) (nE σ r)) (fun x => wB kf wf (nS σ r) (nE σ r) x n0) (wB kf wf (nS σ r) (nE σ r) 10000 n0) v ∧ f_X9_splitKeyOf_138 n s (nI r) c (nI lo) (nI n0) (nI fd) (nI (wB kf wf (nS σ r) (nE σ r) 10000 n0)) (nI i) = some v := by
  have hE := nE_le I r
  have hD0 := hD
  obtain ⟨d1, d2, d3, d4, d5⟩ := hD
  have hlb := hlo.1
  have hw := wB_le (kf := kf) (fun i hi => (d5 i hi).2) d4 (nS σ r) (nE σ r)
  intro k
  induction k with
  | zero =>
    intro i n fd hi0 hn f1 f2 f3 f4
    obtain ⟨n, rfl⟩ : ∃ m, n = m + 1 := ⟨n - 1, by omega⟩
    have e : i = n0 := by omega
    subst e
    refine ⟨nI fd, Or.inr ⟨fd, f1, rfl, ⟨lo, hlo, f2⟩, ?_, fun y hy ⟨z, z1, z2⟩ hq => ?_⟩, ?_⟩
    · rcases f3 with q | q
      · exact Or.inr (fun y hy => by rw [q]; exact hmax y hy)
      · exact Or.inl q
    · obtain ⟨y1, j, j1, j2⟩ := hy
      have := hmin z z1
      rw [← j2] at hq ⊢
      exact f4 j j1 ⟨by omega, j, j1, rfl⟩ (by omega) hq
    · rw [f_X9_splitKeyOf_138, if_pos (nI_le (Nat.le_refl _) (by omega))]
  | succ k ih =>
    intro i n fd hi0 hn f1 f2 f3 f4
    obtain ⟨n, rfl⟩ : ∃ m, n = m + 1 := ⟨n - 1, by omega⟩
    have hk := d5 i (by omega)
    have hfb := f1.1.2
    have hwk := hw (kf i)
    have hwt := hw 10000
    have stay : (KsG kf n0 (nS σ r) (nE σ r) (kf i) → lo < kf i → wB kf wf (nS σ r) (nE σ r) 10000 n0 ≤ 2 * wB kf wf (nS σ r) (nE σ r) (kf i) n0 → fd ≤ kf i) → ∃ v, SKa (KsG kf n0 (nS σ r) (nE σ r)) (fun x => wB kf wf (nS σ r) (nE σ r) x n0) (wB kf wf (nS σ r) (nE σ r) 10000 n0) v ∧ f_X9_splitKeyOf_219 (f_X9_splitKeyOf_138 n) s (nI r) c (nI lo) (nI n0) (nI fd) (nI (wB kf wf (nS σ r) (nE σ r) 10000 n0)) (nI i) (nI (kf i)) = some v := by
      intro q
      obtain ⟨v, v1, v2⟩ := ih (i + 1) n fd (by omega) (by omega) f1 f2 f3 (fun j hj g1 g2 g3 => by
        rcases Nat.lt_or_ge j i with w | w
        · exact f4 j w g1 g2 g3
        · have : j = i := by omega
          subst this
          exact q g1 g2 g3)
      refine ⟨v, v1, ?_⟩
      unfold f_X9_splitKeyOf_219 f_X9_splitKeyOf_220
      rw [if_pos rfl, nI_1]
      exact v2
    rw [f_X9_splitKeyOf_138, if_le (by omega) (by omega), if_neg (by omega), d1 i (by omega)]
    unfold f_X9_splitKeyOf_175
    rw [m_isIn I E h (by omega), bd_s, bi_if]
    by_cases q1 : nS σ r ≤ kf i ∧ kf i < nE σ r
    · have hK : KsG kf n0 (nS σ r) (nE σ r) (kf i) := ⟨q1, i, by omega, rfl⟩
      have hlk := hmin _ hK
      rw [decide_eq_true q1, cond_true, if_eq (by omega) (by omega)]
      by_cases q2 : kf i = lo
      · rw [if_pos q2]
        exact stay (fun _ z => by omega)
      · rw [if_neg q2, if_le (by omega) (by omega)]
        by_cases q3 : fd ≤ kf i
        · rw [if_pos q3]
          exact stay (fun _ _ _ => q3)
        · rw [if_neg q3, m_below I E h (by omega) hD0, bd_s, show (2 : Int32) = nI 2 from rfl, pk_mul, if_lt (by omega) (by omega)]
          by_cases q4 : 2 * wB kf wf (nS σ r) (nE σ r) (kf i) n0 < wB kf wf (nS σ r) (nE σ r) 10000 n0
          · rw [if_pos q4]
            exact stay (fun _ _ z => by omega)
          · rw [if_neg q4]
            obtain ⟨v, v1, v2⟩ := ih (i + 1) n (kf i) (by omega) (by omega) hK (by omega) (Or.inr (by omega)) (fun j hj g1 g2 g3 => by
              rcases Nat.lt_or_ge j i with w | w
              · have := f4 j w g1 g2 g3
                omega
              · have : j = i := by omega
                subst this
                exact Nat.le_refl _)
            refine ⟨v, v1, ?_⟩
            unfold f_X9_splitKeyOf_220
            rw [if_neg (by decide), nI_1]
            exact v2
    · rw [decide_eq_false q1, cond_false]
      exact stay (fun z => absurd z.1 q1)
theorem m_skL1 {σ : Nat → Nat → Int32} {s : Nat → Int32} (I : IV σ) (E : EQ σ s) {r n0 : Nat} {c : Int32} {kf wf : Nat → Nat} (h : r < nR σ) (hD : KD s c n0 kf wf) : ∀ k i n (x3 x4 : Int32), i + k = n0 → k < n → ((x3 = -1 ∧ x4 = -1 ∧ ∀ j, j < i → ¬ (nS σ r ≤ kf j ∧ kf j < nE σ r)) ∨ ∃ lo hi, x3 = nI lo ∧ x4 = nI hi ∧ KsG kf n0 (nS σ r) (nE σ r) lo ∧ KsG kf n0 (nS σ r) (nE σ r) hi ∧ ∀ j, j < i → nS σ r ≤ kf j ∧ kf j < nE σ r → lo ≤ kf j ∧ kf j ≤ hi) → ∃ v, SKa (KsG kf n0 (nS σ r) (nE σ r)) (fun x => wB kf wf (nS σ r) (nE σ r) x n0) (wB kf wf (nS σ r) (nE σ r) 10000 n0) v ∧ f_X9_splitKeyOf_26 n s (nI r) c x3 x4 (nI n0) (nI i) = some v := by
  have hE := nE_le I r
  have hD0 := hD
  obtain ⟨d1, d2, d3, d4, d5⟩ := hD
  intro k
  induction k with
  | zero =>
    intro i n x3 x4 hi0 hn hx
    obtain ⟨n, rfl⟩ : ∃ m, n = m + 1 := ⟨n - 1, by omega⟩
    have e : i = n0 := by omega
    subst e
    rcases hx with ⟨rfl, rfl, h0⟩ | ⟨lo, hi, rfl, rfl, h1, h2, h3⟩
    · refine ⟨-1, Or.inl ⟨rfl, fun x y hx hy => ?_⟩, ?_⟩
      · obtain ⟨x1, j, j1, j2⟩ := hx
        exact absurd (by rw [j2]; exact x1) (h0 j j1)
      · rw [f_X9_splitKeyOf_26, if_pos (nI_le (Nat.le_refl _) (by omega)), if_pos rfl]
    · have b1 := h1.1.2
      have b2 := h2.1.2
      have hmin : ∀ x, KsG kf i (nS σ r) (nE σ r) x → lo ≤ x := fun x ⟨x1, j, j1, j2⟩ => by rw [← j2]; exact (h3 j j1 (by rw [j2]; exact x1)).1
      have hmax : ∀ x, KsG kf i (nS σ r) (nE σ r) x → x ≤ hi := fun x ⟨x1, j, j1, j2⟩ => by rw [← j2]; exact (h3 j j1 (by rw [j2]; exact x1)).2
      by_cases q : lo = hi
      · refine ⟨-1, Or.inl ⟨rfl, fun x y hx hy => ?_⟩, ?_⟩
        · have := hmin x hx
          have := hmax x hx
          have := hmin y hy
          have := hmax y hy
          omega
        · rw [f_X9_splitKeyOf_26, if_pos (nI_le (Nat.le_refl _) (by omega)), if_pos (by rw [q])]
      · have hlh := hmin hi h2
        obtain ⟨v, v1, v2⟩ := m_skL2 I E h hD0 h1 h2 hmin hmax i 0 FU hi (by omega) (FU_gt (by omega)) h2 (by omega) (Or.inl rfl) (fun j hj => by omega)
        refine ⟨v, v1, ?_⟩
        rw [f_X9_splitKeyOf_26, if_pos (nI_le (Nat.le_refl _) (by omega)), if_neg (fun z => q ((nI_eq (by omega) (by omega)).mp z)), m_all I E h hD0, bd_s]
        exact v2
  | succ k ih =>
    intro i n x3 x4 hi0 hn hx
    obtain ⟨n, rfl⟩ : ∃ m, n = m + 1 := ⟨n - 1, by omega⟩
    have hk := d5 i (by omega)
    rw [f_X9_splitKeyOf_26, if_le (by omega) (by omega), if_neg (by omega), d1 i (by omega)]
    unfold f_X9_splitKeyOf_63 f_X9_splitKeyOf_86 f_X9_splitKeyOf_92
    rw [m_isIn I E h (by omega), bd_s, bi_if, nI_1]
    by_cases q1 : nS σ r ≤ kf i ∧ kf i < nE σ r
    · have hK : KsG kf n0 (nS σ r) (nE σ r) (kf i) := ⟨q1, i, by omega, rfl⟩
      rw [decide_eq_true q1, cond_true]
      rcases hx with ⟨rfl, rfl, h0⟩ | ⟨lo, hi, rfl, rfl, h1, h2, h3⟩
      · have hn1 : ¬ nI (kf i) ≤ (-1 : Int32) := fun z => by
          rw [Int32.le_iff_toInt_le, nI_toInt (by omega)] at z
          have : (-1 : Int32).toInt = -1 := by decide
          omega
        rw [if_pos rfl, if_neg hn1]
        exact ih (i + 1) n _ _ (by omega) (by omega) (Or.inr ⟨kf i, kf i, rfl, rfl, hK, hK, fun j hj g => by
          rcases Nat.lt_or_ge j i with w | w
          · exact absurd g (h0 j w)
          · have : j = i := by omega
            subst this
            omega⟩)
      · have b1 := h1.1.2
        have b2 := h2.1.2
        rw [if_neg (nI_m1 (by omega)), if_le (by omega) (by omega)]
        have nx : ∀ lo' hi', KsG kf n0 (nS σ r) (nE σ r) lo' → KsG kf n0 (nS σ r) (nE σ r) hi' → lo' ≤ lo → lo' ≤ kf i → hi ≤ hi' → kf i ≤ hi' → ∃ v, SKa (KsG kf n0 (nS σ r) (nE σ r)) (fun x => wB kf wf (nS σ r) (nE σ r) x n0) (wB kf wf (nS σ r) (nE σ r) 10000 n0) v ∧ f_X9_splitKeyOf_26 n s (nI r) c (nI lo') (nI hi') (nI n0) (nI (i + 1)) = some v := fun lo' hi' g1 g2 g3 g4 g5 g6 => ih (i + 1) n _ _ (by omega) (by omega) (Or.inr ⟨lo', hi', rfl, rfl, g1, g2, fun j hj g => by
          rcases Nat.lt_or_ge j i with w | w
          · have := h3 j w g
            omega
          · have : j = i := by omega
            subst this
            omega⟩)
        by_cases q2 : lo ≤ kf i
        · rw [if_pos q2, if_le (by omega) (by omega)]
          by_cases q3 : kf i ≤ hi
          · rw [if_pos q3]
            exact nx lo hi h1 h2 (by omega) q2 (by omega) q3
          · rw [if_neg q3]
            exact nx lo (kf i) h1 hK (by omega) q2 (by omega) (by omega)
        · rw [if_neg q2, if_le (by omega) (by omega)]
          by_cases q3 : kf i ≤ hi
          · rw [if_pos q3]
            exact nx (kf i) hi hK h2 (by omega) (by omega) (by omega) q3
          · rw [if_neg q3]
            exact nx (kf i) (kf i) hK hK (by omega) (by omega) (by omega) (by omega)
    · rw [decide_eq_false q1, cond_false]
      refine ih (i + 1) n _ _ (by omega) (by omega) ?_
      rcases hx with ⟨rfl, rfl, h0⟩ | ⟨lo, hi, rfl, rfl, h1, h2, h3⟩
      · exact Or.inl ⟨rfl, rfl, fun j hj => by
          rcases Nat.lt_or_ge j i with w | w
          · exact h0 j w
          · have : j = i := by omega
            subst this
            exact q1⟩
      · exact Or.inr ⟨lo, hi, rfl, rfl, h1, h2, fun j hj g => by
          rcases Nat.lt_or_ge j i with w | w
          · exact h3 j w g
          · have : j = i := by omega
            subst this
            exact absurd g q1⟩
theorem m_split {σ : Nat → Nat → Int32} {s : Nat → Int32} (I : IV σ) (E : EQ σ s) {r n0 : Nat} {c : Int32} {kf wf : Nat → Nat} (h : r < nR σ) (hD : KD s c n0 kf wf) : ∃ v, SKa (KsG kf n0 (nS σ r) (nE σ r)) (fun x => wB kf wf (nS σ r) (nE σ r) x n0) (wB kf wf (nS σ r) (nE σ r) 10000 n0) v ∧ f_X9_splitKeyOf s (nI r) c = some v := by
  obtain ⟨v, v1, v2⟩ := m_skL1 I E h hD n0 0 FU (-1) (-1) (by omega) (FU_gt (by have := hD.2.2.2.1; omega)) (Or.inl ⟨rfl, rfl, fun j hj => by omega⟩)
  refine ⟨v, v1, ?_⟩
  unfold f_X9_splitKeyOf f_X9_splitKeyOf_20
  rw [hD.2.2.1]
  exact v2
