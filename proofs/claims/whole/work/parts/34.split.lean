/-! a division and a merge keep the pair -/
theorem p_divide {σ : Nat → Nat → Int32} {s : Nat → Int32} (h : Pr σ s) {r x : Nat} (hr : r < nR σ) (hF : nR σ < 16) (h1 : nS σ r < x) (h2 : x < nE σ r) : Pr (dvk σ r (nI x)) (dvs s r (nR σ) (nI x)) := by
  have I := h.1
  have E := h.2
  have hx : x ≤ 9999 := by have := nE_le I r; omega
  have r9 : ∀ j, dvk σ r (nI x) 9 j = if j = r + 1 then nI x else σ 9 (shf (r + 1) (nR σ) j) := fun j => rfl
  have rw_ : ∀ w, w < 6 → ¬ w = 0 → ∀ j, dvk σ r (nI x) (9 + w) j = σ (9 + w) (shf (r + 1) (nR σ) j) := fun w hw hw0 j => by
    unfold dvk
    rw [cu_ne (by omega), cu_ne (by omega), rm_in _ _ hw]
  have eS1 : nS (dvk σ r (nI x)) (r + 1) = x := by
    unfold nS
    rw [r9, if_pos rfl, tn_n (by omega)]
  have eS2 : ∀ j, ¬ j = r + 1 → nS (dvk σ r (nI x)) j = nS σ (shf (r + 1) (nR σ) j) := fun j hj => by
    unfold nS
    rw [r9, if_neg hj]
  have sh : ∀ j, j < nR σ + 1 → shf (r + 1) (nR σ) j < nR σ := fun j hj => by
    unfold shf
    split <;> omega
  have h0 : ∀ k, ¬ k = 8 → dvk σ r (nI x) 0 k = σ 0 k := fun k hk => by
    unfold dvk
    rw [cu_eq, up_ne hk]
    rfl
  refine ⟨IV_rows I (N := nR σ + 1) h0 rfl (by omega) (by omega) rfl rfl rfl rfl (fun q hq => ?_) ?_ (fun q hq => ?_), ?_⟩
  · refine IVr_at (I.r (shf (r + 1) (nR σ) q) (sh q hq)) rfl (rw_ 1 (by decide) (by decide) q) (rw_ 2 (by decide) (by decide) q) (rw_ 3 (by decide) (by decide) q) (rw_ 5 (by decide) (by decide) q) ?_
    by_cases c : q = r + 1
    · subst c
      rw [eS1]
      exact ⟨(r9 _).trans (if_pos rfl), hx⟩
    · rw [eS2 q c]
      exact ⟨(r9 _).trans ((if_neg c).trans (I.r _ (sh q hq)).1.1), (I.r _ (sh q hq)).1.2⟩
  · rw [eS2 0 (by omega), show shf (r + 1) (nR σ) 0 = 0 by unfold shf; rw [if_neg (by omega)]]
    exact I.S.1
  · by_cases c : q = r + 1
    · subst c
      rw [eS1, eS2 _ (by omega), show shf (r + 1) (nR σ) (r + 1 + 1) = r + 1 by unfold shf; rw [if_pos (by omega)]; rfl]
      unfold nE at h2
      rw [if_pos (by omega)] at h2
      exact h2
    · by_cases c2 : q = r
      · subst c2
        rw [eS1, eS2 _ (by omega), show shf (q + 1) (nR σ) q = q by unfold shf; rw [if_neg (by omega)]]
        exact h1
      · rw [eS2 _ c, eS2 _ (by omega)]
        by_cases c3 : r + 1 ≤ q
        · rw [show shf (r + 1) (nR σ) q = q - 1 by unfold shf; rw [if_pos (by omega)], show shf (r + 1) (nR σ) (q + 1) = q - 1 + 1 by unfold shf; rw [if_pos (by omega)]; omega]
          exact I.S.2 (q - 1) (by omega)
        · rw [show shf (r + 1) (nR σ) q = q by unfold shf; rw [if_neg (by omega)], show shf (r + 1) (nR σ) (q + 1) = q + 1 by unfold shf; rw [if_neg (by omega)]]
          exact I.S.2 q (by omega)
  · refine EQ_rows I E (N := nR σ + 1) h0 rfl (by omega) rfl rfl rfl rfl rfl rfl (fun k h1 h2 => ?_) ?_ (fun k hk => ?_) (fun q hq w hw => ?_)
    · unfold dvs
      rw [up_ne (by omega), up_ne h2]
      unfold mv
      rw [if_neg (by omega)]
    · unfold dvs
      rw [up_ne (by omega), up_eq]
    · unfold dvs
      rw [up_ne (by omega), up_ne (by omega)]
      unfold mv
      rw [if_neg (by omega)]
    · unfold dvs
      by_cases c : q = r + 1 ∧ w = 0
      · obtain ⟨rfl, rfl⟩ := c
        rw [up_eq]
        exact ((r9 _).trans (if_pos rfl)).symm
      · rw [up_ne (by omega), up_ne (by omega)]
        have e1 : dvk σ r (nI x) (9 + w) q = σ (9 + w) (shf (r + 1) (nR σ) q) := by
          by_cases c2 : w = 0
          · subst c2
            exact (r9 _).trans (if_neg (by omega))
          · exact rw_ w hw c2 q
        rw [e1]
        unfold mv shf
        by_cases c3 : r + 1 ≤ q
        · rw [if_pos (by omega), if_pos (by omega), show 171 + 6 * q + w - 6 = 171 + 6 * (q - 1) + w by omega]
          exact E.r (q - 1) (by omega) w hw
        · rw [if_neg (by omega), if_neg (by omega)]
          exact E.r q (by omega) w hw
/-! the merge -/
def shb (a c j : Nat) : Nat := if a ≤ j ∧ j < c then j + 1 else j
def mgk (σ : Nat → Nat → Int32) (r : Nat) : Nat → Nat → Int32 := cu (rm σ (shb (r + 1) (nR σ - 1))) 0 8 (nI (nR σ - 1))
theorem k_mrgL {σ : Nat → Nat → Int32} (I : IV σ) {r : Nat} (h : r + 1 < nR σ) : ∀ k c n, c + k = nR σ - 1 → r + 1 ≤ c → k < n → f_X5_absorbNext_4 n (rm σ (shb (r + 1) c)) (nI c) = some (mgk σ r) := by
  have hR := I.R.2.2
  intro k
  induction k with
  | zero =>
    intro c n hc hc2 hn
    obtain ⟨n, rfl⟩ : ∃ m, n = m + 1 := ⟨n - 1, by omega⟩
    have e : c = nR σ - 1 := by omega
    subst e
    have e8 : rm σ (shb (r + 1) (nR σ - 1)) 0 8 = nI (nR σ) := I.R.1
    rw [f_X5_absorbNext_4, e8, nI_1, if_le (by omega) (by omega), if_pos (by omega), dn_sub]
    unfold mgk
    obtain ⟨N, hN⟩ : ∃ d, nR σ = d + 1 := ⟨nR σ - 1, by omega⟩
    rw [hN]
    rfl
  | succ k ih =>
    intro c n hc hc2 hn
    obtain ⟨n, rfl⟩ : ∃ m, n = m + 1 := ⟨n - 1, by omega⟩
    have e8 : rm σ (shb (r + 1) c) 0 8 = nI (nR σ) := I.R.1
    rw [f_X5_absorbNext_4, e8, nI_1, if_le (by omega) (by omega), if_neg (by omega), k_copy _ (by omega) (by omega), bd_s, rm_rm]
    have e1 : rm σ (fun j => shb (r + 1) c (if j = c then c + 1 else j)) = rm σ (shb (r + 1) (c + 1)) := rm_f σ (fun j => by
      unfold shb
      split <;> split <;> split <;> omega)
    rw [e1]
    exact ih (c + 1) n (by omega) (by omega) (by omega)
theorem k_merge {σ : Nat → Nat → Int32} (I : IV σ) {r : Nat} (h : r + 1 < nR σ) : f_X5_absorbNext σ (nI r) = some (mgk σ r) := by
  unfold f_X5_absorbNext
  have hR := I.R.2.2
  have h1 := k_mrgL I h (nR σ - 1 - (r + 1)) (r + 1) FU (by omega) (Nat.le_refl _) (FU_gt (by omega))
  rw [rm_id σ (fun j => by unfold shb; rw [if_neg (by omega)])] at h1
  rw [nI_1]
  exact h1
def mvb (s : Nat → Int32) (a c k : Nat) : Int32 := if a ≤ k ∧ k < c then s (k + 6) else s k
/-- the last row, cleared from a field on -/
def clr (s : Nat → Int32) (b w k : Nat) : Int32 := if b ≤ k ∧ k < b + w then 0 else s k
def mgs (s : Nat → Int32) (r N : Nat) : Nat → Int32 := clr (upd (mvb s (171 + 6 * (r + 1)) (165 + 6 * N)) 17 (nI (N - 1))) (171 + 6 * (N - 1)) 6
theorem m_clrL {s : Nat → Int32} {N : Nat} (hN : N < 16) (hs : s 17 = nI N) : ∀ k w n, w + k = 6 → k < n → f_X9_mergeNextInto_66 n (clr s (171 + 6 * N) w) (nI w) = some (clr s (171 + 6 * N) 6) := by
  intro k
  induction k with
  | zero =>
    intro w n hw hn
    obtain ⟨n, rfl⟩ : ∃ m, n = m + 1 := ⟨n - 1, by omega⟩
    have e : w = 6 := by omega
    subst e
    rw [f_X9_mergeNextInto_66, if_pos (by decide)]
  | succ k ih =>
    intro w n hw hn
    obtain ⟨n, rfl⟩ : ∃ m, n = m + 1 := ⟨n - 1, by omega⟩
    have e17 : clr s (171 + 6 * N) w 17 = nI N := by
      unfold clr
      rw [if_neg (by omega), hs]
    have e1 : upd (clr s (171 + 6 * N) w) (171 + 6 * N + w) 0 = clr s (171 + 6 * N) (w + 1) := by
      funext j
      unfold upd clr
      by_cases q : j = 171 + 6 * N + w
      · rw [if_pos q, if_pos (by omega)]
      · rw [if_neg q]
        by_cases q2 : 171 + 6 * N ≤ j ∧ j < 171 + 6 * N + w
        · rw [if_pos q2, if_pos (by omega)]
        · rw [if_neg q2, if_neg (by omega)]
    rw [f_X9_mergeNextInto_66, show (6 : Int32) = nI 6 from rfl, if_le (by omega) (by omega), if_neg (by omega), show (17 : Int32) = nI 17 from rfl, ld_n (by decide) (by decide), e17, m_set hN w (by omega), bd_s, e1, nI_1]
    exact ih (w + 1) n (by omega) (by omega)
theorem m_mrgL {σ : Nat → Nat → Int32} {s : Nat → Int32} (I : IV σ) (E : EQ σ s) {r : Nat} (h : r + 1 < nR σ) : ∀ k c n, c + k = 165 + 6 * nR σ → 171 + 6 * (r + 1) ≤ c → k < n → f_X9_mergeNextInto_11 n (mvb s (171 + 6 * (r + 1)) c) (nI c) = some (mgs s r (nR σ)) := by
  have hR := I.R.2.2
  have ex : (171 : Int32) + (6 : Int32) * nI (nR σ) = nI (171 + 6 * nR σ) := by have := ix_r (nR σ) 0; rw [show nI 0 = (0 : Int32) from rfl, Int32.add_zero] at this; exact this
  intro k
  induction k with
  | zero =>
    intro c n hc hc2 hn
    obtain ⟨n, rfl⟩ : ∃ m, n = m + 1 := ⟨n - 1, by omega⟩
    have e : c = 165 + 6 * nR σ := by omega
    subst e
    have e17 : mvb s (171 + 6 * (r + 1)) (165 + 6 * nR σ) 17 = nI (nR σ) := by
      unfold mvb
      rw [if_neg (by omega), E.R, I.R.1]
    have hL := m_clrL (s := upd (mvb s (171 + 6 * (r + 1)) (165 + 6 * nR σ)) 17 (nI (nR σ - 1))) (N := nR σ - 1) (by omega) up_eq 6 0 FU (by decide) (FU_gt (by decide))
    rw [show clr (upd (mvb s (171 + 6 * (r + 1)) (165 + 6 * nR σ)) 17 (nI (nR σ - 1))) (171 + 6 * (nR σ - 1)) 0 = upd (mvb s (171 + 6 * (r + 1)) (165 + 6 * nR σ)) 17 (nI (nR σ - 1)) from funext (fun j => by unfold clr; rw [if_neg (by omega)])] at hL
    have ed : nI (nR σ) - 1 = nI (nR σ - 1) := by rw [show (1 : Int32) = nI 1 from rfl, pk_sub (by omega)]
    rw [f_X9_mergeNextInto_11, show (17 : Int32) = nI 17 from rfl, ld_n (by decide) (by decide), e17, ex, show nI (165 + 6 * nR σ) + (6 : Int32) = nI (165 + 6 * nR σ + 6) from nI_add _ 6, if_le (by omega) (by omega), if_pos (by omega), ld_n (by decide) (by decide), e17, sd_n (by decide) (by decide), ed, nI_clamp (by decide)]
    exact hL
  | succ k ih =>
    intro c n hc hc2 hn
    obtain ⟨n, rfl⟩ : ∃ m, n = m + 1 := ⟨n - 1, by omega⟩
    have e17 : mvb s (171 + 6 * (r + 1)) c 17 = nI (nR σ) := by
      unfold mvb
      rw [if_neg (by omega), E.R, I.R.1]
    have e1 : upd (mvb s (171 + 6 * (r + 1)) c) c (mvb s (171 + 6 * (r + 1)) c (c + 6)) = mvb s (171 + 6 * (r + 1)) (c + 1) := by
      funext j
      unfold upd mvb
      by_cases q : j = c
      · subst q
        rw [if_pos rfl, if_neg (by omega), if_pos (by omega)]
      · rw [if_neg q]
        by_cases q2 : 171 + 6 * (r + 1) ≤ j ∧ j < c
        · rw [if_pos q2, if_pos (by omega)]
        · rw [if_neg q2, if_neg (by omega)]
    rw [f_X9_mergeNextInto_11, show (17 : Int32) = nI 17 from rfl, ld_n (by decide) (by decide), e17, ex, show nI c + (6 : Int32) = nI (c + 6) from nI_add _ 6, if_le (by omega) (by omega), if_neg (by omega), ld_n (by omega) (by decide), sd_n (by omega) (by decide), nI_clamp (by omega), e1, nI_1]
    exact ih (c + 1) n (by omega) (by omega) (by omega)
theorem m_merge {σ : Nat → Nat → Int32} {s : Nat → Int32} (I : IV σ) (E : EQ σ s) {r : Nat} (h : r + 1 < nR σ) : f_X9_mergeNextInto s (nI r) = some (mgs s r (nR σ)) := by
  have hR := I.R.2.2
  have ex : (171 : Int32) + (6 : Int32) * nI (r + 1) = nI (171 + 6 * (r + 1)) := by have := ix_r (r + 1) 0; rw [show nI 0 = (0 : Int32) from rfl, Int32.add_zero] at this; exact this
  have h1 := m_mrgL I E h (165 + 6 * nR σ - (171 + 6 * (r + 1))) (171 + 6 * (r + 1)) FU (by omega) (Nat.le_refl _) (FU_gt (by omega))
  rw [show mvb s (171 + 6 * (r + 1)) (171 + 6 * (r + 1)) = s from funext (fun j => by unfold mvb; rw [if_neg (by omega)])] at h1
  unfold f_X9_mergeNextInto
  rw [nI_1, ex]
  exact h1
theorem p_merge {σ : Nat → Nat → Int32} {s : Nat → Int32} (h : Pr σ s) {r : Nat} (hr : r + 1 < nR σ) : Pr (mgk σ r) (mgs s r (nR σ)) := by
  have I := h.1
  have E := h.2
  have hR := I.R.2.2
  have rw_ : ∀ w, w < 6 → ∀ j, mgk σ r (9 + w) j = σ (9 + w) (shb (r + 1) (nR σ - 1) j) := fun w hw j => by
    unfold mgk
    rw [cu_ne (by omega), rm_in _ _ hw]
  have sh : ∀ j, j < nR σ - 1 → shb (r + 1) (nR σ - 1) j < nR σ := fun j hj => by
    unfold shb
    split <;> omega
  have eS : ∀ j, nS (mgk σ r) j = nS σ (shb (r + 1) (nR σ - 1) j) := fun j => by
    unfold nS
    rw [show mgk σ r 9 j = _ from rw_ 0 (by decide) j]
  have h0 : ∀ k, ¬ k = 8 → mgk σ r 0 k = σ 0 k := fun k hk => by
    unfold mgk
    rw [cu_eq, up_ne hk]
    rfl
  refine ⟨IV_rows I (N := nR σ - 1) h0 rfl (by omega) (by omega) rfl rfl rfl rfl (fun q hq => ?_) ?_ (fun q hq => ?_), ?_⟩
  · refine IVr_at (I.r _ (sh q hq)) rfl (rw_ 1 (by decide) q) (rw_ 2 (by decide) q) (rw_ 3 (by decide) q) (rw_ 5 (by decide) q) ?_
    rw [eS q]
    exact ⟨(rw_ 0 (by decide) q).trans (I.r _ (sh q hq)).1.1, (I.r _ (sh q hq)).1.2⟩
  · rw [eS 0, show shb (r + 1) (nR σ - 1) 0 = 0 by unfold shb; rw [if_neg (by omega)]]
    exact I.S.1
  · rw [eS q, eS (q + 1)]
    refine nS_mono I ?_ (sh _ hq)
    unfold shb
    split <;> split <;> omega
  · refine EQ_rows I E (N := nR σ - 1) h0 rfl (by omega) rfl rfl rfl rfl rfl rfl (fun k h1 h2 => ?_) ?_ (fun k hk => ?_) (fun q hq w hw => ?_)
    · unfold mgs clr
      rw [if_neg (by omega), up_ne h2]
      unfold mvb
      rw [if_neg (by omega)]
    · unfold mgs clr
      rw [if_neg (by omega), up_eq]
    · unfold mgs clr
      rw [if_neg (by omega), up_ne (by omega)]
      unfold mvb
      rw [if_neg (by omega)]
    · rw [rw_ w hw q]
      unfold mgs clr
      rw [if_neg (by omega), up_ne (by omega)]
      unfold mvb shb
      by_cases c3 : r + 1 ≤ q
      · rw [if_pos (by omega), if_pos (by omega), show 171 + 6 * q + w + 6 = 171 + 6 * (q + 1) + w by omega]
        exact E.r (q + 1) (by omega) w hw
      · rw [if_neg (by omega), if_neg (by omega)]
        exact E.r q (by omega) w hw
