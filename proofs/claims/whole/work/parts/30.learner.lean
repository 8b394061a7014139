/-! learners: set, cleared, advanced -/
def lr (σ : Nat → Nat → Int32) (r : Nat) (x y z : Int32) : Nat → Nat → Int32 := cu (cu (cu σ 12 r x) 13 r y) 14 r z
def ls (s : Nat → Int32) (r : Nat) (x y z : Int32) : Nat → Int32 := upd (upd (upd s (171 + 6 * r + 3) x) (171 + 6 * r + 4) y) (171 + 6 * r + 5) z
theorem p_lr {σ : Nat → Nat → Int32} {s : Nat → Int32} (h : Pr σ s) {r : Nat} (hr : r < nR σ) {x z : Int32} (y : Int32) (hx : okN (nN σ) x) (hz : okN (nN σ) z) : Pr (lr σ r x y z) (ls s r x y z) := by
  have h1 : Pr (cu σ 12 r x) (upd s (171 + 6 * r + 3) x) := ⟨IV_w3 h.1 r hx, EQ_w h.1 h.2 _ hr (by decide)⟩
  have h2 : Pr (cu (cu σ 12 r x) 13 r y) (upd (upd s (171 + 6 * r + 3) x) (171 + 6 * r + 4) y) := ⟨IV_w4 h1.1 r y, EQ_w h1.1 h1.2 _ hr (by decide)⟩
  exact ⟨IV_w5 h2.1 r hz, EQ_w h2.1 h2.2 _ hr (by decide)⟩
theorem k_setL {σ : Nat → Nat → Int32} {r : Nat} (h : r < 16) (x y z : Int32) : f_X5_setLearner σ (nI r) x y z = some (lr σ r x y z) := by
  unfold f_X5_setLearner lr
  rw [sd_n h (by decide), sd_n h (by decide), sd_n h (by decide), nI_clamp (by omega)]
theorem k_clear {σ : Nat → Nat → Int32} {r : Nat} (h : r < 16) : f_X5_clearLearner σ (nI r) = some (lr σ r (-1) 0 (-1)) := by
  unfold f_X5_clearLearner
  rw [k_setL h, bd_s]
theorem m_forget {s : Nat → Int32} {r : Nat} (h : r < 16) : f_X9_forgetLearner s (nI r) = some (ls s r (-1) 0 (-1)) := by
  unfold f_X9_forgetLearner ls
  rw [show (3 : Int32) = nI 3 from rfl, m_set h 3 (by decide), bd_s, show (4 : Int32) = nI 4 from rfl, m_set h 4 (by decide), bd_s, show (5 : Int32) = nI 5 from rfl, m_set h 5 (by decide), bd_s]
theorem m_set0 {s : Nat → Int32} {r : Nat} (h : r < 16) (v : Int32) : f_X9_set s (nI r) 0 v = some (upd s (171 + 6 * r + 0) v) := m_set h 0 (by decide) v
theorem m_set1 {s : Nat → Int32} {r : Nat} (h : r < 16) (v : Int32) : f_X9_set s (nI r) 1 v = some (upd s (171 + 6 * r + 1) v) := m_set h 1 (by decide) v
theorem m_set2 {s : Nat → Int32} {r : Nat} (h : r < 16) (v : Int32) : f_X9_set s (nI r) 2 v = some (upd s (171 + 6 * r + 2) v) := m_set h 2 (by decide) v
theorem m_set3 {s : Nat → Int32} {r : Nat} (h : r < 16) (v : Int32) : f_X9_set s (nI r) 3 v = some (upd s (171 + 6 * r + 3) v) := m_set h 3 (by decide) v
theorem m_set4 {s : Nat → Int32} {r : Nat} (h : r < 16) (v : Int32) : f_X9_set s (nI r) 4 v = some (upd s (171 + 6 * r + 4) v) := m_set h 4 (by decide) v
theorem m_set5 {s : Nat → Int32} {r : Nat} (h : r < 16) (v : Int32) : f_X9_set s (nI r) 5 v = some (upd s (171 + 6 * r + 5) v) := m_set h 5 (by decide) v
def tks (σ : Nat → Nat → Int32) (r : Nat) : Int32 := 1 + nI (rZ σ r) / σ 0 5
theorem k_teach {σ : Nat → Nat → Int32} (I : IV σ) {r : Nat} (h : r < nR σ) (x z : Int32) : f_X1_teach σ (nI r) x z = some (lr σ r x (tks σ r) z) := by
  unfold f_X1_teach
  rw [k_rangeSize I h, bd_s, k_ticks I, bd_s, k_setL (by have := I.R.2.2; omega), bd_s]
  rfl
theorem m_learn {σ : Nat → Nat → Int32} {s : Nat → Int32} (I : IV σ) (E : EQ σ s) {r : Nat} (h : r < nR σ) {x : Int32} (z : Int32) (hx : okN (nN σ) x) : f_X9_learn s (nI r) x z = some (ls s r x (tks σ r) z) := by
  have hR := I.R.2.2
  have I2 : IV (cu σ 12 r x) := IV_w3 I r hx
  have E2 : EQ (cu σ 12 r x) (upd s (171 + 6 * r + 3) x) := EQ_w I E _ h (by decide)
  have h5 : upd s (171 + 6 * r + 3) x 5 = σ 0 5 := E2.st 5 (by decide)
  have hz : ¬ σ 0 5 = 0 := fun q => by
    obtain ⟨a, b, c⟩ := I.P
    rw [a, nI_0i (by omega)] at q
    omega
  unfold f_X9_learn
  rw [show (3 : Int32) = nI 3 from rfl, m_set (by omega) 3 (by decide), bd_s, m_size I2 E2 h, bd_s, show (5 : Int32) = nI 5 from rfl, ld_n (by decide) (by decide), h5]
  unfold dz
  rw [if_neg hz, show (4 : Int32) = nI 4 from rfl, m_set (by omega) 4 (by decide), bd_s, m_set (by omega) 5 (by decide), bd_s]
  rfl
theorem p_learn {σ : Nat → Nat → Int32} {s : Nat → Int32} (h : Pr σ s) {r : Nat} (hr : r < nR σ) {x z : Int32} (hx : okN (nN σ) x) (hz : okN (nN σ) z) : ∃ σ' s', f_X1_teach σ (nI r) x z = some σ' ∧ f_X9_learn s (nI r) x z = some s' ∧ Pr σ' s' :=
  ⟨_, _, k_teach h.1 hr x z, m_learn h.1 h.2 hr z hx, p_lr h hr _ hx hz⟩
theorem or_lt {a b n : Nat} (ha : a < 2 ^ n) (hb : b < 2 ^ n) : a ||| b < 2 ^ n := Nat.or_lt_two_pow ha hb
theorem andn_0 {a : Nat} (h : a < 256) : andn a 0 = a := by
  unfold andn
  rw [show 255 ^^^ 0 = 255 from rfl, and255 a h]
theorem p_advance {σ : Nat → Nat → Int32} {s : Nat → Int32} (h : Pr σ s) {r : Nat} (hr : r < nR σ) : ∃ σ' s', f_X1_advanceLearner σ (nI r) = some σ' ∧ f_X9_progress s (nI r) = some s' ∧ Pr σ' s' ∧ nR σ' = nR σ := by
  have I := h.1
  have E := h.2
  have hR := I.R.2.2
  have hN := I.N.2
  obtain ⟨-, ⟨hV, hV2⟩, hl, hn, hz⟩ := I.r r hr
  unfold f_X1_advanceLearner f_X9_progress
  rw [ld_n (by omega) (by decide), m_of3 I E hr, bd_s]
  rcases hn with e | ⟨k, hk, e⟩
  · rw [e, k_isUpM I, bd_s, if_pos rfl, if_pos rfl]
    exact ⟨_, _, rfl, rfl, h, rfl⟩
  · rw [e, k_isUp I (by omega), bd_s, if_neg (nI_m1 (by omega)), m_isUp I E hk, bd_s, bi_if, bi_if]
    cases hu : (nU σ).testBit k with
    | false => exact ⟨_, _, rfl, rfl, h, rfl⟩
    | true =>
      rw [cond_true, cond_true, ld_n (by omega) (by decide), m_of2 I E hr, bd_s]
      by_cases q1 : σ 11 r = -1
      · rw [if_pos q1, if_pos q1]
        exact ⟨_, _, rfl, rfl, h, rfl⟩
      rw [if_neg q1, if_neg q1, ld_n (by omega) (by decide), sd_n (by omega) (by decide), m_of4 I E hr, bd_s, nI_clamp (by omega), show (4 : Int32) = nI 4 from rfl, m_set (by omega) 4 (by decide), bd_s]
      have h1 : Pr (cu σ 13 r (σ 13 r - 1)) (upd s (171 + 6 * r + 4) (σ 13 r - 1)) := ⟨IV_w4 I r _, EQ_w I E _ hr (by decide)⟩
      have hr1 : r < nR (cu σ 13 r (σ 13 r - 1)) := hr
      have ev : cu σ 13 r (σ 13 r - 1) 13 r = σ 13 r - 1 := by rw [cu_eq, up_eq]
      rw [ld_n (by omega) (by decide), show nI 4 = (4 : Int32) from rfl, m_of4 h1.1 h1.2 hr1, bd_s, ev]
      by_cases q2 : σ 13 r - 1 ≤ 0
      · rw [if_pos q2, if_pos q2, ld_n (by omega) (by decide), k_clear (by omega), bd_s, m_of5 h1.1 h1.2 hr1, bd_s, m_forget (by omega), bd_s, show cu σ 13 r (σ 13 r - 1) 14 r = σ 14 r from rfl]
        have h2 := p_lr h1 hr1 (x := -1) (z := -1) 0 (Or.inl rfl) (Or.inl rfl)
        generalize hσ2 : lr (cu σ 13 r (σ 13 r - 1)) r (-1) 0 (-1) = σ2 at h2 ⊢
        generalize ls (upd s (171 + 6 * r + 4) (σ 13 r - 1)) r (-1) 0 (-1) = s2 at h2 ⊢
        have e10 : σ2 10 r = nI (nV σ r) := by rw [← hσ2]; exact hV
        have e11 : σ2 11 r = σ 11 r := by rw [← hσ2]; rfl
        have eN : nN σ2 = nN σ := by rw [← hσ2]; rfl
        have eR : nR σ2 = nR σ := by rw [← hσ2]; rfl
        have eV : nV σ2 r = nV σ r := by rw [← hσ2]; rfl
        have hr2 : r < nR σ2 := by rw [eR]; exact hr
        clear hσ2
        have hk2 : 2 ^ k < 2 ^ nN σ := Nat.pow_lt_pow_right (by decide) hk
        have hor := or_lt hV2 hk2
        have hor8 := lt256 hor hN
        obtain ⟨hbz, hbz2⟩ := bit_any hN hz
        rw [ld_n (by omega) (by decide), e10, bitF (by omega), bd_s, hbz, bd_s, sd_n (by omega) (by decide), nI_or, nI_andn hor8 (lt256 hbz2 hN), ld_n (by omega) (by decide), m_of1 h2.1 h2.2 hr2, eV, bd_s, shl8 k (by omega), nI_or]
        have hxl : andn (nV σ r ||| 2 ^ k) (bm (σ 14 r)) < 2 ^ nN σ := andn_lt hor
        have h3 : Pr (cu σ2 10 r (nI (andn (nV σ r ||| 2 ^ k) (bm (σ 14 r))))) (upd s2 (171 + 6 * r + 1) (nI (andn (nV σ r ||| 2 ^ k) (bm (σ 14 r))))) := ⟨IV_w1 h2.1 r (by rw [eN]; exact hxl), EQ_w h2.1 h2.2 _ hr2 (by decide)⟩
        have eM : (if σ 14 r = -1 then f_X9_progress_100 s2 (nI r) (σ 14 r) (nI (nV σ r ||| 2 ^ k)) 1 (nI r) else f_X9_progress_100 s2 (nI r) (σ 14 r) (nI (nV σ r ||| 2 ^ k) &&& ((1 : Int32) <<< (σ 14 r &&& 31) ^^^ -1)) 1 (nI r)) = f_X9_progress_100 s2 (nI r) (σ 14 r) (nI (andn (nV σ r ||| 2 ^ k) (bm (σ 14 r)))) 1 (nI r) := by
          rcases hz with e2 | ⟨j, hj, e2⟩
          · rw [if_pos e2, e2, bm_m1, andn_0 hor8]
          · rw [if_neg (by rw [e2]; exact nI_m1 (by omega)), e2, shl8 j (by omega), nI_andn hor8 (pow8 j (by omega)), bm_n (by omega)]
        rw [eM]
        unfold f_X9_progress_100
        rw [m_set1 (by omega), bd_s]
        generalize nI (andn (nV σ r ||| 2 ^ k) (bm (σ 14 r))) = xv at h3 ⊢
        have hr3 : r < nR (cu σ2 10 r xv) := hr2
        rw [m_of2 h3.1 h3.2 hr3, bd_s, show cu σ2 10 r xv 11 r = σ 11 r from e11]
        by_cases q3 : σ 11 r = σ 14 r
        · rw [if_pos q3, if_neg (fun z => q1 (q3.trans z)), if_pos q3, k_elect h3.1 hr3, m_elect h3.1 h3.2 hr3]
          exact ⟨_, _, rfl, rfl, p_elect h3 hr3, eR⟩
        · rw [if_neg q3, if_neg q3]
          refine ⟨_, _, rfl, ?_, h3, eR⟩
          split <;> rfl
      · rw [if_neg q2, if_neg q2]
        exact ⟨_, _, rfl, rfl, h1, rfl⟩
