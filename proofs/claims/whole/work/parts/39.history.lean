/-! the past of both sides -/
theorem EQ_ext {σ : Nat → Nat → Int32} {s t : Nat → Int32} (I : IV σ) (E : EQ σ s) (h : ∀ k, k < 299 → t k = s k) : EQ σ t := by
  have hN := I.N.2
  have hR := I.R.2.2
  have hT := I.T.2
  have hM := I.M.2
  refine ⟨fun k hk => by rw [h k (by omega)]; exact E.st k hk, by rw [h 6 (by decide)]; exact E.ti, fun a h1 h2 => by rw [h _ (by omega)]; exact E.pf a h1 h2, by rw [h 15 (by decide)]; exact E.N, by rw [h 16 (by decide)]; exact E.T, by rw [h 17 (by decide)]; exact E.R, by rw [h 18 (by decide)]; exact E.M, fun k hk => by rw [h _ (by omega), h _ (by omega), h _ (by omega)]; exact E.n k hk, fun r hr w hw => by rw [h _ (by omega)]; exact E.r r hr w hw, fun k hk => by rw [h _ (by omega)]; exact E.m k hk, ?_⟩
  rw [mI_c (h 16 (by decide)) (fun k hk => ?_)]
  · exact E.i
  · rw [E.cT] at hk
    exact ⟨h _ (by omega), h _ (by omega)⟩
theorem Pr_ext {σ : Nat → Nat → Int32} {s t : Nat → Int32} (h : Pr σ s) (he : ∀ k, k < 299 → t k = s k) : Pr σ t := ⟨h.1, EQ_ext h.1 h.2 he⟩
def Rel : RelT := fun σ t h s P E n => Pr σ s ∧ (t 0 = E 0 ∧ t 1 = E 1 ∧ t 2 = E 2) ∧ ∃ m x, m ≤ 4 ∧ x < 4 ∧ n = nI m ∧ t 3 = nI m ∧ t 4 = nI x ∧ ∀ j, j < m → Pr (h ((x + 4 - m + j) % 4)) (fun k => P (299 * j + k))
def pN (P s : Nat → Int32) (m c q : Nat) : Int32 := if 299 * m ≤ q ∧ q < 299 * m + c then s (q - 299 * m) else P q
def pS (P : Nat → Int32) (c q : Nat) : Int32 := if q < c then P (q + 299) else P q
theorem ix_h (m k : Nat) : (299 : Int32) * nI m + nI k = nI (299 * m + k) := by
  rw [show (299 : Int32) = nI 299 from rfl, pk_mul, nI_add]
theorem m_noteL {s P : Nat → Int32} {m : Nat} (hm : m < 4) : ∀ k c n, c + k = 299 → k < n → f_X9_note_51 n s (pN P s m c) (nI m) (nI c) = some (pN P s m 299, nI (m + 1)) := by
  intro k
  induction k with
  | zero =>
    intro c n hc hn
    obtain ⟨n, rfl⟩ : ∃ m, n = m + 1 := ⟨n - 1, by omega⟩
    have e : c = 299 := by omega
    subst e
    rw [f_X9_note_51, if_pos (by decide), nI_1]
  | succ k ih =>
    intro c n hc hn
    obtain ⟨n, rfl⟩ : ∃ m, n = m + 1 := ⟨n - 1, by omega⟩
    have e1 : upd (pN P s m c) (299 * m + c) (s c) = pN P s m (c + 1) := by
      funext j
      unfold upd pN
      by_cases q : j = 299 * m + c
      · rw [if_pos q, if_pos (by omega), show j - 299 * m = c by omega]
      · rw [if_neg q]
        by_cases q2 : 299 * m ≤ j ∧ j < 299 * m + c
        · rw [if_pos q2, if_pos (by omega)]
        · rw [if_neg q2, if_neg (by omega)]
    rw [f_X9_note_51, ix_h, show (299 : Int32) = nI 299 from rfl, if_le (by omega) (by omega), if_neg (by omega), ld_n (by omega) (by decide), sd_n (by omega) (by decide), nI_clamp (by omega), e1, nI_1]
    exact ih (c + 1) n (by omega) (by omega)
theorem m_note51 {s P : Nat → Int32} {m : Nat} (hm : m < 4) : f_X9_note_51 FU s P (nI m) 0 = some (pN P s m 299, nI (m + 1)) := by
  have h := m_noteL (s := s) (P := P) hm 299 0 FU rfl (FU_gt (by decide))
  rw [show pN P s m 0 = P from funext (fun j => by unfold pN; rw [if_neg (by omega)])] at h
  exact h
theorem m_shiftL {s P : Nat → Int32} : ∀ k c n, c + k = 897 → k < n → f_X9_note_10 n s (pS P c) (nI 4) (nI c) = f_X9_note_51 FU s (pS P 897) (nI 3) 0 := by
  intro k
  induction k with
  | zero =>
    intro c n hc hn
    obtain ⟨n, rfl⟩ : ∃ m, n = m + 1 := ⟨n - 1, by omega⟩
    have e : c = 897 := by omega
    subst e
    rw [f_X9_note_10, if_pos (by decide), show nI 4 - 1 = nI 3 from nI_pred 3]
  | succ k ih =>
    intro c n hc hn
    obtain ⟨n, rfl⟩ : ∃ m, n = m + 1 := ⟨n - 1, by omega⟩
    have e1 : upd (pS P c) c (pS P c (c + 299)) = pS P (c + 1) := by
      funext j
      unfold upd pS
      by_cases q : j = c
      · rw [if_pos q, if_neg (by omega), if_pos (by omega), q]
      · rw [if_neg q]
        by_cases q2 : j < c
        · rw [if_pos q2, if_pos (by omega)]
        · rw [if_neg q2, if_neg (by omega)]
    rw [f_X9_note_10, show (897 : Int32) = nI 897 from rfl, if_le (by omega) (by omega), if_neg (by omega), show nI c + (299 : Int32) = nI (c + 299) from nI_add c 299, ld_n (by omega) (by decide), sd_n (by omega) (by decide), nI_clamp (by omega), e1, nI_1]
    exact ih (c + 1) n (by omega) (by omega)
theorem m_noteA {s P : Nat → Int32} {m : Nat} (hm : m < 4) : f_X9_note s P (nI m) = some (pN P s m 299, nI (m + 1)) := by
  unfold f_X9_note
  rw [if_neg (fun z => by have := (nI_eq (a := m) (b := 4) (by omega) (by decide)).mp z; omega), m_note51 hm]
theorem m_noteB {s P : Nat → Int32} : f_X9_note s P (nI 4) = some (pN (pS P 897) s 3 299, nI 4) := by
  have h := m_shiftL (s := s) (P := P) 897 0 FU rfl (FU_gt (by decide))
  rw [show pS P 0 = P from funext (fun j => by unfold pS; rw [if_neg (by omega)])] at h
  unfold f_X9_note
  rw [if_pos (show nI 4 = 4 from rfl), show (0 : Int32) = nI 0 from rfl, h, m_note51 (by decide)]
theorem mod_up : ∀ x, x < 4 → nI x + (1 : Int32) - (nI x + (1 : Int32)) / (4 : Int32) * (4 : Int32) = nI ((x + 1) % 4) := by decide +kernel
theorem mod_dn : ∀ x, x < 4 → (nI x + (4 : Int32) - (1 : Int32)) - (nI x + (4 : Int32) - (1 : Int32)) / (4 : Int32) * (4 : Int32) = nI ((x + 3) % 4) := by decide +kernel
def mn (m : Nat) : Nat := if m < 4 then m + 1 else 4
theorem sat_up : ∀ m, m ≤ 4 → (if (4 : Int32) < nI m + (1 : Int32) then (4 : Int32) else nI m + (1 : Int32)) = nI (mn m) := by decide +kernel
theorem r_save {σ : Nat → Nat → Int32} {t : Nat → Int32} {h : Nat → Nat → Nat → Int32} {s P E : Nat → Int32} {n : Int32} (R : Rel σ t h s P E n) : ∃ t' h' P' n', f_X2_save σ t h = some (t', h') ∧ f_X9_note s P n = some (P', n') ∧ ∀ σ' s', Pr σ' s' → Rel σ' t' h' s' P' E n' := by
  obtain ⟨p0, ⟨c0, c1, c2⟩, m, x, hm, hx, e1, e2, e3, hP⟩ := R
  have hS : f_X2_save σ t h = some (upd (upd t 4 (nI ((x + 1) % 4))) 3 (nI (mn m)), va_up h x σ) := by
    unfold f_X2_save
    rw [e3, if_neg (nI_in hx (by decide)), nI_clamp (by omega), mod_up x hx]
    rw [show upd t 4 (nI ((x + 1) % 4)) 3 = nI m from e2, sat_up m hm]
  have hx' : (x + 1) % 4 < 4 := by omega
  rcases Nat.lt_or_ge m 4 with w | w
  · refine ⟨_, _, _, _, hS, by rw [e1]; exact m_noteA w, fun σ' s' h' => ⟨h', ⟨c0, c1, c2⟩, m + 1, (x + 1) % 4, by omega, hx', rfl, ?_, rfl, fun j hj => ?_⟩⟩
    · show nI (mn m) = _
      unfold mn
      rw [if_pos w]
    · by_cases c : j = m
      · subst c
        have ei : ((x + 1) % 4 + 4 - (j + 1) + j) % 4 = x := by omega
        rw [ei, show va_up h x σ x = σ from if_pos rfl]
        refine Pr_ext p0 (fun k hk => ?_)
        show pN P s j 299 (299 * j + k) = _
        unfold pN
        rw [if_pos (by omega), show 299 * j + k - 299 * j = k by omega]
      · have ei : ((x + 1) % 4 + 4 - (m + 1) + j) % 4 = (x + 4 - m + j) % 4 := by omega
        have en : ¬ (x + 4 - m + j) % 4 = x := by omega
        rw [ei, show va_up h x σ ((x + 4 - m + j) % 4) = h ((x + 4 - m + j) % 4) from if_neg en]
        refine Pr_ext (hP j (by omega)) (fun k hk => ?_)
        show pN P s m 299 (299 * j + k) = _
        unfold pN
        rw [if_neg (by omega)]
  · have e4 : m = 4 := by omega
    subst e4
    refine ⟨_, _, _, _, hS, by rw [e1]; exact m_noteB, fun σ' s' h' => ⟨h', ⟨c0, c1, c2⟩, 4, (x + 1) % 4, by omega, hx', rfl, rfl, rfl, fun j hj => ?_⟩⟩
    by_cases c : j = 3
    · subst c
      have ei : ((x + 1) % 4 + 4 - 4 + 3) % 4 = x := by omega
      rw [ei, show va_up h x σ x = σ from if_pos rfl]
      refine Pr_ext p0 (fun k hk => ?_)
      show pN (pS P 897) s 3 299 (299 * 3 + k) = _
      unfold pN
      rw [if_pos (by omega), show 299 * 3 + k - 299 * 3 = k by omega]
    · have ei : ((x + 1) % 4 + 4 - 4 + j) % 4 = (x + 4 - 4 + (j + 1)) % 4 := by omega
      have en : ¬ (x + 4 - 4 + (j + 1)) % 4 = x := by omega
      rw [ei, show va_up h x σ ((x + 4 - 4 + (j + 1)) % 4) = h ((x + 4 - 4 + (j + 1)) % 4) from if_neg en]
      refine Pr_ext (hP (j + 1) (by omega)) (fun k hk => ?_)
      show pN (pS P 897) s 3 299 (299 * j + k) = P (299 * (j + 1) + k)
      unfold pN pS
      rw [if_neg (by omega), if_pos (by omega), show 299 * j + k + 299 = 299 * (j + 1) + k by omega]
/-! the way back -/
def uS (s P : Nat → Int32) (m c q : Nat) : Int32 := if q < c then P (299 * m + q) else s q
theorem m_undoL {s P E : Nat → Int32} {m : Nat} (hm : m < 4) : ∀ k c n, c + k = 299 → k < n → f_X9_undo_26 n (uS s P m c) P E (nI m) (nI c) = some (nI m, uS s P m 299, E, nI m) := by
  intro k
  induction k with
  | zero =>
    intro c n hc hn
    obtain ⟨n, rfl⟩ : ∃ m, n = m + 1 := ⟨n - 1, by omega⟩
    have e : c = 299 := by omega
    subst e
    rw [f_X9_undo_26, if_pos (by decide)]
  | succ k ih =>
    intro c n hc hn
    obtain ⟨n, rfl⟩ : ∃ m, n = m + 1 := ⟨n - 1, by omega⟩
    have e1 : upd (uS s P m c) c (P (299 * m + c)) = uS s P m (c + 1) := by
      funext j
      unfold upd uS
      by_cases q : j = c
      · rw [if_pos q, if_pos (by omega), q]
      · rw [if_neg q]
        by_cases q2 : j < c
        · rw [if_pos q2, if_pos (by omega)]
        · rw [if_neg q2, if_neg (by omega)]
    rw [f_X9_undo_26, ix_h, show (299 : Int32) = nI 299 from rfl, if_le (by omega) (by omega), if_neg (by omega), ld_n (by omega) (by decide), sd_n (by omega) (by decide), nI_clamp (by omega), e1, nI_1]
    exact ih (c + 1) n (by omega) (by omega)
theorem k_fail2 (σ : Nat → Nat → Int32) (t : Nat → Int32) (h : Nat → Nat → Nat → Int32) : f_X8_fail σ t h (-2) = some (-2, upd t 0 (t 0 + 1)) := by
  unfold f_X8_fail
  rw [if_pos rfl]
theorem k_fail3 (σ : Nat → Nat → Int32) (t : Nat → Int32) (h : Nat → Nat → Nat → Int32) : f_X8_fail σ t h (-3) = some (-3, upd t 1 (t 1 + 1)) := by
  unfold f_X8_fail
  rw [if_neg (by decide), if_pos rfl]
theorem k_fail4 (σ : Nat → Nat → Int32) (t : Nat → Int32) (h : Nat → Nat → Nat → Int32) : f_X8_fail σ t h (-4) = some (-4, upd t 2 (t 2 + 1)) := by
  unfold f_X8_fail
  rw [if_neg (by decide), if_neg (by decide)]
theorem m_fail2 (E : Nat → Int32) : f_X9_fail E (-2) = some (-2, upd E 0 (E 0 + 1)) := by
  unfold f_X9_fail
  rw [show (-2 : Int32) - (-2) = nI 0 from by decide, ld_n (by decide) (by decide), sd_n (by decide) (by decide), nI_clamp (by decide)]
theorem m_fail3 (E : Nat → Int32) : f_X9_fail E (-3) = some (-3, upd E 1 (E 1 + 1)) := by
  unfold f_X9_fail
  rw [show (-2 : Int32) - (-3) = nI 1 from by decide, ld_n (by decide) (by decide), sd_n (by decide) (by decide), nI_clamp (by decide)]
theorem m_fail4 (E : Nat → Int32) : f_X9_fail E (-4) = some (-4, upd E 2 (E 2 + 1)) := by
  unfold f_X9_fail
  rw [show (-2 : Int32) - (-4) = nI 2 from by decide, ld_n (by decide) (by decide), sd_n (by decide) (by decide), nI_clamp (by decide)]
theorem r_fail2 {σ : Nat → Nat → Int32} {t : Nat → Int32} {h : Nat → Nat → Nat → Int32} {s P E : Nat → Int32} {n : Int32} (R : Rel σ t h s P E n) : Rel σ (upd t 0 (t 0 + 1)) h s P (upd E 0 (E 0 + 1)) n := by
  obtain ⟨p0, ⟨c0, c1, c2⟩, m, x, hm, hx, e1, e2, e3, hP⟩ := R
  exact ⟨p0, ⟨by rw [up_eq, up_eq, c0], c1, c2⟩, m, x, hm, hx, e1, e2, e3, hP⟩
theorem r_fail3 {σ : Nat → Nat → Int32} {t : Nat → Int32} {h : Nat → Nat → Nat → Int32} {s P E : Nat → Int32} {n : Int32} (R : Rel σ t h s P E n) : Rel σ (upd t 1 (t 1 + 1)) h s P (upd E 1 (E 1 + 1)) n := by
  obtain ⟨p0, ⟨c0, c1, c2⟩, m, x, hm, hx, e1, e2, e3, hP⟩ := R
  exact ⟨p0, ⟨c0, by rw [up_eq, up_eq, c1], c2⟩, m, x, hm, hx, e1, e2, e3, hP⟩
theorem r_fail4 {σ : Nat → Nat → Int32} {t : Nat → Int32} {h : Nat → Nat → Nat → Int32} {s P E : Nat → Int32} {n : Int32} (R : Rel σ t h s P E n) : Rel σ (upd t 2 (t 2 + 1)) h s P (upd E 2 (E 2 + 1)) n := by
  obtain ⟨p0, ⟨c0, c1, c2⟩, m, x, hm, hx, e1, e2, e3, hP⟩ := R
  exact ⟨p0, ⟨c0, c1, by rw [up_eq, up_eq, c2]⟩, m, x, hm, hx, e1, e2, e3, hP⟩
theorem s_undo : St_undo Rel := by
  intro σ t h s P E n R
  obtain ⟨p0, ⟨c0, c1, c2⟩, m, x, hm, hx, e1, e2, e3, hP⟩ := id R
  unfold f_X8_undo f_X9_undo
  rw [e2, e1]
  by_cases q : m = 0
  · rw [q, if_pos (show nI 0 = 0 from rfl), if_pos (show nI 0 = 0 from rfl), k_fail3, bd_s, m_fail3, bd_s]
    have R' := r_fail3 R
    rw [e1, q] at R'
    exact ⟨_, _, rfl, rfl, rfl, R'⟩
  · have hz : ¬ nI m = 0 := fun z => q ((nI_0i (by omega)).mp z)
    obtain ⟨m, rfl⟩ : ∃ d, m = d + 1 := ⟨m - 1, by omega⟩
    have hL := m_undoL (s := s) (P := P) (E := E) (m := m) (by omega) 299 0 FU rfl (FU_gt (by decide))
    rw [show uS s P m 0 = s from funext (fun j => by unfold uS; rw [if_neg (by omega)])] at hL
    have hC : f_X2_restoreInto σ t h = some (h ((x + 3) % 4), upd (upd t 4 (nI ((x + 3) % 4))) 3 (nI m)) := by
      unfold f_X2_restoreInto
      rw [e3, mod_dn x hx, if_neg (nI_in (by omega) (by decide)), nI_clamp (by omega), e2, if_neg hz]
      rw [show upd t 4 (nI ((x + 3) % 4)) 3 = nI (m + 1) from e2, nI_pred]
    rw [if_neg hz, if_neg hz, hC, bd_s, nI_pred, show (0 : Int32) = nI 0 from rfl, hL]
    refine ⟨_, _, rfl, rfl, rfl, ?_, ⟨c0, c1, c2⟩, m, (x + 3) % 4, by omega, by omega, rfl, rfl, rfl, fun j hj => ?_⟩
    · have hp := hP m (by omega)
      rw [show (x + 4 - (m + 1) + m) % 4 = (x + 3) % 4 by omega] at hp
      refine Pr_ext hp (fun k hk => ?_)
      show uS s P m 299 k = _
      unfold uS
      rw [if_pos hk]
    · have hp := hP j (by omega)
      rw [show (x + 4 - (m + 1) + j) % 4 = ((x + 3) % 4 + 4 - m + j) % 4 by omega] at hp
      exact hp
