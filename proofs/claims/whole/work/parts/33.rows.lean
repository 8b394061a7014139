/-! ranges moved: one divided in two, two made one -/
def rm (σ : Nat → Nat → Int32) (f : Nat → Nat) : Nat → Nat → Int32 := fun q => match q with
  | 9 => fun j => σ 9 (f j)
  | 10 => fun j => σ 10 (f j)
  | 11 => fun j => σ 11 (f j)
  | 12 => fun j => σ 12 (f j)
  | 13 => fun j => σ 13 (f j)
  | 14 => fun j => σ 14 (f j)
  | q => σ q
theorem rm_in (σ : Nat → Nat → Int32) (f : Nat → Nat) {w : Nat} (h : w < 6) (j : Nat) : rm σ f (9 + w) j = σ (9 + w) (f j) := by
  have : w = 0 ∨ w = 1 ∨ w = 2 ∨ w = 3 ∨ w = 4 ∨ w = 5 := by omega
  rcases this with rfl | rfl | rfl | rfl | rfl | rfl <;> rfl
theorem rm_out (σ : Nat → Nat → Int32) (f : Nat → Nat) {q : Nat} (h : ¬ (9 ≤ q ∧ q ≤ 14)) : rm σ f q = σ q := by
  unfold rm
  split <;> first | rfl | omega
theorem rm_ext {σ τ : Nat → Nat → Int32} {f : Nat → Nat} (h1 : ∀ w, w < 6 → ∀ j, τ (9 + w) j = σ (9 + w) (f j)) (h2 : ∀ q, ¬ (9 ≤ q ∧ q ≤ 14) → τ q = σ q) : τ = rm σ f := by
  funext q
  by_cases h : 9 ≤ q ∧ q ≤ 14
  · obtain ⟨w, rfl⟩ : ∃ w, q = 9 + w := ⟨q - 9, by omega⟩
    funext j
    rw [h1 w (by omega), rm_in σ f (by omega)]
  · rw [h2 q h, rm_out σ f h]
theorem rm_rm (σ : Nat → Nat → Int32) (f g : Nat → Nat) : rm (rm σ f) g = rm σ (fun j => f (g j)) :=
  rm_ext (fun w hw j => by rw [rm_in _ _ hw, rm_in _ _ hw]) (fun q hq => by rw [rm_out _ _ hq, rm_out _ _ hq])
theorem rm_id (σ : Nat → Nat → Int32) {f : Nat → Nat} (h : ∀ j, f j = j) : rm σ f = σ :=
  (rm_ext (fun w hw j => by rw [h j]) (fun q hq => rfl)).symm
theorem rm_f (σ : Nat → Nat → Int32) {f g : Nat → Nat} (h : ∀ j, f j = g j) : rm σ f = rm σ g := by
  rw [show f = g from funext h]
theorem k_copy (σ : Nat → Nat → Int32) {a b : Nat} (ha : a < 16) (hb : b < 16) : f_X5_copyWithin σ (nI a) (nI b) = some (rm σ (fun j => if j = b then a else j)) := by
  unfold f_X5_copyWithin
  rw [nI_clamp (by omega), ld_n ha (by decide), sd_n hb (by decide), ld_n ha (by decide), sd_n hb (by decide), ld_n ha (by decide), sd_n hb (by decide), ld_n ha (by decide), sd_n hb (by decide), ld_n ha (by decide), sd_n hb (by decide), ld_n ha (by decide), sd_n hb (by decide)]
  congr 1
  refine rm_ext (fun w hw j => ?_) (fun q hq => ?_)
  · have : w = 0 ∨ w = 1 ∨ w = 2 ∨ w = 3 ∨ w = 4 ∨ w = 5 := by omega
    rcases this with rfl | rfl | rfl | rfl | rfl | rfl
    · show upd (σ 9) b (σ 9 a) j = _
      unfold upd
      split <;> rfl
    · show upd (σ 10) b (σ 10 a) j = _
      unfold upd
      split <;> rfl
    · show upd (σ 11) b (σ 11 a) j = _
      unfold upd
      split <;> rfl
    · show upd (σ 12) b (σ 12 a) j = _
      unfold upd
      split <;> rfl
    · show upd (σ 13) b (σ 13 a) j = _
      unfold upd
      split <;> rfl
    · show upd (σ 14) b (σ 14 a) j = _
      unfold upd
      split <;> rfl
  · rw [cu_ne (by omega), cu_ne (by omega), cu_ne (by omega), cu_ne (by omega), cu_ne (by omega), cu_ne (by omega)]
def shf (c N j : Nat) : Nat := if c ≤ j ∧ j ≤ N then j - 1 else j
def dvk (σ : Nat → Nat → Int32) (r : Nat) (key : Int32) : Nat → Nat → Int32 := cu (cu (rm σ (shf (r + 1) (nR σ))) 9 (r + 1) key) 0 8 (nI (nR σ + 1))
theorem k_divL {σ : Nat → Nat → Int32} (I : IV σ) {r : Nat} (h : r < nR σ) (hF : nR σ < 16) (key : Int32) : ∀ k c n, r + 1 + k = c → c ≤ nR σ → k < n → f_X5_divide_13 n (rm σ (shf (c + 1) (nR σ))) (nI r) key (nI c) = some (dvk σ r key) := by
  intro k
  induction k with
  | zero =>
    intro c n hc hcN hn
    obtain ⟨n, rfl⟩ : ∃ m, n = m + 1 := ⟨n - 1, by omega⟩
    have e : c = r + 1 := by omega
    subst e
    rw [f_X5_divide_13, nI_1, if_pos (nI_le (Nat.le_refl _) (by omega)), k_copy _ (by omega) (by omega), bd_s, sd_n (by omega) (by decide), nI_clamp (by omega), rm_rm]
    have e1 : rm σ (fun j => shf (r + 1 + 1) (nR σ) (if j = r + 1 then r else j)) = rm σ (shf (r + 1) (nR σ)) := rm_f σ (fun j => by
      unfold shf
      split <;> split <;> split <;> omega)
    rw [e1]
    have e2 : cu (rm σ (shf (r + 1) (nR σ))) 9 (r + 1) key 0 8 = nI (nR σ) := I.R.1
    rw [e2, nI_1]
    rfl
  | succ k ih =>
    intro c n hc hcN hn
    obtain ⟨n, rfl⟩ : ∃ m, n = m + 1 := ⟨n - 1, by omega⟩
    obtain ⟨c, rfl⟩ : ∃ d, c = d + 1 := ⟨c - 1, by omega⟩
    rw [f_X5_divide_13, nI_1, if_le (by omega) (by omega), if_neg (by omega), nI_pred, pk_m1, k_copy _ (by omega) (by omega), bd_s, rm_rm]
    have e1 : rm σ (fun j => shf (c + 1 + 1) (nR σ) (if j = c + 1 then c else j)) = rm σ (shf (c + 1) (nR σ)) := rm_f σ (fun j => by
      unfold shf
      split <;> split <;> split <;> omega)
    rw [e1]
    exact ih c n (by omega) (by omega) (by omega)
theorem k_divide {σ : Nat → Nat → Int32} (I : IV σ) {r : Nat} (h : r < nR σ) (hF : nR σ < 16) (key : Int32) : f_X5_divide σ (nI r) key = some (dvk σ r key) := by
  unfold f_X5_divide
  rw [k_isFull I, bd_s, bi_if, show decide (nR σ = 16) = false by simp; omega, cond_false, I.R.1]
  have h1 := k_divL I h hF key (nR σ - (r + 1)) (nR σ) FU (by omega) (Nat.le_refl _) (FU_gt (by omega))
  rw [rm_id σ (fun j => by unfold shf; rw [if_neg (by omega)])] at h1
  exact h1
def mv (s : Nat → Int32) (c N k : Nat) : Int32 := if c + 6 ≤ k ∧ k < 177 + 6 * N then s (k - 6) else s k
def dvs (s : Nat → Int32) (r N : Nat) (key : Int32) : Nat → Int32 := upd (upd (mv s (171 + 6 * r) N) 17 (nI (N + 1))) (171 + 6 * (r + 1) + 0) key
theorem m_divL {σ : Nat → Nat → Int32} {s : Nat → Int32} (I : IV σ) (E : EQ σ s) {r : Nat} (h : r < nR σ) (hF : nR σ < 16) (key : Int32) : ∀ k c n, 171 + 6 * r + k = c → c ≤ 171 + 6 * nR σ → k < n → f_X9_split_17 n (mv s c (nR σ)) (nI r) key (dn c) = some (dvs s r (nR σ) key) := by
  intro k
  induction k with
  | zero =>
    intro c n hc hcN hn
    obtain ⟨n, rfl⟩ : ∃ m, n = m + 1 := ⟨n - 1, by omega⟩
    obtain ⟨c, rfl⟩ : ∃ d, c = d + 1 := ⟨c - 1, by omega⟩
    have e17 : mv s (c + 1) (nR σ) 17 = nI (nR σ) := by
      unfold mv
      rw [if_neg (by omega), E.R, I.R.1]
    have ex : (171 : Int32) + (6 : Int32) * nI r = nI (171 + 6 * r) := by have := ix_r r 0; rw [show nI 0 = (0 : Int32) from rfl, Int32.add_zero] at this; exact this
    rw [f_X9_split_17, dn, ex, if_lt (by omega) (by omega), if_pos (by omega), show (17 : Int32) = nI 17 from rfl, ld_n (by decide) (by decide), sd_n (by decide) (by decide), e17, nI_1, nI_1, nI_clamp (by decide), m_set0 (by omega), bd_s]
    unfold dvs
    rw [show c + 1 = 171 + 6 * r by omega]
  | succ k ih =>
    intro c n hc hcN hn
    obtain ⟨n, rfl⟩ : ∃ m, n = m + 1 := ⟨n - 1, by omega⟩
    obtain ⟨c, rfl⟩ : ∃ d, c = d + 1 := ⟨c - 1, by omega⟩
    have ex : (171 : Int32) + (6 : Int32) * nI r = nI (171 + 6 * r) := by have := ix_r r 0; rw [show nI 0 = (0 : Int32) from rfl, Int32.add_zero] at this; exact this
    have e1 : upd (mv s (c + 1) (nR σ)) (c + 6) (mv s (c + 1) (nR σ) c) = mv s c (nR σ) := by
      funext j
      unfold upd mv
      by_cases q : j = c + 6
      · subst q
        rw [if_pos rfl, if_neg (by omega), if_pos (by omega), show c + 6 - 6 = c by omega]
      · rw [if_neg q]
        by_cases q2 : c + 1 + 6 ≤ j ∧ j < 177 + 6 * nR σ
        · rw [if_pos q2, if_pos (by omega)]
        · rw [if_neg q2, if_neg (by omega)]
    rw [f_X9_split_17, dn, ex, if_lt (by omega) (by omega), if_neg (by omega), ld_n (by omega) (by decide), show (6 : Int32) = nI 6 from rfl, nI_add, sd_n (by omega) (by decide), nI_clamp (by omega), dn_pred, e1]
    exact ih c n (by omega) (by omega) (by omega)
theorem m_divide {σ : Nat → Nat → Int32} {s : Nat → Int32} (I : IV σ) (E : EQ σ s) {r : Nat} (h : r < nR σ) (hF : nR σ < 16) (key : Int32) : f_X9_split s (nI r) key = some (dvs s r (nR σ) key) := by
  unfold f_X9_split
  have ex : (171 : Int32) + (6 : Int32) * nI (nR σ) = nI (171 + 6 * nR σ) := by have := ix_r (nR σ) 0; rw [show nI 0 = (0 : Int32) from rfl, Int32.add_zero] at this; exact this
  have h1 := m_divL I E h hF key (6 * (nR σ - r)) (171 + 6 * nR σ) FU (by omega) (Nat.le_refl _) (FU_gt (by omega))
  rw [show mv s (171 + 6 * nR σ) (nR σ) = s from funext (fun j => by unfold mv; rw [if_neg (by omega)])] at h1
  rw [ld_R I E, ex, dn_sub]
  exact h1
/-! IV and EQ after such a move -/
theorem IVr_at {σ τ : Nat → Nat → Int32} {i j : Nat} (h : IVr σ i) (h6 : τ 0 6 = σ 0 6) (h10 : τ 10 j = σ 10 i) (h11 : τ 11 j = σ 11 i) (h12 : τ 12 j = σ 12 i) (h14 : τ 14 j = σ 14 i) (h9 : τ 9 j = nI (nS τ j) ∧ nS τ j ≤ 9999) : IVr τ j := by
  obtain ⟨-, b, c, d, e⟩ := h
  have eN : nN τ = nN σ := by unfold nN; rw [h6]
  unfold IVr
  have eV : nV τ j = nV σ i := by unfold nV; rw [h10]
  rw [eN, eV, h10, h11, h12, h14]
  exact ⟨h9, b, c, d, e⟩
theorem IV_rows {σ τ : Nat → Nat → Int32} (I : IV σ) {N : Nat} (h0 : ∀ k, ¬ k = 8 → τ 0 k = σ 0 k) (h8 : τ 0 8 = nI N) (hN1 : 1 ≤ N) (hN2 : N ≤ 16) (h7 : τ 7 = σ 7) (h15 : τ 15 = σ 15) (h16 : τ 16 = σ 16) (h17 : τ 17 = σ 17) (hr : ∀ r, r < N → IVr τ r) (hS0 : nS τ 0 = 0) (hS : ∀ r, r + 1 < N → nS τ r < nS τ (r + 1)) : IV τ := by
  have e1 : nN τ = nN σ := by unfold nN; rw [h0 6 (by decide)]
  have e2 : nU τ = nU σ := by unfold nU; rw [h0 7 (by decide)]
  have e3 : nR τ = N := by unfold nR; rw [h8, tn_n (by omega)]
  have e4 : nT τ = nT σ := by unfold nT; rw [h0 9 (by decide)]
  have e5 : nM τ = nM σ := by unfold nM; rw [h0 10 (by decide)]
  have e6 : nZ τ = nZ σ := by funext k; unfold nZ; rw [h7]
  have e8 : iK τ = iK σ := by funext k; unfold iK; rw [h15]
  have e9 : iZ τ = iZ σ := by funext k; unfold iZ; rw [h16]
  have e10 : sK τ = sK σ := by funext k; unfold sK; rw [h17]
  have hI : ∀ k, k < nT σ → IVi τ k := fun k hk => by
    unfold IVi
    rw [h15, h16, e8, e9]
    exact I.i k hk
  unfold IV
  rw [h0 6 (by decide), h0 7 (by decide), h8, h0 9 (by decide), h0 10 (by decide), h0 5 (by decide), h7, h17, e1, e2, e3, e4, e5, e6, e8, e10]
  exact ⟨I.N, I.U, I.Z, ⟨rfl, hN1, hN2⟩, hr, ⟨hS0, hS⟩, I.T, hI, I.K, I.M, I.m, I.P⟩
theorem EQ_rows {σ τ : Nat → Nat → Int32} {s t : Nat → Int32} (I : IV σ) (E : EQ σ s) {N : Nat} (h0 : ∀ k, ¬ k = 8 → τ 0 k = σ 0 k) (h8 : τ 0 8 = nI N) (hN2 : N ≤ 16) (h6 : τ 6 = σ 6) (h7 : τ 7 = σ 7) (h78 : τ 8 = σ 8) (h15 : τ 15 = σ 15) (h16 : τ 16 = σ 16) (h17 : τ 17 = σ 17) (t0 : ∀ k, k < 171 → ¬ k = 17 → t k = s k) (t17 : t 17 = nI N) (tm : ∀ k, 267 ≤ k → t k = s k) (hr : ∀ r, r < N → ∀ w, w < 6 → t (171 + 6 * r + w) = τ (9 + w) r) : EQ τ t := by
  have hN := I.N.2
  have hM := I.M.2
  have hT := I.T.2
  have e1 : nN τ = nN σ := by unfold nN; rw [h0 6 (by decide)]
  have e2 : nU τ = nU σ := by unfold nU; rw [h0 7 (by decide)]
  have e3 : nR τ = N := by unfold nR; rw [h8, tn_n (by omega)]
  have e4 : gI τ = gI σ := by unfold gI nT; rw [h0 9 (by decide), h15, h16]
  have e5 : nM τ = nM σ := by unfold nM; rw [h0 10 (by decide)]
  unfold EQ
  rw [h6, h7, h78, h17, e1, e2, e3, e4, e5, h8, h0 11 (by decide), h0 6 (by decide), h0 9 (by decide), h0 10 (by decide)]
  refine ⟨fun k hk => by rw [t0 k (by omega) (by omega), h0 k (by omega)]; exact E.st k hk, by rw [t0 6 (by decide) (by decide)]; exact E.ti, fun a h1 h2 => by rw [t0 _ (by omega) (by omega)]; exact E.pf a h1 h2, by rw [t0 15 (by decide) (by decide)]; exact E.N, by rw [t0 16 (by decide) (by decide)]; exact E.T, t17, by rw [t0 18 (by decide) (by decide)]; exact E.M, fun k hk => by rw [t0 _ (by omega) (by omega), t0 _ (by omega) (by omega), t0 _ (by omega) (by omega)]; exact E.n k hk, hr, fun k hk => by rw [tm _ (by omega)]; exact E.m k hk, ?_⟩
  rw [mI_c (t0 16 (by decide) (by decide)) (fun k hk => ?_)]
  · exact E.i
  · rw [E.cT] at hk
    exact ⟨t0 _ (by omega) (by omega), t0 _ (by omega) (by omega)⟩
