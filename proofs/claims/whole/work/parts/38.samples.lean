/-! samples -/
theorem p_smp {σ τ : Nat → Nat → Int32} {s t : Nat → Int32} (h : Pr σ s) {M : Nat} (hM : M ≤ 32) (h0 : ∀ k, ¬ k = 10 → τ 0 k = σ 0 k) (h10 : τ 0 10 = nI M) (hq : ∀ q, ¬ q = 0 → ¬ q = 17 → τ q = σ q) (hm : ∀ k, k < M → τ 17 k = nI (sK τ k) ∧ sK τ k ≤ 9999) (ht : ∀ k, k < 267 → ¬ k = 18 → t k = s k) (t18 : t 18 = nI M) (tm : ∀ k, k < M → t (267 + k) = τ 17 k) : Pr τ t := by
  have I := h.1
  have E := h.2
  have hN := I.N.2
  have hR := I.R.2.2
  have hT := I.T.2
  have e1 : nN τ = nN σ := by unfold nN; rw [h0 6 (by decide)]
  have e2 : nU τ = nU σ := by unfold nU; rw [h0 7 (by decide)]
  have e3 : nR τ = nR σ := by unfold nR; rw [h0 8 (by decide)]
  have e4 : nT τ = nT σ := by unfold nT; rw [h0 9 (by decide)]
  have e5 : nM τ = M := by unfold nM; rw [h10, tn_n (by omega)]
  have e6 : nZ τ = nZ σ := by funext k; unfold nZ; rw [hq 7 (by decide) (by decide)]
  have e7 : nS τ = nS σ := by funext k; unfold nS; rw [hq 9 (by decide) (by decide)]
  have e8 : nV τ = nV σ := by funext k; unfold nV; rw [hq 10 (by decide) (by decide)]
  have e9 : iK τ = iK σ := by funext k; unfold iK; rw [hq 15 (by decide) (by decide)]
  have e10 : iZ τ = iZ σ := by funext k; unfold iZ; rw [hq 16 (by decide) (by decide)]
  have e11 : gI τ = gI σ := by unfold gI; rw [e4, hq 15 (by decide) (by decide), hq 16 (by decide) (by decide)]
  have hr : ∀ r, r < nR σ → IVr τ r := fun r hr => by
    unfold IVr
    rw [e1, e7, e8, hq 9 (by decide) (by decide), hq 10 (by decide) (by decide), hq 11 (by decide) (by decide), hq 12 (by decide) (by decide), hq 14 (by decide) (by decide)]
    exact I.r r hr
  have hI : ∀ k, k < nT σ → IVi τ k := fun k hk => by
    unfold IVi
    rw [hq 15 (by decide) (by decide), hq 16 (by decide) (by decide), e9, e10]
    exact I.i k hk
  refine ⟨?_, ?_⟩
  · unfold IV
    rw [h0 6 (by decide), h0 7 (by decide), h0 8 (by decide), h0 9 (by decide), h10, h0 5 (by decide), hq 7 (by decide) (by decide), e1, e2, e3, e4, e5, e6, e7, e9]
    exact ⟨I.N, I.U, I.Z, I.R, hr, I.S, I.T, hI, I.K, ⟨rfl, hM⟩, hm, I.P⟩
  · unfold EQ
    rw [hq 6 (by decide) (by decide), hq 7 (by decide) (by decide), hq 8 (by decide) (by decide), e1, e2, e3, e5, e11, h10, h0 11 (by decide), h0 6 (by decide), h0 8 (by decide), h0 9 (by decide)]
    refine ⟨fun k hk => by rw [ht k (by omega) (by omega), h0 k (by omega)]; exact E.st k hk, by rw [ht 6 (by decide) (by decide)]; exact E.ti, fun a h1 h2 => by rw [ht _ (by omega) (by omega)]; exact E.pf a h1 h2, by rw [ht 15 (by decide) (by decide)]; exact E.N, by rw [ht 16 (by decide) (by decide)]; exact E.T, by rw [ht 17 (by decide) (by decide)]; exact E.R, t18, fun k hk => by rw [ht _ (by omega) (by omega), ht _ (by omega) (by omega), ht _ (by omega) (by omega)]; exact E.n k hk, fun r hr w hw => by rw [ht _ (by omega) (by omega), hq _ (by omega) (by omega)]; exact E.r r hr w hw, tm, ?_⟩
    rw [mI_c (ht 16 (by decide) (by decide)) (fun k hk => ?_)]
    · exact E.i
    · rw [E.cT] at hk
      exact ⟨ht _ (by omega) (by omega), ht _ (by omega) (by omega)⟩
def smK (σ : Nat → Nat → Int32) (key : Int32) : Nat → Nat → Int32 := cu (cu σ 17 (nM σ) key) 0 10 (nI (nM σ + 1))
def smS (s : Nat → Int32) (M : Nat) (key : Int32) : Nat → Int32 := upd (upd s (267 + M) key) 18 (nI (M + 1))
theorem k_app30 {σ : Nat → Nat → Int32} (I : σ 0 10 = nI (nM σ)) (hM : nM σ < 32) (key : Int32) : f_X6_append_30 σ key = some (smK σ key) := by
  unfold f_X6_append_30
  rw [I, sd_n hM (by decide), nI_clamp (by omega)]
  have e : cu σ 17 (nM σ) key 0 10 = nI (nM σ) := I
  rw [e, nI_1]
  rfl
theorem p_app {σ : Nat → Nat → Int32} {s : Nat → Int32} (h : Pr σ s) {key : Nat} (hk : key ≤ 9999) (hM : nM σ < 32) : Pr (smK σ (nI key)) (smS s (nM σ) (nI key)) := by
  refine p_smp h (M := nM σ + 1) (by omega) (fun k hk => ?_) rfl (fun q h0 h1 => ?_) (fun k hk => ?_) (fun k h1 h2 => ?_) up_eq (fun k hk => ?_)
  · show upd (σ 0) 10 _ k = _
    exact up_ne hk
  · unfold smK
    rw [cu_ne h0, cu_ne h1]
  · show upd (σ 17) (nM σ) (nI key) k = nI (tn (upd (σ 17) (nM σ) (nI key) k)) ∧ tn (upd (σ 17) (nM σ) (nI key) k) ≤ 9999
    by_cases c : k = nM σ
    · rw [c, up_eq, tn_n (by omega)]
      exact ⟨rfl, by omega⟩
    · rw [up_ne c]
      exact h.1.m k (by omega)
  · unfold smS
    rw [up_ne h2, up_ne (by omega)]
  · show _ = upd (σ 17) (nM σ) (nI key) k
    unfold smS
    rw [up_ne (by omega)]
    by_cases c : k = nM σ
    · rw [c, up_eq, up_eq]
    · rw [up_ne (by omega), up_ne c]
      exact h.2.m k (by omega)
/-- the oldest sample dropped -/
def dsK (σ : Nat → Nat → Int32) : Nat → Nat → Int32 := cu (cr σ 17 (va_cpy (σ 17) (σ 17) 1 0 31)) 0 10 (nI 31)
def smv (s : Nat → Int32) (c k : Nat) : Int32 := if 267 ≤ k ∧ k < c then s (k + 1) else s k
def dsS (s : Nat → Int32) : Nat → Int32 := upd (smv s 298) 18 (nI 31)
theorem p_drop {σ : Nat → Nat → Int32} {s : Nat → Int32} (h : Pr σ s) (hM : nM σ = 32) : Pr (dsK σ) (dsS s) := by
  have e17 : ∀ k, k < 31 → dsK σ 17 k = σ 17 (k + 1) := fun k hk => by
    show va_cpy (σ 17) (σ 17) 1 0 31 k = _
    unfold va_cpy
    rw [if_pos (by omega), show 1 + (k - 0) = k + 1 by omega]
  refine p_smp h (M := 31) (by omega) (fun k hk => ?_) rfl (fun q h0 h1 => ?_) (fun k hk => ?_) (fun k h1 h2 => ?_) up_eq (fun k hk => ?_)
  · show upd (σ 0) 10 _ k = _
    exact up_ne hk
  · unfold dsK
    rw [cu_ne h0]
    unfold cr
    have b1 : Nat.beq q 17 = false := by
      cases e : Nat.beq q 17 with
      | false => rfl
      | true => exact absurd (Nat.eq_of_beq_eq_true e) h1
    rw [b1]
    rfl
  · unfold sK
    rw [e17 k hk]
    exact h.1.m (k + 1) (by omega)
  · unfold dsS
    rw [up_ne h2]
    unfold smv
    rw [if_neg (by omega)]
  · rw [e17 k hk]
    unfold dsS
    rw [up_ne (by omega)]
    unfold smv
    rw [if_pos (by omega)]
    exact h.2.m (k + 1) (by omega)
theorem m_acc74 {τ : Nat → Nat → Int32} {s : Nat → Int32} {M key r : Nat} {P E' : Nat → Int32} {n0 : Int32} (hs : s 18 = nI M) (hM : M < 32) (h : Pr τ (smS s M (nI key))) (hk : key ≤ 9999) (hr : inR τ key r) : f_X9_access_74 s P E' n0 (nI key) = some (τ 11 r, smS s M (nI key), P, E', n0) := by
  have e18 : upd s (267 + M) (nI key) 18 = nI M := by rw [up_ne (by omega), hs]
  have hL := m_rangeAt h.1 h.2 hk hr
  have hO := m_of2 h.1 h.2 hr.1
  unfold f_X9_access_74
  rw [show (18 : Int32) = nI 18 from rfl, ld_n (by decide) (by decide), hs, ix_s, sd_n (by omega) (by decide), nI_clamp (by omega), ld_n (by decide) (by decide), sd_n (by decide) (by decide), e18, nI_1, nI_clamp (by decide)]
  unfold smS at hL hO ⊢
  rw [hL, bd_s, hO, bd_s]
theorem m_smvL {σ : Nat → Nat → Int32} {s : Nat → Int32} (E : EQ σ s) (hM : s 18 = nI 32) {P E' : Nat → Int32} {n0 x : Int32} : ∀ k c n, c + k = 298 → 267 ≤ c → k < n → f_X9_access_34 n (smv s c) P E' n0 x (nI c) = f_X9_access_74 (dsS s) P E' n0 x := by
  intro k
  induction k with
  | zero =>
    intro c n hc hc2 hn
    obtain ⟨n, rfl⟩ : ∃ m, n = m + 1 := ⟨n - 1, by omega⟩
    have e : c = 298 := by omega
    subst e
    have e18 : smv s 298 18 = nI 32 := by
      unfold smv
      rw [if_neg (by omega), hM]
    rw [f_X9_access_34, if_pos (by decide), show (18 : Int32) = nI 18 from rfl, ld_n (by decide) (by decide), sd_n (by decide) (by decide), e18, nI_clamp (by decide), show nI 32 - 1 = nI 31 from nI_pred 31]
    rfl
  | succ k ih =>
    intro c n hc hc2 hn
    obtain ⟨n, rfl⟩ : ∃ m, n = m + 1 := ⟨n - 1, by omega⟩
    have e1 : upd (smv s c) c (smv s c (c + 1)) = smv s (c + 1) := by
      funext j
      unfold upd smv
      by_cases q : j = c
      · subst q
        rw [if_pos rfl, if_neg (by omega), if_pos (by omega)]
      · rw [if_neg q]
        by_cases q2 : 267 ≤ j ∧ j < c
        · rw [if_pos q2, if_pos (by omega)]
        · rw [if_neg q2, if_neg (by omega)]
    rw [f_X9_access_34, nI_1, show (299 : Int32) = nI 299 from rfl, if_le (by omega) (by omega), if_neg (by omega), ld_n (by omega) (by decide), sd_n (by omega) (by decide), nI_clamp (by omega), e1]
    exact ih (c + 1) n (by omega) (by omega) (by omega)
theorem i_access {σ : Nat → Nat → Int32} {s : Nat → Int32} (h : Pr σ s) {P E' : Nat → Int32} {n0 : Int32} {key : Nat} (hk : key ≤ 9999) : ∃ τ t r, f_X6_append σ (nI key) = some τ ∧ f_X5_holding τ (nI key) = some (nI r) ∧ r < 16 ∧ (ld s 299 (18 : Int32) fun v6 => (if v6 = (32 : Int32) then (f_X9_access_34 FU s P E' n0 (nI key) (267 : Int32)) else (f_X9_access_74 s P E' n0 (nI key)))) = some (τ 11 r, t, P, E', n0) ∧ Pr τ t := by
  have I := h.1
  have E := h.2
  have hM := I.M.2
  rw [ld_M I E, show (32 : Int32) = nI 32 from rfl, if_eq (by omega) (by omega)]
  unfold f_X6_append
  rw [show (32 : Int32) = nI 32 from rfl, I.M.1, if_lt (by omega) (by omega)]
  by_cases q : nM σ < 32
  · have h1 := p_app h hk q
    obtain ⟨r, r1, r2⟩ := k_hold h1.1 hk
    have hR := h1.1.R.2.2
    rw [if_pos q, if_neg (by omega), k_app30 I.M.1 q]
    exact ⟨_, _, r, rfl, r2, by have := r1.1; omega, m_acc74 (by rw [E.M, I.M.1]) q h1 hk r1, h1⟩
  · have h32 : nM σ = 32 := by omega
    have h0 := p_drop h h32
    have eM : nM (dsK σ) = 31 := tn_n (by decide)
    have h1 := p_app h0 hk (by omega)
    obtain ⟨r, r1, r2⟩ := k_hold h1.1 hk
    have hR := h1.1.R.2.2
    have hA := k_app30 (σ := dsK σ) h0.1.M.1 (by omega) (nI key)
    have hL := m_smvL E (show s 18 = nI 32 by rw [E.M, I.M.1, h32]) (P := P) (E' := E') (n0 := n0) (x := nI key) 31 267 FU (by decide) (by decide) (FU_gt (by decide))
    rw [show smv s 267 = s from funext (fun j => by unfold smv; rw [if_neg (by omega)])] at hL
    rw [if_neg q, if_pos h32, show (267 : Int32) = nI 267 from rfl, hL]
    refine ⟨_, _, r, hA, r2, by have := r1.1; omega, m_acc74 (M := nM (dsK σ)) (by rw [eM]; exact up_eq) (by omega) h1 hk r1, h1⟩
