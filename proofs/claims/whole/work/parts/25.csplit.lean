/-! split keys: what they are, whoever computes them -/
def SKa (Ks : Nat → Prop) (bel : Nat → Nat) (tot : Nat) (v : Int32) : Prop :=
  (v = -1 ∧ ∀ x y, Ks x → Ks y → x = y) ∨ ∃ x, Ks x ∧ v = nI x ∧ (∃ y, Ks y ∧ y < x) ∧ (tot ≤ 2 * bel x ∨ ∀ y, Ks y → y ≤ x) ∧ (∀ y, Ks y → (∃ z, Ks z ∧ z < y) → tot ≤ 2 * bel y → x ≤ y)
theorem SKa_one {Ks : Nat → Prop} {bel : Nat → Nat} {tot : Nat} {v w : Int32} (hv : SKa Ks bel tot v) (hw : SKa Ks bel tot w) : v = w := by
  rcases hv with ⟨rfl, hv⟩ | ⟨x, x1, rfl, ⟨y, x2, x3⟩, x4, x5⟩
  · rcases hw with ⟨rfl, hw⟩ | ⟨x, x1, rfl, ⟨y, x2, x3⟩, x4, x5⟩
    · rfl
    · have := hv x y x1 x2
      omega
  · rcases hw with ⟨rfl, hw⟩ | ⟨u, u1, rfl, ⟨z, u2, u3⟩, u4, u5⟩
    · have := hw x y x1 x2
      omega
    · have e : x = u := by
        rcases Nat.lt_trichotomy x u with q | q | q
        · rcases x4 with g | g
          · have := u5 x x1 ⟨y, x2, x3⟩ g
            omega
          · have := g u u1
            omega
        · exact q
        · rcases u4 with g | g
          · have := x5 u u1 ⟨z, u2, u3⟩ g
            omega
          · have := g x x1
            omega
      rw [e]
theorem SKa_cong {Ks Ks' : Nat → Prop} {bel bel' : Nat → Nat} {tot tot' : Nat} {v : Int32} (h1 : ∀ x, Ks x ↔ Ks' x) (h2 : ∀ x, Ks x → bel x = bel' x) (h3 : tot = tot') (h : SKa Ks bel tot v) : SKa Ks' bel' tot' v := by
  subst h3
  rcases h with ⟨rfl, hv⟩ | ⟨x, x1, rfl, ⟨y, x2, x3⟩, x4, x5⟩
  · exact Or.inl ⟨rfl, fun x y hx hy => hv x y ((h1 x).mpr hx) ((h1 y).mpr hy)⟩
  · refine Or.inr ⟨x, (h1 x).mp x1, rfl, ⟨y, (h1 y).mp x2, x3⟩, ?_, fun u hu ⟨z, z1, z2⟩ hq => ?_⟩
    · rcases x4 with q | q
      · exact Or.inl (by rw [← h2 x x1]; exact q)
      · exact Or.inr (fun y hy => q y ((h1 y).mpr hy))
    · have hu' := (h1 u).mpr hu
      exact x5 u hu' ⟨z, (h1 z).mpr z1, z2⟩ (by rw [h2 u hu']; exact hq)
/-! the items' split key -/
def KsI (σ : Nat → Nat → Int32) (a b : Nat) : Nat → Prop := fun x => (a ≤ x ∧ x < b) ∧ ∃ i, i < nT σ ∧ iK σ i = x
theorem sm_zero {f : Nat → Nat} {i : Nat} : ∀ {n : Nat}, i ≤ n → (∀ j, i ≤ j → j < n → f j = 0) → sm f n = sm f i
  | 0, h, _ => by
    have : i = 0 := by omega
    subst this
    rfl
  | n + 1, h, h0 => by
    rcases Nat.lt_or_ge i (n + 1) with q | q
    · rw [sm_s, h0 n (by omega) (by omega)]
      exact sm_zero (by omega) (fun j h1 h2 => h0 j h1 (by omega))
    · have : i = n + 1 := by omega
      subst this
      rfl
theorem sB_upto {σ : Nat → Nat → Int32} (I : IV σ) {a i : Nat} (hi : i < nT σ) : sB σ a (iK σ i) = sm (fun j => if a ≤ iK σ j then iZ σ j else 0) i := by
  unfold sB
  rw [sm_zero (i := i) (by omega) (fun j h1 h2 => ?_)]
  · refine sm_cong (fun j hj => ?_)
    have := iK_mono I hj hi
    by_cases q : a ≤ iK σ j <;> simp [q, this]
  · rcases Nat.lt_or_ge i j with q | q
    · have := iK_mono I q h2
      rw [if_neg (by omega)]
    · have : j = i := by omega
      subst this
      rw [if_neg (by omega)]
theorem k_skL {σ : Nat → Nat → Int32} (I : IV σ) {a b p : Nat} (ha : a ≤ 10000) (hb : b ≤ 10000) (hp : plc σ a p) : ∀ k i n, i + k = nT σ → k < n → p ≤ i → (∀ j, p ≤ j → j < i → iK σ j < b) → (∀ j, p < j → j < i → 2 * sB σ a (iK σ j) < sB σ a b) → ∀ g, g = (if i ≤ p + 1 then (-1 : Int32) else nI (iK σ (i - 1))) → ∃ v, SKa (KsI σ a b) (fun x => sB σ a x) (sB σ a b) v ∧ f_X3_splitKeyBetween_24 n σ (nI b) (nI (sB σ a b)) (nI p) (nI (sm (fun j => if a ≤ iK σ j then iZ σ j else 0) i)) g (nI i) = some v := by
  obtain ⟨hT, hT2⟩ := I.T
  obtain ⟨p1, p2, p3⟩ := hp
  have hsb := sB_le I a b
  -- what is returned where the keys of the range end
  have fin : ∀ i, p ≤ i → i ≤ nT σ → (∀ j, p ≤ j → j < i → iK σ j < b) → (∀ j, p < j → j < i → 2 * sB σ a (iK σ j) < sB σ a b) → (∀ j, i ≤ j → j < nT σ → b ≤ iK σ j) → ∀ g, g = (if i ≤ p + 1 then (-1 : Int32) else nI (iK σ (i - 1))) → SKa (KsI σ a b) (fun x => sB σ a x) (sB σ a b) g := by
    intro i hpi hiT h1 h2 h3 g hg
    have mem : ∀ x, KsI σ a b x → ∃ j, p ≤ j ∧ j < i ∧ iK σ j = x := by
      rintro x ⟨⟨q1, q2⟩, j, q3, q4⟩
      refine ⟨j, ?_, ?_, q4⟩
      · rcases Nat.lt_or_ge j p with z | z
        · have := p2 j z
          omega
        · exact z
      · rcases Nat.lt_or_ge j i with z | z
        · exact z
        · have := h3 j z q3
          omega
    by_cases q : i ≤ p + 1
    · rw [if_pos q] at hg
      refine Or.inl ⟨hg, fun x y hx hy => ?_⟩
      obtain ⟨j, j1, j2, j3⟩ := mem x hx
      obtain ⟨l, l1, l2, l3⟩ := mem y hy
      have : j = l := by omega
      rw [← j3, ← l3, this]
    · rw [if_neg q] at hg
      have hk1 := p3 (i - 1) (by omega) (by omega)
      have hkp := p3 p (Nat.le_refl _) (by omega)
      have hb1 := h1 (i - 1) (by omega) (by omega)
      have hbp := h1 p (Nat.le_refl _) (by omega)
      have hlt := iK_mono I (a := p) (b := i - 1) (by omega) (by omega)
      refine Or.inr ⟨iK σ (i - 1), ⟨⟨hk1, hb1⟩, i - 1, by omega, rfl⟩, hg, ⟨iK σ p, ⟨⟨hkp, hbp⟩, p, by omega, rfl⟩, hlt⟩, Or.inr (fun y hy => ?_), fun y hy ⟨z, hz1, hz2⟩ hq => ?_⟩
      · obtain ⟨j, j1, j2, j3⟩ := mem y hy
        rcases Nat.lt_or_ge j (i - 1) with w | w
        · have := iK_mono I w (by omega)
          omega
        · have : j = i - 1 := by omega
          rw [← j3, this]
          exact Nat.le_refl _
      · obtain ⟨j, j1, j2, j3⟩ := mem y hy
        obtain ⟨l, l1, l2, l3⟩ := mem z hz1
        have hjp : p < j := by
          rcases Nat.lt_or_ge p j with w | w
          · exact w
          · have : j = p := by omega
            rcases Nat.lt_or_ge p l with u | u
            · have := iK_mono I u (by omega)
              subst j
              omega
            · have : l = p := by omega
              subst l
              subst j
              omega
        have := h2 j hjp j2
        rw [j3] at this
        have hq : sB σ a b ≤ 2 * sB σ a y := hq
        omega
  intro k
  induction k with
  | zero =>
    intro i n hi hn hpi h1 h2 g hg
    obtain ⟨n, rfl⟩ : ∃ m, n = m + 1 := ⟨n - 1, by omega⟩
    have e : i = nT σ := by omega
    subst e
    exact ⟨g, fin _ hpi (Nat.le_refl _) h1 h2 (fun j q1 q2 => by omega) g hg, by rw [f_X3_splitKeyBetween_24, hT, if_pos (nI_le (Nat.le_refl _) (by omega))]⟩
  | succ k ih =>
    intro i n hi hn hpi h1 h2 g hg
    obtain ⟨n, rfl⟩ : ∃ m, n = m + 1 := ⟨n - 1, by omega⟩
    obtain ⟨⟨e1, b1⟩, e2, b2, b3⟩ := I.i i (by omega)
    by_cases q1 : b ≤ iK σ i
    · refine ⟨g, fin _ hpi (by omega) h1 h2 (fun j z1 z2 => ?_) g hg, ?_⟩
      · rcases Nat.lt_or_ge i j with w | w
        · have := iK_mono I w z2
          omega
        · have : j = i := by omega
          subst this
          exact q1
      · rw [f_X3_splitKeyBetween_24, hT, if_le (by omega) (by omega), if_neg (by omega), ld_n (by omega) (by decide), e1, if_le (by omega) (by omega), if_pos q1]
    · have hs := sB_upto I (a := a) (i := i) (by omega)
      have hki := p3 i hpi (by omega)
      have hsi := sB_le I a (iK σ i)
      have step : ∀ g', g' = (if i + 1 ≤ p + 1 then (-1 : Int32) else nI (iK σ i)) → (p < i → 2 * sB σ a (iK σ i) < sB σ a b) → ∃ v, SKa (KsI σ a b) (fun x => sB σ a x) (sB σ a b) v ∧ f_X3_splitKeyBetween_71 (f_X3_splitKeyBetween_24 n) σ (nI b) (nI (sB σ a b)) (nI p) (nI (sm (fun j => if a ≤ iK σ j then iZ σ j else 0) i)) g' (nI i) = some v := by
        intro g' hg' hnq
        obtain ⟨v, v1, v2⟩ := ih (i + 1) n (by omega) (by omega) (by omega) (fun j z1 z2 => by
          rcases Nat.lt_or_ge j i with w | w
          · exact h1 j z1 w
          · have : j = i := by omega
            subst this
            omega) (fun j z1 z2 => by
          rcases Nat.lt_or_ge j i with w | w
          · exact h2 j z1 w
          · have : j = i := by omega
            subst this
            exact hnq z1) g' hg'
        refine ⟨v, v1, ?_⟩
        rw [sm_s, if_pos hki] at v2
        unfold f_X3_splitKeyBetween_71
        rw [ld_n (by omega) (by decide), e2, nI_add, nI_1]
        exact v2
      by_cases q2 : i ≤ p
      · have e : i = p := by omega
        obtain ⟨v, v1, v2⟩ := step g (by rw [hg, if_pos (by omega), if_pos (by omega)]) (fun z => by omega)
        refine ⟨v, v1, ?_⟩
        rw [f_X3_splitKeyBetween_24, hT, if_le (by omega) (by omega), if_neg (by omega), ld_n (by omega) (by decide), e1, if_le (by omega) (by omega), if_neg q1, if_le (by omega) (by omega), if_pos q2]
        exact v2
      · by_cases q3 : 2 * sB σ a (iK σ i) < sB σ a b
        · obtain ⟨v, v1, v2⟩ := step (nI (iK σ i)) (by rw [if_neg (by omega)]) (fun _ => q3)
          refine ⟨v, v1, ?_⟩
          rw [f_X3_splitKeyBetween_24, hT, if_le (by omega) (by omega), if_neg (by omega), ld_n (by omega) (by decide), e1, if_le (by omega) (by omega), if_neg q1, if_le (by omega) (by omega), if_neg q2, ld_n (by omega) (by decide), e1, show (2 : Int32) = nI 2 from rfl, pk_mul, if_lt (by omega) (by omega), if_pos (by omega)]
          exact v2
        · refine ⟨nI (iK σ i), Or.inr ⟨iK σ i, ⟨⟨hki, by omega⟩, i, by omega, rfl⟩, rfl, ⟨iK σ p, ⟨⟨p3 p (Nat.le_refl _) (by omega), h1 p (Nat.le_refl _) (by omega)⟩, p, by omega, rfl⟩, iK_mono I (by omega) (by omega)⟩, Or.inl (by show sB σ a b ≤ 2 * sB σ a (iK σ i); omega), fun y hy ⟨z, hz1, hz2⟩ hq => ?_⟩, ?_⟩
          · obtain ⟨⟨y1, y2⟩, j, j1, j2⟩ := hy
            obtain ⟨⟨z1, z2⟩, l, l1, l2⟩ := hz1
            rcases Nat.lt_or_ge j i with w | w
            · have hjp : p < j := by
                rcases Nat.lt_or_ge p j with u | u
                · exact u
                · rcases Nat.lt_or_ge l p with t | t
                  · have := p2 l t
                    omega
                  · rcases Nat.lt_or_ge j l with u2 | u2
                    · have := iK_mono I u2 l1
                      omega
                    · have : l = j := by omega
                      subst l
                      omega
              have := h2 j hjp w
              rw [j2] at this
              have hq : sB σ a b ≤ 2 * sB σ a y := hq
              omega
            · rcases Nat.lt_or_ge i j with u | u
              · have := iK_mono I u j1
                omega
              · have : j = i := by omega
                rw [← j2, this]
                exact Nat.le_refl _
          · rw [f_X3_splitKeyBetween_24, hT, if_le (by omega) (by omega), if_neg (by omega), ld_n (by omega) (by decide), e1, if_le (by omega) (by omega), if_neg q1, if_le (by omega) (by omega), if_neg q2, ld_n (by omega) (by decide), e1, show (2 : Int32) = nI 2 from rfl, pk_mul, if_lt (by omega) (by omega), if_neg (by omega)]
theorem k_sizeSplit {σ : Nat → Nat → Int32} (I : IV σ) {r : Nat} (h : r < nR σ) : ∃ v, SKa (KsI σ (nS σ r) (nE σ r)) (fun x => sB σ (nS σ r) x) (rZ σ r) v ∧ f_X0_sizeSplitKey σ (nI r) = some v := by
  obtain ⟨hR, hR1, hR2⟩ := I.R
  have hS := (I.r r h).1
  have hE := nE_le I r
  obtain ⟨p, hp, hpf⟩ := k_place I (key := nS σ r) (by omega)
  have hpT := hp.1
  have hT2 := I.T.2
  have hz : sm (fun j => if nS σ r ≤ iK σ j then iZ σ j else 0) p = 0 := by
    rw [sm_zero (i := 0) (by omega) (fun j _ hj => if_neg (by have := hp.2.1 j hj; omega))]
    rfl
  obtain ⟨v, v1, v2⟩ := k_skL I (a := nS σ r) (b := nE σ r) (by omega) hE hp (nT σ - p) p FU (by omega) (FU_gt (by omega)) (Nat.le_refl _) (fun j h1 h2 => by omega) (fun j h1 h2 => by omega) (-1) (by rw [if_pos (by omega)])
  refine ⟨v, v1, ?_⟩
  rw [hz] at v2
  unfold f_X0_sizeSplitKey f_X3_splitKeyBetween
  rw [ld_n (by omega) (by decide), k_endOf I h, bd_s, hS.1, k_sum I (by omega) (by omega), bd_s, hpf, bd_s]
  show ((f_X3_splitKeyBetween_24 FU σ (nI (nE σ r)) (nI (sB σ (nS σ r) (nE σ r))) (nI p) (nI 0) (-1) (nI p)).bind _) = _
  rw [v2, bd_s]
/-! the samples' split key -/
def KsM (σ : Nat → Nat → Int32) (a b : Nat) : Nat → Prop := fun x => (a ≤ x ∧ x < b) ∧ ∃ i, i < nM σ ∧ sK σ i = x
/-- the least key of a sample from a on and before b, or b -/
def lsB (σ : Nat → Nat → Int32) (a b v : Nat) : Prop := v ≤ b ∧ (v = b ∨ KsM σ a b v) ∧ ∀ x, KsM σ a b x → v ≤ x
theorem k_leastBL {σ : Nat → Nat → Int32} (I : IV σ) {a b : Nat} (ha : a ≤ 20000) (hb : b ≤ 20000) : ∀ k i n c, i + k = nM σ → k < n → (c ≤ b ∧ (c = b ∨ KsM σ a b c) ∧ ∀ j, j < i → a ≤ sK σ j → sK σ j < b → c ≤ sK σ j) → ∃ v, lsB σ a b v ∧ f_X6_leastBetween_5 n σ (nI a) (nI c) (nI i) = some (nI v) := by
  obtain ⟨hT, hT2⟩ := I.M
  intro k
  induction k with
  | zero =>
    intro i n c hi hn hc
    obtain ⟨n, rfl⟩ : ∃ m, n = m + 1 := ⟨n - 1, by omega⟩
    have e : i = nM σ := by omega
    subst e
    exact ⟨c, ⟨hc.1, hc.2.1, fun x ⟨⟨x1, x2⟩, j, j1, j2⟩ => by rw [← j2]; exact hc.2.2 j j1 (by omega) (by omega)⟩, by rw [f_X6_leastBetween_5, hT, if_pos (nI_le (Nat.le_refl _) (by omega))]⟩
  | succ k ih =>
    intro i n c hi hn hc
    obtain ⟨n, rfl⟩ : ∃ m, n = m + 1 := ⟨n - 1, by omega⟩
    obtain ⟨e1, b1⟩ := I.m i (by omega)
    obtain ⟨c1, c2, c3⟩ := hc
    have keep : (∀ j, j < i + 1 → a ≤ sK σ j → sK σ j < b → c ≤ sK σ j) → ∃ v, lsB σ a b v ∧ f_X6_leastBetween_5 n σ (nI a) (nI c) (nI (i + 1)) = some (nI v) := fun q => ih (i + 1) n c (by omega) (by omega) ⟨c1, c2, q⟩
    by_cases q1 : sK σ i < a
    · obtain ⟨v, v1, v2⟩ := keep (fun j hj h1 h2 => by
        rcases Nat.lt_or_ge j i with w | w
        · exact c3 j w h1 h2
        · have : j = i := by omega
          subst this
          omega)
      exact ⟨v, v1, by rw [f_X6_leastBetween_5, hT, if_le (by omega) (by omega), if_neg (by omega), ld_n (by omega) (by decide), e1, if_lt (by omega) (by omega), if_pos q1, nI_1]; exact v2⟩
    · by_cases q2 : c ≤ sK σ i
      · obtain ⟨v, v1, v2⟩ := keep (fun j hj h1 h2 => by
          rcases Nat.lt_or_ge j i with w | w
          · exact c3 j w h1 h2
          · have : j = i := by omega
            subst this
            omega)
        exact ⟨v, v1, by rw [f_X6_leastBetween_5, hT, if_le (by omega) (by omega), if_neg (by omega), ld_n (by omega) (by decide), e1, if_lt (by omega) (by omega), if_neg q1, ld_n (by omega) (by decide), e1, if_le (by omega) (by omega), if_pos q2, nI_1]; exact v2⟩
      · obtain ⟨v, v1, v2⟩ := ih (i + 1) n (sK σ i) (by omega) (by omega) ⟨by omega, Or.inr ⟨⟨by omega, by omega⟩, i, by omega, rfl⟩, fun j hj h1 h2 => by
          rcases Nat.lt_or_ge j i with w | w
          · have := c3 j w h1 h2
            omega
          · have : j = i := by omega
            subst this
            exact Nat.le_refl _⟩
        exact ⟨v, v1, by rw [f_X6_leastBetween_5, hT, if_le (by omega) (by omega), if_neg (by omega), ld_n (by omega) (by decide), e1, if_lt (by omega) (by omega), if_neg q1, ld_n (by omega) (by decide), e1, if_le (by omega) (by omega), if_neg q2, ld_n (by omega) (by decide), e1, nI_1]; exact v2⟩
theorem k_leastB {σ : Nat → Nat → Int32} (I : IV σ) {a b : Nat} (ha : a ≤ 20000) (hb : b ≤ 20000) : ∃ v, lsB σ a b v ∧ f_X6_leastBetween σ (nI a) (nI b) = some (nI v) :=
  k_leastBL I ha hb (nM σ) 0 FU b (by omega) (FU_gt (by have := I.M.2; omega)) ⟨Nat.le_refl _, Or.inl rfl, fun j hj => by omega⟩
theorem ct_less {p q : Nat → Bool} : ∀ {n : Nat}, (∀ k, k < n → p k = true → q k = true) → (∃ k, k < n ∧ p k = false ∧ q k = true) → ct p n < ct q n
  | 0, _, ⟨k, h, _⟩ => by omega
  | n + 1, h1, ⟨k, h2, h3, h4⟩ => by
    have sub : ∀ {n : Nat}, (∀ k, k < n → p k = true → q k = true) → ct p n ≤ ct q n := by
      intro n
      induction n with
      | zero => intro _; exact Nat.le_refl _
      | succ n ih =>
        intro h
        have := ih (fun k hk => h k (by omega))
        have := h n (by omega)
        rw [ct_s, ct_s]
        cases hp : p n <;> cases hq : q n <;> simp_all <;> omega
    rw [ct_s, ct_s]
    rcases Nat.lt_or_ge k n with w | w
    · have := ct_less (n := n) (fun k hk => h1 k (by omega)) ⟨k, w, h3, h4⟩
      have := h1 n (by omega)
      cases hp : p n <;> cases hq : q n <;> simp_all <;> omega
    · have : k = n := by omega
      subst this
      have := sub (n := k) (fun j hj => h1 j (by omega))
      rw [h3, h4]
      simp
      omega
/-- how many samples of a range have a key not less than x -/
def cUp (σ : Nat → Nat → Int32) (a b x : Nat) : Nat := ct (fun k => decide ((a ≤ sK σ k ∧ sK σ k < b) ∧ x ≤ sK σ k)) (nM σ)
theorem cUp_less {σ : Nat → Nat → Int32} {a b x y : Nat} (h : KsM σ a b x) (hy : x < y) : cUp σ a b y < cUp σ a b x := by
  obtain ⟨⟨h1, h2⟩, i, i1, i2⟩ := h
  refine ct_less (fun k hk q => ?_) ⟨i, i1, ?_, ?_⟩
  · simp only [decide_eq_true_iff] at q ⊢
    omega
  · simp only [decide_eq_false_iff_not]
    omega
  · simp only [decide_eq_true_iff]
    omega
theorem k_lkL {σ : Nat → Nat → Int32} (I : IV σ) {a b f0 : Nat} (ha : a ≤ 10000) (hb : b ≤ 10000) (hf0 : KsM σ a b f0) (hfl : ∀ x, KsM σ a b x → f0 ≤ x) : ∀ (n i key : Nat) (g : Int32), i + cUp σ a b key ≤ 31 → cUp σ a b key < n → (key = b ∨ KsM σ a b key) → key ≤ b → f0 < key → ((g = -1 ∧ ∀ x, KsM σ a b x → x = f0 ∨ key ≤ x) ∨ ∃ y, KsM σ a b y ∧ f0 < y ∧ g = nI y ∧ ∀ x, KsM σ a b x → x ≤ y ∨ key ≤ x) → (∀ x, KsM σ a b x → f0 < x → x < key → 2 * cB σ a x < cB σ a b) → ∃ v, SKa (KsM σ a b) (fun x => cB σ a x) (cB σ a b) v ∧ f_X6_splitKeyBetween_28 n σ (nI a) (nI b) (nI (cB σ a b)) g (nI key) (nI i) = some v := by
  have hcb := cB_le I a b
  intro n
  induction n with
  | zero => intro i key g h1 h2; omega
  | succ n ih =>
    intro i key g h1 h2 h3 h4 h5 h6 h7
    have hck := cB_le I a key
    rw [f_X6_splitKeyBetween_28, show (32 : Int32) = nI 32 from rfl, if_le (by omega) (by omega), if_neg (by omega), if_le (by omega) (by omega)]
    by_cases q : b ≤ key
    · rw [if_pos q]
      refine ⟨g, ?_, rfl⟩
      rcases h6 with ⟨g1, g2⟩ | ⟨y, y1, y2, y3, y4⟩
      · refine Or.inl ⟨g1, fun x y hx hy => ?_⟩
        have e1 := g2 x hx
        have e2 := g2 y hy
        have := hx.1.2
        have := hy.1.2
        omega
      · refine Or.inr ⟨y, y1, y3, ⟨f0, hf0, y2⟩, Or.inr (fun x hx => ?_), fun x hx ⟨z, z1, z2⟩ hq => ?_⟩
        · have := y4 x hx
          have := hx.1.2
          omega
        · have e1 := hfl z z1
          have e2 := h7 x hx (by omega) (by have := hx.1.2; omega)
          have hq : cB σ a b ≤ 2 * cB σ a x := hq
          omega
    · have hK : KsM σ a b key := by
        rcases h3 with z | z
        · omega
        · exact z
      rw [if_neg q, k_cnt I (by omega) (by omega), bd_s, show (2 : Int32) = nI 2 from rfl, pk_mul, if_lt (by omega) (by omega)]
      by_cases q2 : 2 * cB σ a key < cB σ a b
      · obtain ⟨w, ⟨w1, w2, w3⟩, w4⟩ := k_leastB I (a := key + 1) (b := b) (by omega) (by omega)
        have wK : ∀ x, KsM σ (key + 1) b x ↔ KsM σ a b x ∧ key < x := by
          intro x
          constructor
          · rintro ⟨⟨x1, x2⟩, x3⟩
            exact ⟨⟨⟨by have := hK.1.1; omega, x2⟩, x3⟩, by omega⟩
          · rintro ⟨⟨⟨x1, x2⟩, x3⟩, x4⟩
            exact ⟨⟨by omega, x2⟩, x3⟩
        have hkw : key < w := by
          rcases w2 with z | z
          · omega
          · have := z.1.1
            omega
        have hcu := cUp_less hK hkw
        obtain ⟨v, v1, v2⟩ := ih (i + 1) w (nI key) (by omega) (by omega) (by
          rcases w2 with z | z
          · exact Or.inl z
          · exact Or.inr ((wK w).mp z).1) w1 (by omega) (Or.inr ⟨key, hK, h5, rfl, fun x hx => by
          rcases Nat.lt_or_ge key x with u | u
          · exact Or.inr (w3 x ((wK x).mpr ⟨hx, u⟩))
          · exact Or.inl u⟩) (fun x hx x1 x2 => by
          rcases Nat.lt_trichotomy x key with u | u | u
          · exact h7 x hx x1 u
          · rw [u]; exact q2
          · have := w3 x ((wK x).mpr ⟨hx, u⟩)
            omega)
        refine ⟨v, v1, ?_⟩
        rw [if_pos q2, nI_1, w4, bd_s, nI_1]
        exact v2
      · rw [if_neg q2]
        refine ⟨nI key, Or.inr ⟨key, hK, rfl, ⟨f0, hf0, h5⟩, Or.inl (by show cB σ a b ≤ 2 * cB σ a key; omega), fun x hx ⟨z, z1, z2⟩ hq => ?_⟩, rfl⟩
        rcases Nat.lt_or_ge x key with u | u
        · have e1 := hfl z z1
          have e2 := h7 x hx (by omega) u
          have hq : cB σ a b ≤ 2 * cB σ a x := hq
          omega
        · exact u
theorem k_loadSplit {σ : Nat → Nat → Int32} (I : IV σ) {r : Nat} (h : r < nR σ) : ∃ v, SKa (KsM σ (nS σ r) (nE σ r)) (fun x => cB σ (nS σ r) x) (rL σ r) v ∧ f_X0_loadSplitKey σ (nI r) = some v := by
  obtain ⟨hR, hR1, hR2⟩ := I.R
  have hS := (I.r r h).1
  have hE := nE_le I r
  have hM2 := I.M.2
  obtain ⟨w, ⟨w1, w2, w3⟩, w4⟩ := k_leastB I (a := nS σ r) (b := nE σ r) (by omega) (by omega)
  obtain ⟨u, ⟨u1, u2, u3⟩, u4⟩ := k_leastB I (a := w + 1) (b := nE σ r) (by omega) (by omega)
  have red : f_X0_loadSplitKey σ (nI r) = (f_X6_splitKeyBetween_28 FU σ (nI (nS σ r)) (nI (nE σ r)) (nI (cB σ (nS σ r) (nE σ r))) (-1) (nI u) (nI 0)).bind fun v5 => some v5 := by
    unfold f_X0_loadSplitKey f_X6_splitKeyBetween
    rw [ld_n (by omega) (by decide), k_endOf I h, bd_s, hS.1, k_cnt I (by omega) (by omega), bd_s, w4, bd_s, nI_1, u4, bd_s]
    rfl
  have noU : (∀ x, KsM σ (nS σ r) (nE σ r) x → nE σ r ≤ x ∨ x = w) → nE σ r ≤ u → ∃ v, SKa (KsM σ (nS σ r) (nE σ r)) (fun x => cB σ (nS σ r) x) (rL σ r) v ∧ f_X0_loadSplitKey σ (nI r) = some v := by
    intro q1 q2
    refine ⟨-1, Or.inl ⟨rfl, fun x y hx hy => ?_⟩, ?_⟩
    · have e1 := q1 x hx
      have e2 := q1 y hy
      have := hx.1.2
      have := hy.1.2
      omega
    · rw [red, show FU = 4999 + 1 from rfl, f_X6_splitKeyBetween_28, show (32 : Int32) = nI 32 from rfl, if_le (by omega) (by omega), if_neg (by omega), if_le (by omega) (by omega), if_pos q2, bd_s]
  rcases w2 with e | hw
  · refine noU (fun x hx => ?_) ?_
    · have := w3 x hx
      omega
    · rcases u2 with z | z
      · omega
      · have := z.1.1
        omega
  · have wK : ∀ x, KsM σ (w + 1) (nE σ r) x ↔ KsM σ (nS σ r) (nE σ r) x ∧ w < x := by
      intro x
      constructor
      · rintro ⟨⟨x1, x2⟩, x3⟩
        exact ⟨⟨⟨by have := hw.1.1; omega, x2⟩, x3⟩, by omega⟩
      · rintro ⟨⟨⟨x1, x2⟩, x3⟩, x4⟩
        exact ⟨⟨by omega, x2⟩, x3⟩
    have hwu : w < u := by
      rcases u2 with z | z
      · have := hw.1.2
        omega
      · have := z.1.1
        omega
    have hc1 : cUp σ (nS σ r) (nE σ r) w ≤ 32 := Nat.le_trans (ct_le _ _) hM2
    have hc2 := cUp_less hw hwu
    obtain ⟨v, v1, v2⟩ := k_lkL I (a := nS σ r) (b := nE σ r) (f0 := w) (by omega) hE hw w3 FU 0 u (-1) (by omega) (FU_gt (by omega)) (by
      rcases u2 with z | z
      · exact Or.inl z
      · exact Or.inr ((wK u).mp z).1) u1 hwu (Or.inl ⟨rfl, fun x hx => by
      rcases Nat.lt_or_ge w x with y | y
      · exact Or.inr (u3 x ((wK x).mpr ⟨hx, y⟩))
      · exact Or.inl (by have := w3 x hx; omega)⟩) (fun x hx x1 x2 => by
      have := u3 x ((wK x).mpr ⟨hx, x1⟩)
      omega)
    exact ⟨v, v1, by rw [red, v2, bd_s]⟩
