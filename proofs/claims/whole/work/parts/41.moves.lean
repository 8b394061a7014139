/-! settings -/
theorem p_set {σ : Nat → Nat → Int32} {s : Nat → Int32} (h : Pr σ s) {j : Nat} (hj : j < 5) (v : Int32) : Pr (cu σ 0 j v) (upd s j v) := by
  refine ⟨IV_c h.1 (fun k h1 h2 => ?_) rfl rfl rfl rfl rfl (fun q hq => ?_), EQ_c h.1 h.2 (fun k h1 h2 => ?_) (fun q hq => cu_ne (by omega)) (fun k hk => ?_) ?_ (fun b b1 b8 => ?_) (fun k hk => up_ne (by omega))⟩
  · rw [cu_eq, up_ne (by omega)]
  · refine IVr_at (h.1.r q hq) ?_ rfl rfl rfl rfl (h.1.r q hq).1
    rw [cu_eq, up_ne (by omega)]
  · rw [cu_eq, up_ne (by omega)]
  · rw [cu_eq]
    by_cases c : k = j
    · rw [c, up_eq, up_eq]
    · rw [up_ne c, up_ne c]
      exact h.2.st k hk
  · rw [cu_eq, up_ne (by omega), up_ne (by omega)]
    exact h.2.ti
  · rw [up_ne (by omega), cu_ne (by decide)]
    exact h.2.pf b b1 b8
theorem p_speed {σ : Nat → Nat → Int32} {s : Nat → Int32} (h : Pr σ s) {v : Nat} (h1 : 1 ≤ v) (h2 : v ≤ 99) : Pr (cu σ 0 5 (nI v)) (upd s 5 (nI v)) := by
  have I := h.1
  have e5 : tn (cu σ 0 5 (nI v) 0 5) = v := tn_n (by omega)
  refine ⟨?_, EQ_c h.1 h.2 (fun k h1 h2 => ?_) (fun q hq => cu_ne (by omega)) (fun k hk => ?_) ?_ (fun b b1 b8 => ?_) (fun k hk => up_ne (by omega))⟩
  · unfold IV
    rw [e5]
    exact ⟨I.N, I.U, I.Z, I.R, I.r, I.S, I.T, I.i, I.K, I.M, I.m, rfl, h1, h2⟩
  · rw [cu_eq, up_ne (by omega)]
  · rw [cu_eq]
    by_cases c : k = 5
    · rw [c, up_eq, up_eq]
    · rw [up_ne c, up_ne c]
      exact h.2.st k hk
  · rw [cu_eq, up_ne (by omega), up_ne (by omega)]
    exact h.2.ti
  · rw [up_ne (by omega), cu_ne (by decide)]
    exact h.2.pf b b1 b8
theorem up_comm {f : Nat → Int32} {a b : Nat} {v w : Int32} (h : ¬ a = b) : upd (upd f a v) b w = upd (upd f b w) a v := by
  funext j
  unfold upd
  by_cases c : j = a
  · rw [if_pos c, if_neg (by omega), if_pos c]
  · rw [if_neg c, if_neg c]
theorem m_chg {σ : Nat → Nat → Int32} {s P P' : Nat → Int32} {n n' : Int32} (E : EQ σ s) (hn : f_X9_note s P n = some (P', n')) (j : Nat) (hj : j < 6) (v : Int32) : f_X9_change s P n (nI j) v = some (σ 0 j, upd s j v, P', n') := by
  unfold f_X9_change
  rw [hn, bd_s, ld_n (by omega) (by decide), sd_n (by omega) (by decide), nI_clamp (by omega), E.st j hj]
theorem s_setReplication : St_setReplication Rel := by
  intro σ t h s P E n x R
  unfold f_X8_setReplication f_X9_setReplication
  rcases wthn (x := x) (A := 1) (B := 5) (a := 1) (b := 5) rfl rfl (by decide) (by decide) with ⟨e1, e2⟩ | ⟨k, k1, k2, e, e1, e2⟩
  · rw [e1, e2, bd_s, bd_s, if_pos rfl, if_pos rfl, k_fail2, m_fail2]
    exact ⟨_, _, rfl, rfl, rfl, r_fail2 R⟩
  · obtain ⟨t', h', P', n', S1, S2, K⟩ := r_save R
    rw [e1, e2, bd_s, bd_s, if_neg one_n0, if_neg one_n0, S1, bd_s, show f_X9_change s P n 0 x = _ from m_chg R.1.2 S2 0 (by decide) x, bd_s]
    exact ⟨_, _, rfl, rfl, rfl, K _ _ (p_set R.1 (by decide) x)⟩
theorem s_setSpeed : St_setSpeed Rel := by
  intro σ t h s P E n x R
  unfold f_X8_setSpeed f_X9_setSpeed
  rcases wthn (x := x) (A := 1) (B := 99) (a := 1) (b := 99) rfl rfl (by decide) (by decide) with ⟨e1, e2⟩ | ⟨k, k1, k2, rfl, e1, e2⟩
  · rw [e1, e2, bd_s, bd_s, if_pos rfl, if_pos rfl, k_fail2, m_fail2]
    exact ⟨_, _, rfl, rfl, rfl, r_fail2 R⟩
  · obtain ⟨t', h', P', n', S1, S2, K⟩ := r_save R
    rw [e1, e2, bd_s, bd_s, if_neg one_n0, if_neg one_n0, S1, bd_s, show f_X9_change s P n 5 (nI k) = _ from m_chg R.1.2 S2 5 (by decide) (nI k), bd_s]
    exact ⟨_, _, rfl, rfl, rfl, K _ _ (p_speed R.1 k1 k2)⟩
theorem s_setSizes : St_setSizes Rel := by
  intro σ t h s P E n x y R
  unfold f_X8_setSizes f_X9_setSizes f_X8_setSizes_20 f_X9_setSizes_20
  rcases wthn (x := y) (A := 1) (B := 9999) (a := 1) (b := 9999) rfl rfl (by decide) (by decide) with ⟨e1, e2⟩ | ⟨k, k1, k2, rfl, e1, e2⟩
  · rw [e1, e2, bd_s, bd_s, if_pos rfl, if_pos rfl, k_fail2, m_fail2]
    exact ⟨_, _, rfl, rfl, rfl, r_fail2 R⟩
  · rw [e1, e2, bd_s, bd_s, if_neg one_n0, if_neg one_n0]
    rcases wthn (x := x) (A := 0) (B := nI k) (a := 0) (b := k) rfl rfl (by decide) (by omega) with ⟨g1, g2⟩ | ⟨j, j1, j2, -, g1, g2⟩
    · rw [g1, g2, bd_s, bd_s, if_pos rfl, if_pos rfl, k_fail2, m_fail2]
      exact ⟨_, _, rfl, rfl, rfl, r_fail2 R⟩
    · obtain ⟨t', h', P', n', S1, S2, K⟩ := r_save R
      rw [g1, g2, bd_s, bd_s, if_neg one_n0, if_neg one_n0, S1, bd_s, show f_X9_change s P n 2 (nI k) = _ from m_chg R.1.2 S2 2 (by decide) (nI k), bd_s, show (1 : Int32) = nI 1 from rfl, sd_n (by decide) (by decide), nI_clamp (by decide)]
      refine ⟨_, _, rfl, rfl, rfl, ?_⟩
      show Rel (cu (cu σ 0 1 x) 0 2 (nI k)) t' h' (upd (upd s 2 (nI k)) 1 x) P' E n'
      rw [up_comm (by decide)]
      exact K _ _ (p_set (p_set R.1 (by decide) x) (by decide) _)
theorem s_setLoads : St_setLoads Rel := by
  intro σ t h s P E n x y R
  unfold f_X8_setLoads f_X9_setLoads f_X8_setLoads_19 f_X9_setLoads_19
  rcases wthn (x := y) (A := 1) (B := 32) (a := 1) (b := 32) rfl rfl (by decide) (by decide) with ⟨e1, e2⟩ | ⟨k, k1, k2, rfl, e1, e2⟩
  · rw [e1, e2, bd_s, bd_s, if_pos rfl, if_pos rfl, k_fail2, m_fail2]
    exact ⟨_, _, rfl, rfl, rfl, r_fail2 R⟩
  · rw [e1, e2, bd_s, bd_s, if_neg one_n0, if_neg one_n0]
    rcases wthn (x := x) (A := 0) (B := nI k) (a := 0) (b := k) rfl rfl (by decide) (by omega) with ⟨g1, g2⟩ | ⟨j, j1, j2, -, g1, g2⟩
    · rw [g1, g2, bd_s, bd_s, if_pos rfl, if_pos rfl, k_fail2, m_fail2]
      exact ⟨_, _, rfl, rfl, rfl, r_fail2 R⟩
    · obtain ⟨t', h', P', n', S1, S2, K⟩ := r_save R
      rw [g1, g2, bd_s, bd_s, if_neg one_n0, if_neg one_n0, S1, bd_s, show f_X9_change s P n 4 (nI k) = _ from m_chg R.1.2 S2 4 (by decide) (nI k), bd_s, show (3 : Int32) = nI 3 from rfl, sd_n (by decide) (by decide), nI_clamp (by decide)]
      refine ⟨_, _, rfl, rfl, rfl, ?_⟩
      show Rel (cu (cu σ 0 3 x) 0 4 (nI k)) t' h' (upd (upd s 4 (nI k)) 3 x) P' E n'
      rw [up_comm (by decide)]
      exact K _ _ (p_set (p_set R.1 (by decide) x) (by decide) _)
/-! nodes -/
theorem s_addNode : St_addNode Rel := by
  intro σ t h s P E n x y R
  have I := R.1.1
  have hN := I.N.2
  unfold f_X8_addNode f_X9_addNode f_X8_addNode_19 f_X9_addNode_19
  rcases wthn (x := x) (A := 0) (B := 3) (a := 0) (b := 3) rfl rfl (by decide) (by decide) with ⟨e1, e2⟩ | ⟨k, k1, k2, rfl, e1, e2⟩
  · rw [e1, e2, bd_s, bd_s, if_pos rfl, if_pos rfl, k_fail2, m_fail2]
    exact ⟨_, _, rfl, rfl, rfl, r_fail2 R⟩
  · rw [e1, e2, bd_s, bd_s, if_neg one_n0, if_neg one_n0]
    rcases wthn (x := y) (A := 1) (B := 16) (a := 1) (b := 16) rfl rfl (by decide) (by decide) with ⟨g1, g2⟩ | ⟨j, j1, j2, e, g1, g2⟩
    · rw [g1, g2, bd_s, bd_s, if_pos rfl, if_pos rfl, k_fail2, m_fail2]
      exact ⟨_, _, rfl, rfl, rfl, r_fail2 R⟩
    · rw [g1, g2, bd_s, bd_s, if_neg one_n0, if_neg one_n0, I.N.1, ld_N I R.1.2, show (8 : Int32) = nI 8 from rfl, if_lt (by omega) (by omega), if_eq (by omega) (by omega)]
      by_cases q : nN σ < 8
      · obtain ⟨t', h', P', n', S1, S2, K⟩ := r_save R
        have e15 : upd (upd (upd s (19 + 3 * nN σ) (nI k)) (19 + 3 * nN σ + 1) y) (19 + 3 * nN σ + 2) 1 15 = nI (nN σ) := by
          rw [up_ne (by omega), up_ne (by omega), up_ne (by omega), R.1.2.N, I.N.1]
        rw [if_pos q, if_neg (by omega), S1, bd_s, k_append I q, bd_s, S2, bd_s, ld_N I R.1.2, ix_n, nI_1, show nI (19 + 3 * nN σ) + (2 : Int32) = nI (19 + 3 * nN σ + 2) from nI_add _ 2, sd_n (by omega) (by decide), sd_n (by omega) (by decide), sd_n (by omega) (by decide), show (15 : Int32) = nI 15 from rfl, ld_n (by decide) (by decide), sd_n (by decide) (by decide), nI_clamp (by omega), nI_clamp (by omega), nI_clamp (by omega), nI_clamp (by omega), e15, nI_1]
        exact ⟨_, _, rfl, rfl, rfl, K _ _ (p_add R.1 q k2 y)⟩
      · rw [if_neg q, if_pos (by omega), k_fail4, m_fail4]
        exact ⟨_, _, rfl, rfl, rfl, r_fail4 R⟩
theorem s_setNode : St_setNode Rel := by
  intro σ t h s P E n x y R
  have I := R.1.1
  have hN := I.N.2
  have hRR := I.R.2.2
  unfold f_X8_setNode f_X9_setNode f_X8_setNode_23 f_X9_setNode_17
  rcases isNod R.1 (x := x) with ⟨e1, e2⟩ | ⟨k, k1, rfl, e1, e2⟩
  · rw [e1, e2, bd_s, bd_s, if_pos rfl, if_pos rfl, k_fail2, m_fail2]
    exact ⟨_, _, rfl, rfl, rfl, r_fail2 R⟩
  · rw [e1, e2, bd_s, bd_s, if_neg one_n0, if_neg one_n0]
    rcases wthn (x := y) (A := 0) (B := 1) (a := 0) (b := 1) rfl rfl (by decide) (by decide) with ⟨g1, g2⟩ | ⟨j, j1, j2, rfl, g1, g2⟩
    · rw [g1, g2, bd_s, bd_s, if_pos rfl, if_pos rfl, k_fail2, m_fail2]
      exact ⟨_, _, rfl, rfl, rfl, r_fail2 R⟩
    · rw [g1, g2, bd_s, bd_s, if_neg one_n0, if_neg one_n0, m_isUp I R.1.2 k1, bd_s]
      unfold f_X8_setNode_40 f_X9_setNode_39
      rw [k_isUp I (by omega), bd_s, bd_s]
      have hix : ((19 : Int32) + (3 : Int32) * nI k) + 2 = nI (21 + 3 * k) := by
        rw [ix_n, show nI (19 + 3 * k) + (2 : Int32) = nI (19 + 3 * k + 2) from nI_add _ 2, show 19 + 3 * k + 2 = 21 + 3 * k by omega]
      rw [hix]
      have hpk : 2 ^ k < 2 ^ nN σ := Nat.pow_lt_pow_right (by decide) k1
      have : j = 0 ∨ j = 1 := by omega
      rcases this with rfl | rfl
      · rw [if_neg (show ¬ nI 0 = 1 by decide), if_neg (show ¬ nI 0 = 1 by decide)]
        cases hb : (nU σ).testBit k with
        | false =>
          rw [if_pos (show bi false = 0 from rfl), if_pos (show bi false = 0 from rfl), k_fail3, m_fail3]
          exact ⟨_, _, rfl, rfl, rfl, r_fail3 R⟩
        | true =>
          obtain ⟨t', h', P', n', S1, S2, K⟩ := r_save R
          have hp := p_up R.1 k1 (u := andn (nU σ) (2 ^ k)) (andn_lt I.U.2) (fun i hi hik => by rw [andn_bit (by omega), Nat.testBit_two_pow, show decide (k = i) = false by simp; omega]; simp)
          rw [show (andn (nU σ) (2 ^ k)).testBit k = false by rw [andn_bit (by omega), Nat.testBit_two_pow]; simp] at hp
          obtain ⟨σ', s', u1, u2, u3⟩ := u_down (x := nI k) (nR σ) 0 FU FU hp (Nat.zero_add _) (FU_gt (by omega)) (FU_gt (by omega))
          have hR' := u3.1.R.2.2
          have hA := m_cntA u3.1 u3.2 (P := P') (E' := E) (c := n') (nR σ') 0 FU (by omega) (FU_gt (by omega))
          rw [if_neg (show ¬ bi true = 0 by decide), if_neg (show ¬ bi true = 0 by decide), S1, S2, bd_s, bd_s, if_pos rfl, sd_n (by omega) (by decide), nI_clamp (by omega), if_neg (show ¬ nI 0 = 1 by decide)]
          unfold f_X0_takeDown f_X9_goDown f_X8_setNode_97 f_X9_setNode_84
          rw [bitF (by omega), bd_s, I.U.1, nI_andn I.U8 (pow8 k (by omega)), show f_X0_takeDown_20 FU (cu σ 0 7 (nI (andn (nU σ) (2 ^ k)))) (nI k) 0 = _ from u1, bd_s, show f_X9_goDown_2 FU (upd s (21 + 3 * k) (nI 0)) (nI k) 0 = _ from u2, bd_s, k_avail u3.1, bd_s, show f_X9_setNode_89 FU s' P' E n' 0 0 = _ from hA]
          exact ⟨_, _, rfl, rfl, rfl, K _ _ u3⟩
      · rw [if_pos (show nI 1 = 1 from rfl), if_pos (show nI 1 = 1 from rfl)]
        cases hb : (nU σ).testBit k with
        | true =>
          rw [if_pos (show bi true = 1 from rfl), if_pos (show bi true = 1 from rfl), k_fail3, m_fail3]
          exact ⟨_, _, rfl, rfl, rfl, r_fail3 R⟩
        | false =>
          obtain ⟨t', h', P', n', S1, S2, K⟩ := r_save R
          have hp := p_up R.1 k1 (u := nU σ ||| 2 ^ k) (or_lt I.U.2 hpk) (fun i hi hik => by rw [Nat.testBit_or, Nat.testBit_two_pow, show decide (k = i) = false by simp; omega]; simp)
          rw [show (nU σ ||| 2 ^ k).testBit k = true by rw [Nat.testBit_or, Nat.testBit_two_pow]; simp] at hp
          obtain ⟨σ', s', u1, u2, u3⟩ := u_up (nR σ) 0 FU FU hp (Nat.zero_add _) (FU_gt (by omega)) (FU_gt (by omega))
          have hR' := u3.1.R.2.2
          have hA := m_cntA u3.1 u3.2 (P := P') (E' := E) (c := n') (nR σ') 0 FU (by omega) (FU_gt (by omega))
          rw [if_neg (show ¬ bi false = 1 by decide), if_neg (show ¬ bi false = 1 by decide), S1, S2, bd_s, bd_s, if_neg one_n0, sd_n (by omega) (by decide), nI_clamp (by omega), if_pos (show nI 1 = 1 from rfl)]
          unfold f_X0_bringUp f_X9_goUp f_X8_setNode_97 f_X9_setNode_84
          rw [bitF (by omega), bd_s, I.U.1, nI_or, show f_X0_bringUp_18 FU (cu σ 0 7 (nI (nU σ ||| 2 ^ k))) 0 = _ from u1, bd_s, show f_X9_goUp_2 FU (upd s (21 + 3 * k) (nI 1)) 0 = _ from u2, bd_s, k_avail u3.1, bd_s, show f_X9_setNode_89 FU s' P' E n' 0 0 = _ from hA]
          exact ⟨_, _, rfl, rfl, rfl, K _ _ u3⟩
/-! items -/
theorem s_put : St_put Rel := by
  intro σ t h s P E n x y R
  have I := R.1.1
  have hT := I.T.2
  unfold f_X8_put f_X9_put f_X8_put_17 f_X9_put_17
  rcases isKey (x := x) with ⟨e1, e2⟩ | ⟨key, k1, rfl, e1, e2⟩
  · rw [e1, e2, bd_s, bd_s, if_pos rfl, if_pos rfl, k_fail2, m_fail2]
    exact ⟨_, _, rfl, rfl, rfl, r_fail2 R⟩
  · rw [e1, e2, bd_s, bd_s, if_neg one_n0, if_neg one_n0]
    rcases wthn (x := y) (A := 1) (B := 99) (a := 1) (b := 99) rfl rfl (by decide) (by decide) with ⟨g1, g2⟩ | ⟨z, z1, z2, rfl, g1, g2⟩
    · rw [g1, g2, bd_s, bd_s, if_pos rfl, if_pos rfl, k_fail2, m_fail2]
      exact ⟨_, _, rfl, rfl, rfl, r_fail2 R⟩
    · rw [g1, g2, bd_s, bd_s, if_neg one_n0, if_neg one_n0]
      rcases b_item R.1 k1 with ⟨p, i, p1, p2, i1, i2, p3, p4, i3, i4⟩ | ⟨p0, p, p1, p2, p3, p4⟩
      · obtain ⟨t', h', P', n', S1, S2, K⟩ := r_save R
        have hz := (I.i p p1).2.2
        rw [p4, i3, bd_s, bd_s, if_neg (fun w => by have := (nI_0i (by omega)).mp w; omega), if_neg (nI_m1 (by omega))]
        unfold f_X8_put_62 f_X9_put_54
        rw [S1, S2, bd_s, bd_s, k_storeU I k1 p3 p1 p2, bd_s, if_neg (nI_m1 (by omega)), nI_1, ld_n (by omega) (by decide), sd_n (by omega) (by decide), nI_clamp (by omega)]
        refine ⟨_, _, rfl, rfl, ?_, K _ _ (i_storeU R.1 k1 z1 z2 p1 p2 i1 i2)⟩
        show nI (iZ σ p) = s (43 + 2 * i + 1)
        rw [show 43 + 2 * i + 1 = 44 + 2 * i by omega, i4]
      · rw [p3, p4, bd_s, bd_s, if_pos rfl, if_pos rfl, ld_T I R.1.2, I.T.1, show (64 : Int32) = nI 64 from rfl, if_lt (by omega) (by omega), if_eq (by omega) (by omega)]
        by_cases q : nT σ < 64
        · obtain ⟨t', h', P', n', S1, S2, K⟩ := r_save R
          obtain ⟨τ, t1, t2⟩ := i_storeN R.1 k1 z1 z2 p1 p2 p0 q
          have a1 : upd s (43 + 2 * nT σ) (nI key) 16 = nI (nT σ) := by rw [up_ne (by omega), R.1.2.T, I.T.1]
          have a2 : upd (upd s (43 + 2 * nT σ) (nI key)) (43 + 2 * nT σ + 1) (nI z) 16 = nI (nT σ) := by rw [up_ne (by omega), a1]
          rw [if_pos q, if_neg (by omega)]
          unfold f_X8_put_62 f_X9_put_54
          rw [S1, S2, bd_s, bd_s, t1, bd_s, if_pos rfl, ld_T I R.1.2, ix_i, sd_n (by omega) (by decide), nI_clamp (by omega), show (16 : Int32) = nI 16 from rfl, ld_n (by decide) (by decide), a1, ix_i, nI_1, sd_n (by omega) (by decide), nI_clamp (by omega), ld_n (by decide) (by decide), a2, sd_n (by decide) (by decide), nI_clamp (by decide), nI_1]
          exact ⟨_, _, rfl, rfl, rfl, K _ _ t2⟩
        · rw [if_neg q, if_pos (by omega), k_fail4, m_fail4]
          exact ⟨_, _, rfl, rfl, rfl, r_fail4 R⟩
theorem s_remove : St_remove Rel := by
  intro σ t h s P E n x R
  have I := R.1.1
  have hT := I.T.2
  unfold f_X8_remove f_X9_remove
  rcases isKey (x := x) with ⟨e1, e2⟩ | ⟨key, k1, rfl, e1, e2⟩
  · rw [e1, e2, bd_s, bd_s, if_pos rfl, if_pos rfl, k_fail2, m_fail2]
    exact ⟨_, _, rfl, rfl, rfl, r_fail2 R⟩
  · rw [e1, e2, bd_s, bd_s, if_neg one_n0, if_neg one_n0]
    rcases b_item R.1 k1 with ⟨p, i, p1, p2, i1, i2, p3, p4, i3, i4⟩ | ⟨p0, p, p1, p2, p3, p4⟩
    · obtain ⟨t', h', P', n', S1, S2, K⟩ := r_save R
      have hz := (I.i p p1).2.2
      obtain ⟨-, τ, u, t1, t2, t3⟩ := i_erase R.1 (P := P') (E' := E) (n0 := n') (x3 := nI (iZ σ p)) k1 p3 p1 p2 i1 i2
      rw [p4, i3, bd_s, bd_s, if_neg (fun w => by have := (nI_0i (by omega)).mp w; omega), if_neg (nI_m1 (by omega)), S1, S2, bd_s, bd_s, t1, bd_s, nI_1, ld_n (by omega) (by decide), show 43 + 2 * i + 1 = 44 + 2 * i by omega, i4, t2]
      exact ⟨_, _, rfl, rfl, rfl, K _ _ t3⟩
    · rw [p3, p4, bd_s, bd_s, if_pos rfl, if_pos rfl, k_fail3, m_fail3]
      exact ⟨_, _, rfl, rfl, rfl, r_fail3 R⟩
theorem s_access : St_access Rel := by
  intro σ t h s P E n x R
  unfold f_X8_access f_X9_access
  rcases isKey (x := x) with ⟨e1, e2⟩ | ⟨key, k1, rfl, e1, e2⟩
  · rw [e1, e2, bd_s, bd_s, if_pos rfl, if_pos rfl, k_fail2, m_fail2]
    exact ⟨_, _, rfl, rfl, rfl, r_fail2 R⟩
  · obtain ⟨t', h', P', n', S1, S2, K⟩ := r_save R
    obtain ⟨τ, u, r, a1, a2, a3, a4, a5⟩ := i_access R.1 (P := P') (E' := E) (n0 := n') k1
    rw [e1, e2, bd_s, bd_s, if_neg one_n0, if_neg one_n0, S1, S2, bd_s, bd_s, a1, bd_s, a2, bd_s, ld_n a3 (by decide), a4]
    exact ⟨_, _, rfl, rfl, rfl, K _ _ a5⟩
theorem s_splitAt : St_splitAt Rel := by
  intro σ t h s P E n x R
  have I := R.1.1
  have hR := I.R.2.2
  unfold f_X8_splitAt f_X9_splitAt f_X8_splitAt_56 f_X9_splitAt_40
  rcases isKey (x := x) with ⟨e1, e2⟩ | ⟨key, k1, rfl, e1, e2⟩
  · rw [e1, e2, bd_s, bd_s, if_pos rfl, if_pos rfl, k_fail2, m_fail2]
    exact ⟨_, _, rfl, rfl, rfl, r_fail2 R⟩
  · obtain ⟨r, r1, r2⟩ := k_hold I k1
    have hr := r1.1
    have h9 := (I.r r hr).1
    rw [e1, e2, bd_s, bd_s, if_neg one_n0, if_neg one_n0, r2, bd_s, m_rangeAt I R.1.2 k1 r1, bd_s, ld_n (by omega) (by decide), m_of0 I R.1.2 hr, bd_s, h9.1, if_eq (by omega) (by omega), if_eq (by omega) (by omega)]
    by_cases q1 : nS σ r = key
    · rw [if_pos q1, if_pos q1, k_fail3, m_fail3]
      exact ⟨_, _, rfl, rfl, rfl, r_fail3 R⟩
    · rw [if_neg q1, if_neg q1, k_hasLearner I hr, bd_s, bi_if, m_of3 I R.1.2 hr, bd_s]
      by_cases q2 : σ 12 r = -1
      · rw [show (!decide (σ 12 r = -1)) = false by simp [q2], cond_false, if_pos q2, k_isFull I, bd_s, bi_if, ld_R I R.1.2, show (16 : Int32) = nI 16 from rfl, if_eq (by omega) (by omega)]
        by_cases q3 : nR σ = 16
        · rw [show decide (nR σ = 16) = true by simp [q3], cond_true, if_pos q3, k_fail4, m_fail4]
          exact ⟨_, _, rfl, rfl, rfl, r_fail4 R⟩
        · obtain ⟨t', h', P', n', S1, S2, K⟩ := r_save R
          have hF : nR σ < 16 := by omega
          rw [show decide (nR σ = 16) = false by simp [q3], cond_false, if_neg q3, S1, S2, bd_s, bd_s, k_divide I hr hF, m_divide I R.1.2 hr hF, bd_s, bd_s]
          have := r1.2.1
          exact ⟨_, _, rfl, rfl, rfl, K _ _ (p_divide R.1 hr hF (by omega) r1.2.2)⟩
      · rw [show (!decide (σ 12 r = -1)) = true by simp [q2], cond_true, if_neg q2, k_fail3, m_fail3]
        exact ⟨_, _, rfl, rfl, rfl, r_fail3 R⟩
/-! ticks -/
theorem s_tick : St_tick Rel := by
  intro σ t h s P E n R
  obtain ⟨t', h', P', n', S1, S2, K⟩ := r_save R
  obtain ⟨v, σ', s', u1, u2, u3⟩ := t_tick R.1
  unfold f_X8_tick f_X9_tick
  rw [S1, S2, bd_s, bd_s, u1, u2, bd_s, bd_s]
  exact ⟨_, _, rfl, rfl, rfl, K _ _ u3⟩
theorem k_st57 {k33 : (Nat → Nat → Int32) → (Nat → Int32) → (Nat → Nat → Nat → Int32) → Int32 → Int32 → Int32 → Option (Int32 × (Nat → Nat → Int32) × (Nat → Int32) × (Nat → Nat → Nat → Int32))} {σ : Nat → Nat → Int32} {t : Nat → Int32} {h : Nat → Nat → Nat → Int32} (I : IV σ) (L c v : Int32) : (if v = 0 then f_X8_settle_57 k33 σ t h L c 0 else f_X8_settle_57 k33 σ t h L c 1) = k33 σ t h L (c + 1) (bi (decide (v = 0) && !anyL σ)) := by
  unfold f_X8_settle_57
  rw [k_anyLearner I, bd_s, bi_if, if_pos rfl, if_neg one_n0]
  by_cases q : v = 0
  · rw [if_pos q]
    cases anyL σ <;> simp [q, bi]
  · rw [if_neg q]
    simp [q, bi]
theorem t_settle {L : Nat} (hL : L ≤ 200) {t : Nat → Int32} {h : Nat → Nat → Nat → Int32} {P E : Nat → Int32} {n0 : Int32} : ∀ k c n m {σ : Nat → Nat → Int32} {s : Nat → Int32} (v : Int32), Pr σ s → c + k = L → k < n → k < m → ∃ w σ' s', f_X8_settle_33 n σ t h (nI L) (nI c) (bi (decide (v = 0) && !anyL σ)) = some (w, σ', t, h) ∧ f_X9_settle_29 m s P E n0 (nI L) (nI c) v = some (w, s', P, E, n0) ∧ Pr σ' s' := by
  intro k
  induction k with
  | zero =>
    intro c n m σ s v hp hc hn hm
    obtain ⟨n, rfl⟩ : ∃ m, n = m + 1 := ⟨n - 1, by omega⟩
    obtain ⟨m, rfl⟩ : ∃ n, m = n + 1 := ⟨m - 1, by omega⟩
    rw [f_X8_settle_33, f_X9_settle_29, if_le (by omega) (by omega), if_pos (by omega), if_le (by omega) (by omega), if_pos (by omega)]
    exact ⟨_, _, _, rfl, rfl, hp⟩
  | succ k ih =>
    intro c n m σ s v hp hc hn hm
    obtain ⟨n, rfl⟩ : ∃ m, n = m + 1 := ⟨n - 1, by omega⟩
    obtain ⟨m, rfl⟩ : ∃ n, m = n + 1 := ⟨m - 1, by omega⟩
    obtain ⟨v', σ', s', u1, u2, u3⟩ := t_tick hp
    obtain ⟨w, σ2, s2, w1, w2, w3⟩ := ih (c + 1) n m v' u3 (by omega) (by omega) (by omega)
    rw [f_X8_settle_33, f_X9_settle_29, if_le (by omega) (by omega), if_neg (by omega), bi_if, if_le (by omega) (by omega), if_neg (show ¬ L ≤ c by omega), m_anyL hp.1 hp.2, bd_s, bi_if]
    unfold f_X9_settle_45
    rw [u1, u2, bd_s, bd_s]
    have hC : (if (v', σ').1 = 0 then f_X8_settle_57 (f_X8_settle_33 n) (v', σ').2 t h (nI L) (nI c) 0 else f_X8_settle_57 (f_X8_settle_33 n) (v', σ').2 t h (nI L) (nI c) 1) = some (w, σ2, t, h) := by
      show (if v' = 0 then f_X8_settle_57 (f_X8_settle_33 n) σ' t h (nI L) (nI c) 0 else f_X8_settle_57 (f_X8_settle_33 n) σ' t h (nI L) (nI c) 1) = _
      rw [k_st57 u3.1, nI_1]
      exact w1
    rw [hC, nI_1]
    by_cases q : v = 0
    · rw [if_pos q]
      cases anyL σ with
      | false =>
        simp only [q, decide_true, Bool.not_false, Bool.and_self, cond_true, cond_false]
        exact ⟨_, _, _, rfl, rfl, hp⟩
      | true =>
        simp only [q, decide_true, Bool.not_true, Bool.and_false, cond_true, cond_false]
        exact ⟨_, _, _, rfl, w2, w3⟩
    · rw [if_neg q, show decide (v = 0) = false by simp [q], Bool.false_and, cond_false]
      exact ⟨_, _, _, rfl, w2, w3⟩
theorem s_settle : St_settle Rel := by
  intro σ t h s P E n x R
  unfold f_X8_settle f_X9_settle
  rcases wthn (x := x) (A := 1) (B := 200) (a := 1) (b := 200) rfl rfl (by decide) (by decide) with ⟨e1, e2⟩ | ⟨L, k1, k2, rfl, e1, e2⟩
  · rw [e1, e2, bd_s, bd_s, if_pos rfl, if_pos rfl, k_fail2, m_fail2]
    exact ⟨_, _, rfl, rfl, rfl, r_fail2 R⟩
  · obtain ⟨t', h', P', n', S1, S2, K⟩ := r_save R
    obtain ⟨v', σ', s', u1, u2, u3⟩ := t_tick R.1
    obtain ⟨w, σ2, s2, w1, w2, w3⟩ := t_settle k2 (t := t') (h := h') (P := P') (E := E) (n0 := n') (L - 1) 1 4999 FU v' u3 (by omega) (by omega) (FU_gt (by omega))
    rw [e1, e2, bd_s, bd_s, if_neg one_n0, if_neg one_n0, S1, S2, bd_s, bd_s, u2, bd_s, show f_X9_settle_29 FU s' P' E n' (nI L) 1 v' = _ from w2]
    have hC : f_X8_settle_33 FU σ t' h' (nI L) 0 0 = some (w, σ2, t', h') := by
      show f_X8_settle_33 (4999 + 1) σ t' h' (nI L) (nI 0) 0 = _
      rw [f_X8_settle_33, if_le (by omega) (by omega), if_neg (by omega), if_pos rfl, u1, bd_s]
      show (if v' = 0 then f_X8_settle_57 (f_X8_settle_33 4999) σ' t' h' (nI L) (nI 0) 0 else f_X8_settle_57 (f_X8_settle_33 4999) σ' t' h' (nI L) (nI 0) 1) = _
      rw [k_st57 u3.1, nI_1]
      exact w1
    rw [hC]
    exact ⟨_, _, rfl, rfl, rfl, K _ _ w3⟩
