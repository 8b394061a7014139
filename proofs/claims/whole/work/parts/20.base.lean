/-! numbers, bits, counts -/
def ct (p : Nat → Bool) : Nat → Nat
  | 0 => 0
  | n + 1 => ct p n + (if p n then 1 else 0)
def sm (f : Nat → Nat) : Nat → Nat
  | 0 => 0
  | n + 1 => sm f n + f n
theorem ct_s (p : Nat → Bool) (n : Nat) : ct p (n + 1) = ct p n + (if p n then 1 else 0) := rfl
theorem sm_s (f : Nat → Nat) (n : Nat) : sm f (n + 1) = sm f n + f n := rfl
theorem ct_le (p : Nat → Bool) : ∀ n, ct p n ≤ n
  | 0 => Nat.le_refl _
  | n + 1 => by
    have h := ct_le p n
    rw [ct_s]
    split <;> omega
theorem ct_cong {p q : Nat → Bool} : ∀ {n : Nat}, (∀ k, k < n → p k = q k) → ct p n = ct q n
  | 0, _ => rfl
  | n + 1, h => by rw [ct_s, ct_s, ct_cong (fun k hk => h k (by omega)), h n (by omega)]
theorem sm_cong {f g : Nat → Nat} : ∀ {n : Nat}, (∀ k, k < n → f k = g k) → sm f n = sm g n
  | 0, _ => rfl
  | n + 1, h => by rw [sm_s, sm_s, sm_cong (fun k hk => h k (by omega)), h n (by omega)]
theorem sm_bound {f : Nat → Nat} {c : Nat} : ∀ {n : Nat}, (∀ k, k < n → f k ≤ c) → sm f n ≤ n * c
  | 0, _ => by simp [sm]
  | n + 1, h => by
    have h1 := sm_bound (n := n) (c := c) (fun k hk => h k (by omega))
    have h2 := h n (by omega)
    rw [sm_s, Nat.succ_mul]
    omega
theorem ct_mono (p : Nat → Bool) {m : Nat} : ∀ {n : Nat}, m ≤ n → ct p m ≤ ct p n
  | 0, h => by
    have : m = 0 := by omega
    subst this
    exact Nat.le_refl _
  | n + 1, h => by
    rcases Nat.lt_or_ge m (n + 1) with q | q
    · have h1 := ct_mono p (m := m) (n := n) (by omega)
      rw [ct_s]
      omega
    · have : m = n + 1 := by omega
      subst this
      exact Nat.le_refl _
theorem sm_mono (f : Nat → Nat) {m : Nat} : ∀ {n : Nat}, m ≤ n → sm f m ≤ sm f n
  | 0, h => by
    have : m = 0 := by omega
    subst this
    exact Nat.le_refl _
  | n + 1, h => by
    rcases Nat.lt_or_ge m (n + 1) with q | q
    · have h1 := sm_mono f (m := m) (n := n) (by omega)
      rw [sm_s]
      omega
    · have : m = n + 1 := by omega
      subst this
      exact Nat.le_refl _
def bi (b : Bool) : Int32 := bif b then 1 else 0
theorem bi_t : bi true = 1 := rfl
theorem bi_f : bi false = 0 := rfl
theorem bi_z (b : Bool) : bi b = 0 ↔ b = false := by cases b <;> decide
theorem bi_1 (b : Bool) : bi b = 1 ↔ b = true := by cases b <;> decide
theorem bi_and (b : Bool) : bi b &&& 1 = bi b := by cases b <;> decide
theorem zr_bi {β : Type} (b : Bool) (k : Option β) : zr (bi b) k = k := by unfold zr; rw [if_pos (bi_and b)]
theorem zr_0 {β : Type} (k : Option β) : zr 0 k = k := by unfold zr; rw [if_pos (by decide)]
theorem zr_1 {β : Type} (k : Option β) : zr 1 k = k := by unfold zr; rw [if_pos (by decide)]
theorem bi_if {β : Type} (b : Bool) (x y : β) : (if bi b = 0 then x else y) = (bif b then y else x) := by cases b <;> rfl
theorem bi_some (p : Prop) [Decidable p] : (if p then some (0 : Int32) else some (1 : Int32)) = some (bi (!decide p)) := by
  by_cases h : p <;> simp [h, bi]
theorem bi_some1 (p : Prop) [Decidable p] : (if p then some (1 : Int32) else some (0 : Int32)) = some (bi (decide p)) := by
  by_cases h : p <;> simp [h, bi]
theorem ld_n {β : Type} {f : Nat → Int32} {n i : Nat} {k : Int32 → Option β} (h : i < n) (hn : n < 2 ^ 31) : ld f n (nI i) k = k (f i) := by
  unfold ld
  rw [if_neg (nI_in h hn), nI_clamp (by omega)]
theorem sd_n {β : Type} {n i : Nat} {k : Option β} (h : i < n) (hn : n < 2 ^ 31) : sd n (nI i) k = k := by
  unfold sd
  rw [if_neg (nI_in h hn)]
theorem ld_at {β : Type} {f : Nat → Int32} {n i : Nat} {x : Int32} {k : Int32 → Option β} (hx : x = nI i) (h : i < n) (hn : n < 2 ^ 31) : ld f n x k = k (f i) := by rw [hx, ld_n h hn]
theorem sd_at {β : Type} {n i : Nat} {x : Int32} {k : Option β} (hx : x = nI i) (h : i < n) (hn : n < 2 ^ 31) : sd n x k = k := by rw [hx, sd_n h hn]
theorem bd_s {α β : Type} {v : α} {f : α → Option β} : (some v).bind f = f v := rfl
theorem if_le {β : Type} {a b : Nat} {x y : β} (ha : a < 2 ^ 31) (hb : b < 2 ^ 31) : (if nI a ≤ nI b then x else y) = if a ≤ b then x else y := by
  by_cases h : a ≤ b
  · rw [if_pos h, if_pos ((nI_leI ha hb).mpr h)]
  · rw [if_neg h, if_neg (fun z => h ((nI_leI ha hb).mp z))]
theorem if_lt {β : Type} {a b : Nat} {x y : β} (ha : a < 2 ^ 31) (hb : b < 2 ^ 31) : (if nI a < nI b then x else y) = if a < b then x else y := by
  by_cases h : a < b
  · rw [if_pos h, if_pos ((nI_ltI ha hb).mpr h)]
  · rw [if_neg h, if_neg (fun z => h ((nI_ltI ha hb).mp z))]
theorem if_eq {β : Type} {a b : Nat} {x y : β} (ha : a < 2 ^ 31) (hb : b < 2 ^ 31) : (if nI a = nI b then x else y) = if a = b then x else y := by
  by_cases h : a = b
  · rw [if_pos h, if_pos ((nI_eq ha hb).mpr h)]
  · rw [if_neg h, if_neg (fun z => h ((nI_eq ha hb).mp z))]
theorem nI_m1 {a : Nat} (h : a < 2 ^ 31) : ¬ nI a = -1 := fun z => by
  have h1 := nI_toInt h
  rw [z] at h1
  have h2 : (-1 : Int32).toInt = -1 := by decide
  omega
theorem m1_nI {a : Nat} (h : a < 2 ^ 31) : ¬ (-1 : Int32) = nI a := fun z => nI_m1 h z.symm
theorem nI_neg {a : Nat} (h : a < 2 ^ 31) : ¬ nI a < 0 := nI_pos h
theorem tn_nI {a : Nat} (h : a < 2 ^ 31) : (nI a).toNatClampNeg = a := nI_clamp h
theorem nI_and (a b : Nat) : nI a &&& nI b = nI (a &&& b) := by
  apply Int32.toBitVec_inj.1
  show BitVec.ofNat 32 a &&& BitVec.ofNat 32 b = BitVec.ofNat 32 (a &&& b)
  apply BitVec.eq_of_getLsbD_eq
  intro i hi
  simp [hi]
theorem nI_or (a b : Nat) : nI a ||| nI b = nI (a ||| b) := by
  apply Int32.toBitVec_inj.1
  show BitVec.ofNat 32 a ||| BitVec.ofNat 32 b = BitVec.ofNat 32 (a ||| b)
  apply BitVec.eq_of_getLsbD_eq
  intro i hi
  simp [hi]
theorem i32_and_assoc (a b c : Int32) : a &&& b &&& c = a &&& (b &&& c) := by
  apply Int32.toBitVec_inj.1
  apply BitVec.eq_of_getLsbD_eq
  intro i hi
  simp [Bool.and_assoc]
/-- a with the bits of b taken out, of eight bits -/
def andn (a b : Nat) : Nat := a &&& (255 ^^^ b)
theorem not8 : ∀ b, b < 256 → nI 255 &&& (nI b ^^^ (-1 : Int32)) = nI (255 ^^^ b) := by decide +kernel
theorem and255 : ∀ a, a < 256 → a &&& 255 = a := by decide +kernel
theorem nI_andn {a b : Nat} (ha : a < 256) (hb : b < 256) : nI a &&& (nI b ^^^ (-1 : Int32)) = nI (andn a b) := by
  have h1 : nI a = nI a &&& nI 255 := by rw [nI_and, and255 a ha]
  rw [h1, i32_and_assoc, not8 b hb, nI_and]
  rfl
theorem andn_bit {a b k : Nat} (hk : k < 8) : (andn a b).testBit k = (a.testBit k && !b.testBit k) := by
  have h : ∀ k, k < 8 → Nat.testBit 255 k = true := by decide
  simp [andn, h k hk]
theorem andn_lt {a b n : Nat} (h : a < 2 ^ n) : andn a b < 2 ^ n := Nat.lt_of_le_of_lt Nat.and_le_left h
theorem shl8 : ∀ k, k < 8 → (1 : Int32) <<< (nI k &&& 31) = nI (2 ^ k) := by decide +kernel
theorem shr8 : ∀ m, m < 256 → ∀ k, k < 8 → (nI m >>> (nI k &&& 31)) &&& (1 : Int32) = bi (m.testBit k) := by decide +kernel
theorem pow8 : ∀ k, k < 8 → 2 ^ k < 256 := by decide
theorem lt256 {a n : Nat} (h : a < 2 ^ n) (hn : n ≤ 8) : a < 256 := Nat.lt_of_lt_of_le h (Nat.pow_le_pow_right (by decide) hn)
theorem nI_0i {a : Nat} (h : a < 2 ^ 31) : nI a = 0 ↔ a = 0 := by
  rw [show (0 : Int32) = nI 0 from rfl]
  exact nI_eq h (by decide)
theorem and_pow {m k : Nat} : m &&& 2 ^ k = 0 ↔ m.testBit k = false := by
  constructor
  · intro h
    have h1 : (m &&& 2 ^ k).testBit k = false := by rw [h]; simp
    simpa using h1
  · intro h
    apply Nat.eq_of_testBit_eq
    intro i
    simp only [Nat.testBit_and, Nat.testBit_two_pow, Nat.zero_testBit]
    by_cases e : k = i
    · subst e; simp [h]
    · simp [e]
theorem bit_at {m k : Nat} (hm : m < 256) (hk : k < 8) : (nI m &&& nI (2 ^ k) = 0) ↔ m.testBit k = false := by
  rw [nI_and, nI_0i (Nat.lt_of_le_of_lt Nat.and_le_left (by omega)), and_pow]
theorem bit_if {β : Type} {m k : Nat} {x y : β} (hm : m < 256) (hk : k < 8) : (if nI m &&& nI (2 ^ k) = 0 then x else y) = (bif m.testBit k then y else x) := by
  cases h : m.testBit k with
  | true => rw [if_neg (by rw [bit_at hm hk, h]; decide)]; rfl
  | false => rw [if_pos (by rw [bit_at hm hk, h])]; rfl
/-- how many of the eight bits are set -/
def pc (m : Nat) : Nat := ct (fun k => m.testBit k) 8
theorem bc8 : ∀ m, m < 256 → f_J6_bitCount_0f7a4 (nI m) = some (nI (pc m)) := by decide +kernel
theorem pc_le (m : Nat) : pc m ≤ 8 := ct_le _ _
theorem bitF {k : Nat} (h : k < 8) : f_X8_bit (nI k) = some (nI (2 ^ k)) := by
  unfold f_X8_bit
  rw [if_neg (nI_m1 (by omega)), shl8 k h]
theorem bitM : f_X8_bit (-1) = some 0 := rfl
/-- a node's mask, none for no node -/
def bm (x : Int32) : Nat := if x = -1 then 0 else 2 ^ x.toNatClampNeg
theorem bm_m1 : bm (-1) = 0 := rfl
theorem bm_n {k : Nat} (h : k < 2 ^ 31) : bm (nI k) = 2 ^ k := by unfold bm; rw [if_neg (nI_m1 h), nI_clamp h]
theorem bit_any {x : Int32} {N : Nat} (hN : N ≤ 8) (h : x = -1 ∨ ∃ k, k < N ∧ x = nI k) : f_X8_bit x = some (nI (bm x)) ∧ bm x < 2 ^ N := by
  rcases h with rfl | ⟨k, hk, rfl⟩
  · exact ⟨rfl, by rw [bm_m1]; exact Nat.two_pow_pos N⟩
  · rw [bitF (by omega), bm_n (by omega)]
    exact ⟨rfl, Nat.pow_lt_pow_right (by decide) hk⟩
theorem FU_gt {k : Nat} (h : k ≤ 4000) : k < FU := by unfold FU; omega
/-- keys and other numbers that are never negative -/
def tn (x : Int32) : Nat := x.toNatClampNeg
