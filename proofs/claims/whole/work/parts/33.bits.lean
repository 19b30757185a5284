/-! of kit/laws/BITS.to-paste: the rows on shifts and masks -/
theorem nx_and (a b : Nat) : nI a &&& nI b = nI (a &&& b) := by
  apply Int32.toBitVec_inj.1
  show BitVec.ofNat 32 a &&& BitVec.ofNat 32 b = BitVec.ofNat 32 (a &&& b)
  apply BitVec.eq_of_getLsbD_eq
  intro i hi
  simp [hi]
theorem wb_tb (n : Nat) : (lN n).toBitVec = BitVec.ofNat 64 n := rfl
theorem wb_inj {a b : Int64} (h : a.toBitVec = b.toBitVec) : a = b := Int64.toBitVec_inj.mp h
theorem wb_tn {n : Nat} (h : n < 2 ^ 64) : (lN n).toBitVec.toNat = n := by rw [wb_tb, BitVec.toNat_ofNat, Nat.mod_eq_of_lt h]
theorem wb_of (x : Int64) : ∃ n, n < 2 ^ 64 ∧ x = lN n := ⟨x.toBitVec.toNat, x.toBitVec.isLt, wb_inj (by rw [wb_tb]; simp)⟩
theorem wb_c : ∀ k, k < 64 → ((nI k).toInt64 &&& 63) = lN k := by decide +kernel
theorem wb_cu : ∀ k, k < 64 → ((nI k).toInt64.toUInt64 &&& Int64.toUInt64 63) = UInt64.ofNat k := by decide +kernel
theorem wb_sm : ∀ k, k < 64 → (BitVec.ofNat 64 k).smod 64 = BitVec.ofNat 64 k := by decide +kernel
theorem wb_pw {a b : Nat} (h : a ≤ b) : 2 ^ b = 2 ^ a * 2 ^ (b - a) := by rw [← Nat.pow_add]; congr 1; omega
theorem wb_lt2 {a b : Nat} (h : a < b) : 2 ^ a < 2 ^ b := Nat.pow_lt_pow_right (by decide) h
theorem wb_mod (n : Nat) : lN n = lN (n % 2 ^ 64) := wb_inj (by rw [wb_tb, wb_tb]; apply BitVec.eq_of_toNat_eq; rw [BitVec.toNat_ofNat, BitVec.toNat_ofNat, Nat.mod_mod])
theorem wb_shr {n k : Nat} (hn : n < 2 ^ 64) (hk : k < 64) : ((lN n).toUInt64 >>> ((nI k).toInt64.toUInt64 &&& Int64.toUInt64 63)).toInt64 = lN (n / 2 ^ k) := by
  rw [wb_cu k hk]
  apply wb_inj
  apply BitVec.eq_of_toNat_eq
  show ((lN n).toUInt64 >>> UInt64.ofNat k).toNat = (BitVec.ofNat 64 _).toNat
  have h1 : (UInt64.ofNat k).toNat = k := by
    show (BitVec.ofNat 64 k).toNat = k
    rw [BitVec.toNat_ofNat, Nat.mod_eq_of_lt (by omega)]
  have h2 : (lN n).toUInt64.toNat = n := wb_tn hn
  rw [UInt64.toNat_shiftRight, h1, h2, Nat.mod_eq_of_lt hk, Nat.shiftRight_eq_div_pow, BitVec.toNat_ofNat, Nat.mod_eq_of_lt (Nat.lt_of_le_of_lt (Nat.div_le_self _ _) hn)]
theorem wb_and {a b : Nat} (ha : a < 2 ^ 64) (hb : b < 2 ^ 64) : lN a &&& lN b = lN (a &&& b) := by
  apply wb_inj
  rw [Int64.toBitVec_and, wb_tb, wb_tb, wb_tb]
  apply BitVec.eq_of_toNat_eq
  rw [BitVec.toNat_and, BitVec.toNat_ofNat, BitVec.toNat_ofNat, BitVec.toNat_ofNat, Nat.mod_eq_of_lt ha, Nat.mod_eq_of_lt hb, Nat.mod_eq_of_lt (Nat.and_lt_two_pow _ hb)]
theorem wb_mask {n k : Nat} (hn : n < 2 ^ 64) (hk : k < 64) : lN n &&& lN (2 ^ k - 1) = lN (n % 2 ^ k) := by
  rw [wb_and hn (by have := wb_lt2 hk; omega), Nat.and_two_pow_sub_one_eq_mod]
/-- the j-th rank's four bits -/
def nb (m j : Nat) : Nat := m / 2 ^ (4 * j) % 16
theorem nb_lt (m j : Nat) : nb m j < 16 := Nat.mod_lt _ (by decide)
theorem nib_spec {m j : Nat} {x : Int32} (hm : m < 2 ^ 64) (hj : j < 16) (hx : x = nI (4 * j)) : Int64.toInt32 ((((Int64.toUInt64 (lN m) >>> (Int64.toUInt64 (Int32.toInt64 x) &&& Int64.toUInt64 63)).toInt64)) &&& (15 : Int64)) = nI (nb m j) := by
  subst hx
  rw [wb_shr hm (by omega), show (15 : Int64) = lN (2 ^ 4 - 1) by decide, wb_mask (Nat.lt_of_le_of_lt (Nat.div_le_self _ _) hm) (by omega), lN_i]
  rfl
theorem cat_spec {Q : Int32 → Mem → Prop} {m j : Nat} {σ : Mem} (hm : m < 2 ^ 64) (hj : j < 16) (h : Q (nI (nb m j) - 1) σ) : wp_C_candidateAt Q (lN m) (nI j) σ := by
  unfold wp_C_candidateAt
  rw [nib_spec hm hj (show nI j * (4 : Int32) = nI (4 * j) by rw [show (4 : Int32) = nI 4 by decide, pk_mul, Nat.mul_comm])]
  exact h
theorem rank_spec {Q : Int32 → Mem → Prop} {m j : Nat} {τ : Mem} (hm : m < 2 ^ 64) (hj : j < 16) (h : Q (nI (nb m j) - 1) τ) : wp_M_rank Q (lN m) (nI j) τ := by
  unfold wp_M_rank
  rw [nib_spec hm hj (show (4 : Int32) * nI j = nI (4 * j) by rw [show (4 : Int32) = nI 4 by decide, pk_mul])]
  exact h
theorem nI_m1 {v : Nat} (h : 0 < v) : nI v - 1 = nI (v - 1) := by
  obtain ⟨w, rfl⟩ : ∃ w, v = w + 1 := ⟨v - 1, by omega⟩
  exact nI_pred w
theorem nI_z1 : nI 0 - 1 = -1 := by decide
/-- a row that ranks L of n candidates, each once -/
def gRow (n m L : Nat) : Prop := 1 ≤ L ∧ L ≤ 7 ∧ (∀ j, j < L → 1 ≤ nb m j ∧ nb m j ≤ n) ∧ nb m L = 0 ∧ ∀ i j, i < j → j < L → nb m i ≠ nb m j
