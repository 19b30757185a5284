/-! numbers: the common divisor on both sides; fractions in lowest terms -/
def fp : Nat → Nat × Nat
  | 0 => (1, 1)
  | n + 1 => ((fp n).2, (fp n).1 + (fp n).2)
theorem fp_big : 2 ^ 63 ≤ (fp 92).1 := by decide +kernel
/-- Euclid's rounds: with a lesser number under the n-th of these, n rounds are enough -/
theorem cdiv_go {Q : Int64 → Mem → Prop} {σ : Mem} : ∀ (n r a b : Nat), a < 2 ^ 63 → b < 2 ^ 63 → b < (fp n).1 → r + n ≤ 100 → (0 < Nat.gcd a b → Q (lN (Nat.gcd a b)) σ) → (Nat.gcd a b = 0 → Q 1 σ) → wp_C_commonDivisor_9 Q (n + 1) (lN a) (lN b) (nI r) σ := by
  have hend : ∀ a : Nat, a < 2 ^ 63 → (0 < a → Q (lN a) σ) → (a = 0 → Q 1 σ) → wp_C_commonDivisor_44 Q (lN a) σ := fun a ha h1 h2 => by
    refine ⟨fun h => ?_, fun h => ?_⟩
    · rw [lg_cmp_eq, show (0 : Int64) = lN 0 by decide, pk_lEQ ha (by decide)] at h
      exact h2 h
    · rw [lg_cmp_eq, show (0 : Int64) = lN 0 by decide, pk_lEQ ha (by decide)] at h
      exact h1 (by omega)
  -- one round
  have step : ∀ (m r a b : Nat), a < 2 ^ 63 → b < 2 ^ 63 → r < 100 → (b = 0 → wp_C_commonDivisor_44 Q (lN a) σ) → (0 < b → wp_C_commonDivisor_9 Q m (lN b) (lN (a % b)) (nI (r + 1)) σ) → wp_C_commonDivisor_9 Q (m + 1) (lN a) (lN b) (nI r) σ := fun m r a b ha hb hr h0 h1 => by
    refine ⟨fun h => absurd h (nI_ge (b := 100) hr (by decide)), fun _ => ⟨fun h => ?_, fun h => ?_⟩⟩
    · rw [lg_cmp_eq, show (0 : Int64) = lN 0 by decide, pk_lEQ hb (by decide)] at h
      exact h0 h
    · rw [lg_cmp_eq, show (0 : Int64) = lN 0 by decide, pk_lEQ hb (by decide)] at h
      refine ⟨fun h' => h ((pk_lEQ hb (by decide)).mp (h'.trans (by decide))), fun v1 e1 v2 e2 => ?_⟩
      rw [pk_lRem ha (by omega) hb] at e1
      rw [nI_1] at e2
      subst e1
      subst e2
      exact h1 (by omega)
  have stop : ∀ (m r a b : Nat), a < 2 ^ 63 → b = 0 → r ≤ 100 → (0 < Nat.gcd a b → Q (lN (Nat.gcd a b)) σ) → (Nat.gcd a b = 0 → Q 1 σ) → wp_C_commonDivisor_9 Q (m + 1) (lN a) (lN b) (nI r) σ := fun m r a b ha hb hr h1 h2 => by
    subst hb
    rw [Nat.gcd_zero_right] at h1 h2
    refine ⟨fun _ => hend a ha h1 h2, fun _ => ⟨fun _ => hend a ha h1 h2, fun h => absurd ((lg_cmp_eq _ _).mpr (by decide)) h⟩⟩
  intro n
  induction n using Nat.strongRecOn with
  | _ n ih =>
    intro r a b ha hb hF hr h1 h2
    by_cases hb0 : b = 0
    · exact stop n r a b ha hb0 (by omega) h1 h2
    match n, ih, hF, hr with
    | 0, _, hF, _ => exact absurd hF (by simp [fp]; omega)
    | 1, _, hF, _ => exact absurd hF (by simp [fp]; omega)
    | n + 2, ih, hF, hr =>
      have hlt : a % b < b := Nat.mod_lt _ (by omega)
      have hg : Nat.gcd b (a % b) = Nat.gcd a b := by rw [Nat.gcd_comm a b, Nat.gcd_rec b a, Nat.gcd_comm]
      refine step (n + 2) r a b ha hb (by omega) (fun h => absurd h hb0) (fun _ => ?_)
      by_cases hc : a % b < (fp (n + 1)).1
      · exact ih (n + 1) (by omega) (r + 1) b (a % b) hb (by omega) hc (by omega) (by rw [hg]; exact h1) (by rw [hg]; exact h2)
      · by_cases hr0 : a % b = 0
        · exact stop (n + 1) (r + 1) b (a % b) hb hr0 (by omega) (by rw [hg]; exact h1) (by rw [hg]; exact h2)
        have hlt2 : b % (a % b) < a % b := Nat.mod_lt _ (by omega)
        have hle : b % (a % b) + a % b ≤ b := by
          have h3 := Nat.div_add_mod b (a % b)
          have h4 : 1 ≤ b / (a % b) := Nat.div_pos (by omega) (by omega)
          have h5 : a % b ≤ (a % b) * (b / (a % b)) := Nat.le_mul_of_pos_right _ h4
          omega
        have hF2 : (fp (n + 2)).1 = (fp n).1 + (fp (n + 1)).1 := rfl
        have hg2 : Nat.gcd (a % b) (b % (a % b)) = Nat.gcd a b := by rw [← hg, Nat.gcd_comm b (a % b), Nat.gcd_rec (a % b) b, Nat.gcd_comm]
        refine step (n + 1) (r + 1) b (a % b) hb (by omega) (by omega) (fun h => absurd h hr0) (fun _ => ?_)
        exact ih n (by omega) (r + 1 + 1) (a % b) (b % (a % b)) (by omega) (by omega) (by omega) (by omega) (by rw [hg2]; exact h1) (by rw [hg2]; exact h2)
theorem cdiv_spec {Q : Int64 → Mem → Prop} {σ : Mem} {a b : Nat} (ha : a < 2 ^ 63) (hb : b < 2 ^ 63) (hg : 0 < Nat.gcd a b) (h : Q (lN (Nat.gcd a b)) σ) : wp_C_commonDivisor Q (lN a) (lN b) σ :=
  ⟨93, by rw [nI_0']; exact cdiv_go 92 0 a b ha hb (Nat.lt_of_lt_of_le hb fp_big) (by omega) (fun _ => h) (fun h0 => absurd h0 (by omega))⟩
theorem common_go {Q : Int64 → Mem → Prop} {τ : Mem} : ∀ (n a b : Nat), b < n → a < 2 ^ 63 → b < 2 ^ 63 → Q (lN (Nat.gcd a b)) τ → ∃ k, wp_M_common_6 Q k (lN a) (lN b) τ := by
  intro n
  induction n with
  | zero => intro a b h; exact absurd h (by omega)
  | succ n ih =>
    intro a b hn ha hb h
    by_cases hb0 : b = 0
    · subst hb0
      rw [Nat.gcd_zero_right] at h
      exact ⟨1, fun _ => h, fun h' => absurd ((lg_cmp_eq _ _).mpr (by decide)) h'⟩
    · have hlt : a % b < b := Nat.mod_lt _ (by omega)
      have hg : Nat.gcd b (a % b) = Nat.gcd a b := by rw [Nat.gcd_comm a b, Nat.gcd_rec b a, Nat.gcd_comm]
      obtain ⟨k, hk⟩ := ih b (a % b) (by omega) hb (by omega) (by rw [hg]; exact h)
      refine ⟨k + 1, fun h' => ?_, fun h' => ⟨fun h2 => hb0 ((pk_lEQ hb (by decide)).mp (h2.trans (by decide))), fun v1 e1 => ?_⟩⟩
      · rw [lg_cmp_eq, show (0 : Int64) = lN 0 by decide, pk_lEQ hb (by decide)] at h'
        exact absurd h' hb0
      · rw [pk_lRem ha (by omega) hb] at e1
        subst e1
        exact hk
theorem common_spec {Q : Int64 → Mem → Prop} {τ : Mem} {a b : Nat} (ha : a < 2 ^ 63) (hb : b < 2 ^ 63) (h : Q (lN (Nat.gcd a b)) τ) : wp_M_common Q (lN a) (lN b) τ := common_go (b + 1) a b (by omega) ha hb h
/-- lowest terms -/
def cu (a d : Nat) : Nat := a / Nat.gcd a d
def cv (a d : Nat) : Nat := d / Nat.gcd a d
theorem cuv_g {a d : Nat} (hd : 0 < d) : 0 < Nat.gcd a d := Nat.gcd_pos_of_pos_right _ hd
theorem cu_mul {a d : Nat} : cu a d * Nat.gcd a d = a := Nat.div_mul_cancel (Nat.gcd_dvd_left _ _)
theorem cv_mul {a d : Nat} : cv a d * Nat.gcd a d = d := Nat.div_mul_cancel (Nat.gcd_dvd_right _ _)
theorem cv_pos {a d : Nat} (hd : 0 < d) : 0 < cv a d := Nat.div_pos (Nat.le_of_dvd hd (Nat.gcd_dvd_right _ _)) (cuv_g hd)
theorem cu_le {a d : Nat} : cu a d ≤ a := Nat.div_le_self _ _
theorem cv_le {a d : Nat} : cv a d ≤ d := Nat.div_le_self _ _
theorem cv_dvd {a d : Nat} : cv a d ∣ d := ⟨Nat.gcd a d, cv_mul.symm⟩
theorem cuv_x {a d : Nat} : a * cv a d = cu a d * d := by
  have h1 := @cu_mul a d
  have h2 := @cv_mul a d
  calc a * cv a d = cu a d * Nat.gcd a d * cv a d := by rw [h1]
    _ = cu a d * (cv a d * Nat.gcd a d) := by rw [Nat.mul_assoc, Nat.mul_comm (Nat.gcd a d)]
    _ = cu a d * d := by rw [h2]
theorem cuv_cop {a d : Nat} (hd : 0 < d) : Nat.gcd (cu a d) (cv a d) = 1 := by
  have := Nat.gcd_div (Nat.gcd_dvd_left a d) (Nat.gcd_dvd_right a d)
  unfold cu cv
  rw [this, Nat.div_self (cuv_g hd)]
theorem canon_eq {u v a d : Nat} (hv : 0 < v) (hd : 0 < d) (h : u * d = a * v) : cu u v = cu a d ∧ cv u v = cv a d := by
  have h1 : cu u v * cv a d = cu a d * cv u v := by
    have g1 := cuv_g (a := u) hv
    have g2 := cuv_g (a := a) hd
    apply Nat.eq_of_mul_eq_mul_right (Nat.mul_pos g1 g2)
    calc cu u v * cv a d * (Nat.gcd u v * Nat.gcd a d) = (cu u v * Nat.gcd u v) * (cv a d * Nat.gcd a d) := by
          rw [Nat.mul_assoc, Nat.mul_assoc, Nat.mul_left_comm (cv a d)]
      _ = u * d := by rw [cu_mul, cv_mul]
      _ = a * v := h
      _ = (cu a d * Nat.gcd a d) * (cv u v * Nat.gcd u v) := by rw [cu_mul, cv_mul]
      _ = cu a d * cv u v * (Nat.gcd u v * Nat.gcd a d) := by
          rw [Nat.mul_assoc, Nat.mul_assoc, Nat.mul_left_comm (Nat.gcd a d), Nat.mul_comm (Nat.gcd a d)]
  have d1 : cv u v ∣ cv a d := by
    have : cv u v ∣ cu u v * cv a d := ⟨cu a d, by rw [h1, Nat.mul_comm]⟩
    have hc : Nat.Coprime (cv u v) (cu u v) := by
      show Nat.gcd _ _ = 1
      rw [Nat.gcd_comm]
      exact cuv_cop hv
    exact hc.dvd_of_dvd_mul_left this
  have d2 : cv a d ∣ cv u v := by
    have : cv a d ∣ cu a d * cv u v := ⟨cu u v, by rw [← h1, Nat.mul_comm]⟩
    have hc : Nat.Coprime (cv a d) (cu a d) := by
      show Nat.gcd _ _ = 1
      rw [Nat.gcd_comm]
      exact cuv_cop hd
    exact hc.dvd_of_dvd_mul_left this
  have e := Nat.dvd_antisymm d1 d2
  refine ⟨?_, e⟩
  rw [← e] at h1
  exact Nat.eq_of_mul_eq_mul_right (cv_pos hv) h1
theorem lcm_k {a b d : Nat} (hd : 0 < d) : ∃ k, 0 < k ∧ cu a d * (cv b d / Nat.gcd (cv a d) (cv b d)) * k = a ∧ cu b d * (cv a d / Nat.gcd (cv a d) (cv b d)) * k = b ∧ cv a d * (cv b d / Nat.gcd (cv a d) (cv b d)) * k = d ∧ cv b d * (cv a d / Nat.gcd (cv a d) (cv b d)) * k = d := by
  have pa := cv_pos (a := a) hd
  have pb := cv_pos (a := b) hd
  have e1 : cv a d * (cv b d / Nat.gcd (cv a d) (cv b d)) = Nat.lcm (cv a d) (cv b d) := (Nat.mul_div_assoc _ (Nat.gcd_dvd_right _ _)).symm
  have e2 : cv b d * (cv a d / Nat.gcd (cv a d) (cv b d)) = Nat.lcm (cv a d) (cv b d) := by
    rw [← Nat.mul_div_assoc _ (Nat.gcd_dvd_left _ _), Nat.mul_comm]
    rfl
  obtain ⟨k, hk⟩ := Nat.lcm_dvd (cv_dvd (a := a) (d := d)) (cv_dvd (a := b) (d := d))
  have kp : 0 < k := by
    rcases Nat.eq_zero_or_pos k with h | h
    · rw [h, Nat.mul_zero] at hk
      omega
    · exact h
  have h1 : cv a d * (cv b d / Nat.gcd (cv a d) (cv b d)) * k = d := by rw [e1]; exact hk.symm
  have h2 : cv b d * (cv a d / Nat.gcd (cv a d) (cv b d)) * k = d := by rw [e2]; exact hk.symm
  refine ⟨k, kp, ?_, ?_, h1, h2⟩
  · apply Nat.eq_of_mul_eq_mul_right pa
    calc cu a d * (cv b d / Nat.gcd (cv a d) (cv b d)) * k * cv a d = cu a d * (cv a d * (cv b d / Nat.gcd (cv a d) (cv b d)) * k) := by
          rw [Nat.mul_assoc, Nat.mul_assoc, Nat.mul_assoc, Nat.mul_comm k, ← Nat.mul_assoc (cv b d / _), Nat.mul_comm (cv b d / _), Nat.mul_assoc (cv a d)]
      _ = cu a d * d := by rw [h1]
      _ = a * cv a d := cuv_x.symm
  · apply Nat.eq_of_mul_eq_mul_right pb
    calc cu b d * (cv a d / Nat.gcd (cv a d) (cv b d)) * k * cv b d = cu b d * (cv b d * (cv a d / Nat.gcd (cv a d) (cv b d)) * k) := by
          rw [Nat.mul_assoc, Nat.mul_assoc, Nat.mul_assoc, Nat.mul_comm k, ← Nat.mul_assoc (cv a d / _), Nat.mul_comm (cv a d / _), Nat.mul_assoc (cv b d)]
      _ = cu b d * d := by rw [h2]
      _ = b * cv b d := cuv_x.symm
theorem lN_ne {n : Nat} (h : 0 < n) (h2 : n < 2 ^ 63) : ¬ lN n = 0 := fun e => by
  have := (pk_lEQ h2 (by decide)).mp (e.trans (show (0 : Int64) = lN 0 by decide))
  omega
theorem frLen_lt {o : Nat} : frLen o < 2 ^ 31 := by
  unfold frLen
  split <;> decide
theorem put_spec {Q : Mem → Prop} {o i u v : Nat} {σ : Mem} (hi : i < frLen o) (hu : u < 2 ^ 63) (hv0 : 0 < v) (hv : v < 2 ^ 63) (h : Q (mL (mL σ (o + 1) i (lN (cu u v))) (o + 2) i (lN (cv u v)))) : wp_F_put Q o (nI i) (lN u) (lN v) σ := by
  have hg := cuv_g (a := u) hv0
  have hg63 : Nat.gcd u v < 2 ^ 63 := Nat.lt_of_le_of_lt (Nat.le_of_dvd hv0 (Nat.gcd_dvd_right _ _)) hv
  have hi31 : i < 2 ^ 31 := Nat.lt_trans hi frLen_lt
  refine cdiv_spec hu hv hg ⟨lN_ne hg hg63, vp_in_nI hi frLen_lt, fun σ1 e1 => ⟨lN_ne hg hg63, vp_in_nI hi frLen_lt, fun σ2 e2 => ?_⟩⟩
  rw [nI_clamp hi31, pk_lDiv hu hg hg63] at e1
  rw [nI_clamp hi31, pk_lDiv hv hg hg63] at e2
  subst e1
  subst e2
  exact h
/-- at its place, the fraction a / d in lowest terms -/
def isF (σ : Mem) (o i a d : Nat) : Prop := σ.2 (o + 1) i = lN (cu a d) ∧ σ.2 (o + 2) i = lN (cv a d)
theorem put_isF {σ : Mem} {o i a d : Nat} : isF (mL (mL σ (o + 1) i (lN (cu a d))) (o + 2) i (lN (cv a d))) o i a d := by
  constructor
  · rw [mL_at, if_neg (by omega), mL_at, if_pos ⟨rfl, rfl⟩]
  · rw [mL_at, if_pos ⟨rfl, rfl⟩]
theorem cmp_spec {Q : Int32 → Mem → Prop} {o i a b d : Nat} {y2 y4 : Int64} {σ : Mem} (hi : i < frLen o) (ha : a < 2 ^ 63) (hb : b < 2 ^ 63) (hd0 : 0 < d) (hd : d < 2 ^ 63) (hF : isF σ o i a d) (e2 : y2 = lN (cu b d)) (e4 : y4 = lN (cv b d)) (h : ∀ r : Int32, (r = 0 ↔ a = b) → (r ≤ 0 ↔ a ≤ b) → Q r σ) : wp_F_compare Q o (nI i) y2 y4 σ := by
  subst e2
  subst e4
  have hi31 : i < 2 ^ 31 := Nat.lt_trans hi frLen_lt
  have pa := cv_pos (a := a) hd0
  have pb := cv_pos (a := b) hd0
  have la : cv a d < 2 ^ 63 := Nat.lt_of_le_of_lt cv_le hd
  have lb : cv b d < 2 ^ 63 := Nat.lt_of_le_of_lt cv_le hd
  have hg : 0 < Nat.gcd (cv a d) (cv b d) := Nat.gcd_pos_of_pos_left _ pa
  have hg63 : Nat.gcd (cv a d) (cv b d) < 2 ^ 63 := Nat.lt_of_le_of_lt (Nat.le_of_dvd pa (Nat.gcd_dvd_left _ _)) la
  obtain ⟨k, kp, k1, k2, -, -⟩ := lcm_k (a := a) (b := b) hd0
  refine ⟨vp_in_nI hi frLen_lt, ?_⟩
  rw [nI_clamp hi31, hF.2]
  refine cdiv_spec la lb hg ⟨vp_in_nI hi frLen_lt, lN_ne hg hg63, vp_in_nI hi frLen_lt, lN_ne hg hg63, ?_⟩
  rw [hF.1, hF.2, pk_lDiv la hg hg63, pk_lDiv lb hg hg63, lN_mul, lN_mul]
  generalize hx : cu a d * (cv b d / Nat.gcd (cv a d) (cv b d)) = x at k1
  generalize hy : cu b d * (cv a d / Nat.gcd (cv a d) (cv b d)) = y at k2
  have hxl : x < 2 ^ 63 := Nat.lt_of_le_of_lt (by rw [← k1]; exact Nat.le_mul_of_pos_right _ kp) ha
  have hyl : y < 2 ^ 63 := Nat.lt_of_le_of_lt (by rw [← k2]; exact Nat.le_mul_of_pos_right _ kp) hb
  have heq : x = y ↔ a = b := by
    rw [← k1, ← k2]
    exact ⟨fun h => by rw [h], fun h => Nat.eq_of_mul_eq_mul_right kp h⟩
  have hle : x ≤ y ↔ a ≤ b := by
    rw [← k1, ← k2]
    exact ⟨fun h => Nat.mul_le_mul_right _ h, fun h => Nat.le_of_mul_le_mul_right h kp⟩
  refine ⟨fun h1 => ⟨fun h2 => ?_, fun h2 => ?_⟩, fun h1 => ?_⟩
  · rw [lg_cmp_eq, pk_lEQ hxl hyl] at h2
    have := heq.mp h2
    exact h 0 (by simp [this]) (by simp [this])
  · rw [lg_cmp_eq, pk_lEQ hxl hyl] at h2
    rw [lg_cmp_ge, pk_lLE hyl hxl] at h1
    have n1 : ¬ a ≤ b := fun q => h2 (by have := hle.mpr q; omega)
    exact h 1 ⟨fun q => absurd q (by decide), fun q => absurd (Nat.le_of_eq q) n1⟩ ⟨fun q => absurd q (by decide), fun q => absurd q n1⟩
  · rw [lg_cmp_ge, pk_lLE hyl hxl] at h1
    have n1 : a ≤ b := hle.mp (by omega)
    have n2 : ¬ a = b := fun q => h1 (by rw [heq.mpr q]; exact Nat.le_refl _)
    exact h (-1) ⟨fun q => absurd q (by decide), fun q => absurd q n2⟩ ⟨fun _ => n1, fun _ => by decide⟩
theorem add_spec {Q : Mem → Prop} {o i a w c d : Nat} {y2 y4 : Int64} {σ : Mem} (hi : i < frLen o) (hs : a + c * w < 2 ^ 63) (hd0 : 0 < d) (hd : d < 2 ^ 63) (hF : isF σ o i a d) (e2 : y2 = lN (c * cu w d)) (e4 : y4 = lN (cv w d)) (h : Q (mL (mL σ (o + 1) i (lN (cu (a + c * w) d))) (o + 2) i (lN (cv (a + c * w) d)))) : wp_F_add Q o (nI i) y2 y4 σ := by
  subst e2
  subst e4
  have hi31 : i < 2 ^ 31 := Nat.lt_trans hi frLen_lt
  have pa := cv_pos (a := a) hd0
  have pb := cv_pos (a := w) hd0
  have la : cv a d < 2 ^ 63 := Nat.lt_of_le_of_lt cv_le hd
  have lb : cv w d < 2 ^ 63 := Nat.lt_of_le_of_lt cv_le hd
  have hg : 0 < Nat.gcd (cv a d) (cv w d) := Nat.gcd_pos_of_pos_left _ pa
  have hg63 : Nat.gcd (cv a d) (cv w d) < 2 ^ 63 := Nat.lt_of_le_of_lt (Nat.le_of_dvd pa (Nat.gcd_dvd_left _ _)) la
  obtain ⟨k, kp, k1, k2, -, k4⟩ := lcm_k (a := a) (b := w) hd0
  refine ⟨vp_in_nI hi frLen_lt, ?_⟩
  rw [nI_clamp hi31, hF.2]
  refine cdiv_spec la lb hg ⟨vp_in_nI hi frLen_lt, lN_ne hg hg63, fun v1 e1 => ⟨vp_in_nI hi frLen_lt, lN_ne hg hg63, ?_⟩⟩
  rw [hF.2, pk_lDiv la hg hg63] at e1
  subst e1
  rw [hF.1, pk_lDiv lb hg hg63, lN_mul, lN_mul, lN_mul, lN_add]
  have hN : (cu a d * (cv w d / Nat.gcd (cv a d) (cv w d)) + c * cu w d * (cv a d / Nat.gcd (cv a d) (cv w d))) * k = a + c * w := by
    rw [Nat.add_mul, k1, Nat.mul_assoc c, Nat.mul_assoc c, k2]
  generalize hn : cu a d * (cv w d / Nat.gcd (cv a d) (cv w d)) + c * cu w d * (cv a d / Nat.gcd (cv a d) (cv w d)) = n at hN
  generalize hl : cv w d * (cv a d / Nat.gcd (cv a d) (cv w d)) = l at k4
  have lp : 0 < l := by
    rcases Nat.eq_zero_or_pos l with q | q
    · rw [q, Nat.zero_mul] at k4
      omega
    · exact q
  have hnl : n < 2 ^ 63 := Nat.lt_of_le_of_lt (by rw [← hN]; exact Nat.le_mul_of_pos_right _ kp) hs
  have hll : l < 2 ^ 63 := Nat.lt_of_le_of_lt (by rw [← k4]; exact Nat.le_mul_of_pos_right _ kp) hd
  obtain ⟨c1, c2⟩ := canon_eq (u := n) (v := l) (a := a + c * w) (d := d) lp hd0 (by rw [← hN, ← k4, Nat.mul_comm l, ← Nat.mul_assoc])
  refine put_spec hi hnl lp hll ?_
  rw [c1, c2]
  exact h
theorem mul_spec {Q : Mem → Prop} {o i w d tu tl a' d' : Nat} {σ : Mem} (hi : i < frLen o) (hu : cu w d * tu < 2 ^ 63) (htl : 0 < tl) (hd0 : 0 < d) (hl : cv w d * tl < 2 ^ 63) (hd' : 0 < d') (he : w * tu * d' = a' * (d * tl)) (hF : isF σ o i w d) (h : Q (mL (mL σ (o + 1) i (lN (cu a' d'))) (o + 2) i (lN (cv a' d')))) : wp_F_multiply Q o (nI i) (lN tu) (lN tl) σ := by
  have hi31 : i < 2 ^ 31 := Nat.lt_trans hi frLen_lt
  refine ⟨vp_in_nI hi frLen_lt, vp_in_nI hi frLen_lt, ?_⟩
  rw [nI_clamp hi31, hF.1, hF.2, lN_mul, lN_mul]
  have lp : 0 < cv w d * tl := Nat.mul_pos (cv_pos hd0) htl
  have hg := cuv_g (a := w) hd0
  obtain ⟨c1, c2⟩ := canon_eq (u := cu w d * tu) (v := cv w d * tl) (a := a') (d := d') lp hd' (by
    apply Nat.eq_of_mul_eq_mul_right hg
    calc cu w d * tu * d' * Nat.gcd w d = (cu w d * Nat.gcd w d) * tu * d' := by
          rw [Nat.mul_right_comm (cu w d) (Nat.gcd w d) tu, Nat.mul_right_comm (cu w d * tu) (Nat.gcd w d) d']
      _ = w * tu * d' := by rw [cu_mul]
      _ = a' * (d * tl) := he
      _ = a' * (cv w d * Nat.gcd w d * tl) := by rw [cv_mul]
      _ = a' * (cv w d * tl) * Nat.gcd w d := by rw [Nat.mul_right_comm (cv w d), Nat.mul_assoc a'])
  refine put_spec hi hu lp hl ?_
  rw [c1, c2]
  exact h
