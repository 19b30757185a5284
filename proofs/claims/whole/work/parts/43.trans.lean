/-! a stage, in whole numbers: a surplus, an exclusion, lessening -/
def wbn (n c : Nat) (st : Nat → Int) (rw' ln wb : Nat → Nat) : Nat → Nat := fun b => if wb b = c then fc n st (rw' b) (ln b) else wb b
def pln (c : Nat) (st : Nat → Int) (rw' ln wb pl : Nat → Nat) : Nat → Nat := fun b => if wb b = c then fx st (rw' b) (ln b) else pl b
section TR
variable {n k el ex : Nat} {dr : Nat → Nat} {st : Nat → Int} {B : Nat} {ct rw' ln bo : Nat → Nat} {P s : Nat} {wb pl vb : Nat → Nat} {de : Nat} {ke : Nat → Bool} {c : Nat}
theorem cs_go {g : Nat → Nat} {d : Nat} (hd : d ≠ c) : cs (wbn n c st rw' ln wb) g B d = sm (fun b => if decide (wb b = c) = true ∧ fc n st (rw' b) (ln b) = d then g b else 0) B + cs wb g B d := by
  unfold cs
  rw [← sm_add]
  refine sm_congr (fun b _ => ?_)
  show (if (if wb b = c then fc n st (rw' b) (ln b) else wb b) = d then g b else 0) = (if decide (wb b = c) = true ∧ fc n st (rw' b) (ln b) = d then g b else 0) + (if wb b = d then g b else 0)
  by_cases e : wb b = c
  · rw [if_pos e, if_neg (show ¬ wb b = d by omega), Nat.add_zero]
    by_cases z : fc n st (rw' b) (ln b) = d
    · rw [if_pos z, if_pos ⟨decide_eq_true e, z⟩]
    · rw [if_neg z, if_neg (fun w => z w.2)]
  · rw [if_neg e, if_neg (show ¬ (decide (wb b = c) = true ∧ fc n st (rw' b) (ln b) = d) from fun w => e (of_decide_eq_true w.1)), Nat.zero_add]
theorem fc_ne {m L d : Nat} (hd : d < n) (h : st d ≠ 0) : fc n st m L ≠ d := fun e => h (by
  rw [← e]
  exact fc_cont (by rw [e]; exact hd))
theorem cs_c0 {g : Nat → Nat} (hc : c < n) (h : st c ≠ 0) : cs (wbn n c st rw' ln wb) g B c = 0 := by
  unfold cs
  refine sm_zero (fun b _ => if_neg (fun w => ?_))
  have w : (if wb b = c then fc n st (rw' b) (ln b) else wb b) = c := w
  by_cases e : wb b = c
  · rw [if_pos e] at w
    exact fc_ne hc h w
  · rw [if_neg e] at w
    exact e w
theorem sm_c0 {g : Nat → Nat} {d : Nat} (hd : d < n) (h : st d ≠ 0) : sm (fun b => if decide (wb b = c) = true ∧ fc n st (rw' b) (ln b) = d then g b else 0) B = 0 := sm_zero (fun b _ => if_neg (fun w => fc_ne hd h w.2))
/-- what the class adds up is the new total -/
theorem T_go {ke' : Nat → Bool} {vb1 T0 : Nat → Nat} {de1 : Nat} (hc : c < n) (h : st c ≠ 0) (h0 : T0 c = if ke' c = true then qt P k de1 else 0) (h1 : ∀ d, d ≤ n → d ≠ c → T0 d = (if ke' d = true then qt P k de1 else 0) + cs wb (fun b => ct b * vb1 b) B d) : ∀ d, d ≤ n → T0 d + sm (fun b => if decide (wb b = c) = true ∧ fc n st (rw' b) (ln b) = d then ct b * vb1 b else 0) B = tot P k B ct ke' (wbn n c st rw' ln wb) vb1 de1 d := fun d hd => by
  unfold tot
  by_cases e : d = c
  · subst e
    rw [cs_c0 hc h, sm_c0 hc h, h0]
  · rw [cs_go e, h1 d hd e]
    omega
theorem go_bs {st' : Nat → Int} {ex' de1 : Nat} {vb1 : Nat → Nat} {ke' : Nat → Bool} (h : bsI n k el ex dr st B ct rw' ln bo P s wb pl vb de ke) (hc : c < n) (hc0 : st' c ≠ 0) (hr : rlI n k el ex' dr st') (hp : ∀ d, 0 < st' d ↔ 0 < st d) (hz : ∀ d, st d ≠ 0 → st' d ≠ 0) (hs : s + 1 ≤ nkf ke' n + ex') (hd : (k + 1) ∣ de1 ∧ 0 < de1 ∧ de1 ≤ bd (nkf ke' n) ∧ nkf ke' n ≤ 3) (hv : ∀ b, b < B → vb1 b ≤ de1) (hk : ∀ d, ke' d = true → d < n ∧ 0 < st' d ∧ (d = c ∨ ∀ b, b < B → wb b ≠ d)) (hJ : nkf ke' n * qt P k de1 + sm (fun b => ct b * vb1 b) B = P * de1) : bsI n k el ex' dr st' B ct rw' ln bo P (s + 1) (wbn n c st' rw' ln wb) (pln c st' rw' ln wb pl) vb1 de1 ke' := by
  obtain ⟨-, hpl, hP, hcn, -, -, hb, -, -⟩ := h
  refine ⟨hr, hpl, hP, ?_, hs, hd, fun b hb' => ?_, fun d hd' => ?_, hJ⟩
  · rw [← hcn]
    exact sm_congr (fun d _ => by simp only [hp d])
  · obtain ⟨b1, b2, b3, b4⟩ := hb b hb'
    obtain ⟨-, -, hg⟩ := hpl.2.1 b hb'
    refine ⟨hv b hb', ?_⟩
    unfold wbn pln
    by_cases e : wb b = c
    · simp only [if_pos e]
      refine ⟨fc_le hg, fun j hj => fx_lo hj, fun w => ?_⟩
      have hlt : fx st' (rw' b) (ln b) < ln b := by
        rcases Nat.lt_or_ge (fx st' (rw' b) (ln b)) (ln b) with q | q
        · exact q
        · unfold fc at w
          rw [if_neg (by omega)] at w
          omega
      refine ⟨hlt, ?_⟩
      have := (hg.2.2.1 _ hlt).1
      unfold fc
      rw [if_pos hlt]
      omega
    · simp only [if_neg e]
      exact ⟨b2, fun j hj => hz _ (b3 j hj), b4⟩
  · obtain ⟨d1, d2, d3⟩ := hk d hd'
    refine ⟨d1, d2, fun b hb' w => ?_⟩
    have w : (if wb b = c then fc n st' (rw' b) (ln b) else wb b) = d := w
    by_cases e : wb b = c
    · rw [if_pos e] at w
      exact fc_ne d1 (by omega) w
    · rw [if_neg e] at w
      rcases d3 with q | q
      · omega
      · exact q b hb' w
theorem go_lv {st' : Nat → Int} {de1 : Nat} {vb1 : Nat → Nat} {ke' : Nat → Bool} (hel : el < k) (h : ∀ d, d < n → 0 < st' d → ke' d = false → d ≠ c ∧ qt P k de1 < cs wb (fun b => ct b * vb1 b) B d) : lvI n k el st' B ct P (wbn n c st' rw' ln wb) vb1 de1 ke' :=
  ⟨hel, fun d hd hp hk => by
    obtain ⟨h1, h2⟩ := h d hd hp hk
    unfold tot
    rw [cs_go h1, sm_c0 hd (by omega), if_neg (by rw [hk]; decide)]
    omega⟩
theorem excl_rl (h : rlI n k el ex dr st) (hc : c < n) (h0 : st c = 0) : rlI n k el (ex + 1) dr (va_up st c (-((ex + 1 : Nat) : Int))) := by
  obtain ⟨a1, a2, a3, a4, a5, a6, a7, a8, a9⟩ := h
  have hu := cnz_up (st := st) (c := c) (v := (-((ex + 1 : Nat) : Int))) (by omega) h0 n
  rw [if_pos hc] at hu
  refine ⟨a1, a2, a3, a4, a5, a6, a7, fun d hd => ?_, by omega⟩
  by_cases e : d = c
  · subst e
    rw [va_up_self]
    omega
  · rw [va_up_ne _ _ e]
    exact a8 d hd
/-- an exclusion -/
theorem excl_mid (h : bsI n k el ex dr st B ct rw' ln bo P s wb pl vb de ke) (hl : lvI n k el st B ct P wb vb de ke) (hc : c < n) (h0 : st c = 0) : bsI n k el (ex + 1) dr (va_up st c (-((ex + 1 : Nat) : Int))) B ct rw' ln bo P (s + 1) (wbn n c (va_up st c (-((ex + 1 : Nat) : Int))) rw' ln wb) (pln c (va_up st c (-((ex + 1 : Nat) : Int))) rw' ln wb pl) vb de ke ∧ lvI n k el (va_up st c (-((ex + 1 : Nat) : Int))) B ct P (wbn n c (va_up st c (-((ex + 1 : Nat) : Int))) rw' ln wb) vb de ke := by
  have h' := h
  obtain ⟨hI, hpl, hP, hcn, hs, hd, hb, hk, hJ⟩ := h
  have hp : ∀ d, 0 < va_up st c (-((ex + 1 : Nat) : Int)) d ↔ 0 < st d := fun d => by
    by_cases e : d = c
    · subst e
      rw [va_up_self]
      omega
    · rw [va_up_ne _ _ e]
  refine ⟨go_bs h' hc (by rw [va_up_self]; omega) (excl_rl hI hc h0) hp (fun d hd => ?_) (by omega) hd (fun b hb' => (hb b hb').1) (fun d hd => ⟨(hk d hd).1, (hp d).mpr (hk d hd).2.1, Or.inr (hk d hd).2.2⟩) hJ, go_lv hl.1 (fun d hd' hdp hdk => ⟨?_, ?_⟩)⟩
  · by_cases e : d = c
    · subst e
      rw [va_up_self]
      omega
    · rw [va_up_ne _ _ e]
      exact hd
  · intro e
    subst e
    rw [va_up_self] at hdp
    omega
  · have := hl.2 d hd' ((hp d).mp hdp) hdk
    unfold tot at this
    rw [if_neg (by rw [hdk]; decide), Nat.zero_add] at this
    exact this
theorem nk_up (hc : c < n) (h : ke c = false) : nkf (va_up ke c true) n = nkf ke n + 1 := by
  unfold nkf
  have : sm (fun d => if va_up ke c true d = true then 1 else 0) n = sm (fun d => (if ke d = true then 1 else 0) + (if c = d then 1 else 0)) n := sm_congr (fun d _ => by
    by_cases e : d = c
    · subst e
      rw [va_up_self, if_pos rfl, h, if_neg (by decide), if_pos rfl]
    · rw [va_up_ne _ _ e, if_neg (show ¬ c = d from fun q => e q.symm), Nat.add_zero])
  rw [this, sm_add, sm_ind, if_pos hc]
/-- a surplus: all, what is more than the quota, over their common divisor -/
def gg (a m : Nat) : Nat := Nat.gcd a m
def vbs (c dw mo : Nat) (wb vb : Nat → Nat) : Nat → Nat := fun b => if wb b = c then vb b * mo else vb b * dw
theorem surp_all (h : bsI n k el ex dr st B ct rw' ln bo P s wb pl vb de ke) (hc : ke c = false) : nkf ke n * qt P k de + tot P k B ct ke wb vb de c ≤ P * de := by
  have hJ := h.2.2.2.2.2.2.2.2
  have h1 := cs_le (wb := wb) (g := fun b => ct b * vb b) (B := B) (c := c)
  unfold tot
  rw [if_neg (by rw [hc]; decide)]
  omega
theorem surp_bd (h : bsI n k el ex dr st B ct rw' ln bo P s wb pl vb de ke) (hc : ke c = false) (hn2 : nkf ke n ≤ 2) : tot P k B ct ke wb vb de c ≤ 10 * (5 - nkf ke n) * de ∧ de * tot P k B ct ke wb vb de c ≤ bd (nkf ke n + 1) := by
  have h1 := surp_all h hc
  obtain ⟨hI, hpl, hP, hcn, hs, ⟨hK, hd0, hdb, hnk⟩, hb, hk, hJ⟩ := h
  have h2 := qt_K (P := P) hK
  have h3 : P * de ≤ 50 * de := Nat.mul_le_mul_right _ hpl.1
  have hk1 := hI.2.2.1
  have hk4 := hI.2.2.2.1
  generalize tot P k B ct ke wb vb de c = A at h1 ⊢
  generalize qt P k de = q at h1 h2
  generalize P * de = X at h1 h2 h3
  generalize nkf ke n = j at h1 hn2 hdb ⊢
  have hA : A ≤ 10 * (5 - j) * de := by
    have hj : j = 0 ∨ j = 1 ∨ j = 2 := by omega
    have hkk : k = 1 ∨ k = 2 ∨ k = 3 ∨ k = 4 := by omega
    rcases hj with rfl | rfl | rfl <;> rcases hkk with rfl | rfl | rfl | rfl <;> omega
  refine ⟨hA, ?_⟩
  have hj : j = 0 ∨ j = 1 ∨ j = 2 := by omega
  have h4 : de * A ≤ bd j * (10 * (5 - j) * bd j) := Nat.mul_le_mul hdb (Nat.le_trans hA (Nat.mul_le_mul_left _ hdb))
  refine Nat.le_trans h4 ?_
  rcases hj with rfl | rfl | rfl <;> decide
theorem surp_mid (h : bsI n k el ex dr st B ct rw' ln bo P s wb pl vb de ke) (hl : lvI n k el st B ct P wb vb de ke) (hc : c < n) (hp : 0 < st c) (hkc : ke c = false) {g dw mo : Nat} (hg : 0 < g) (hdw : tot P k B ct ke wb vb de c = dw * g) (hmo : tot P k B ct ke wb vb de c = qt P k de + mo * g) : 0 < dw ∧ mo ≤ dw ∧ nkf ke n ≤ 2 ∧ bsI n k el ex dr st B ct rw' ln bo P (s + 1) (wbn n c st rw' ln wb) (pln c st rw' ln wb pl) (vbs c dw mo wb vb) (dw * de) (va_up ke c true) ∧ lvI n k el st B ct P (wbn n c st rw' ln wb) (vbs c dw mo wb vb) (dw * de) (va_up ke c true) := by
  have h' := h
  obtain ⟨hI, hpl, hP, hcn, hs, ⟨hK, hd0, hdb, hnk⟩, hb, hk, hJ⟩ := h
  have hk4 := hI.2.2.2.1
  have hlv := hl.2 c hc hp hkc
  have hnu := nk_up (n := n) hc hkc
  have hmle : mo * g ≤ dw * g := by omega
  have hmd : mo ≤ dw := Nat.le_of_mul_le_mul_right hmle hg
  have hdp : 0 < dw := by
    rcases Nat.eq_zero_or_pos dw with e | e
    · rw [e, Nat.zero_mul] at hdw
      omega
    · exact e
  have hkeys : ∀ d, va_up ke c true d = true → d = c ∨ ke d = true := fun d hd => by
    by_cases e : d = c
    · exact Or.inl e
    · rw [va_up_ne _ _ e] at hd
      exact Or.inr hd
  have hle : nkf (va_up ke c true) n ≤ el := by
    rw [← hcn]
    refine sm_le (fun d _ => ?_)
    by_cases q : va_up ke c true d = true
    · rw [if_pos q, if_pos (by
        rcases hkeys d q with e | e
        · rw [e]; exact hp
        · exact (hk d e).2.1)]
      exact Nat.le_refl _
    · rw [if_neg q]
      omega
  have hlk := hl.1
  have hn2 : nkf ke n ≤ 2 := by omega
  obtain ⟨-, hbd⟩ := surp_bd h' hkc hn2
  have hq1 : qt P k (dw * de) = dw * qt P k de := qt_mul hK
  have hall : cs wb (fun b => ct b * vb b) B c = tot P k B ct ke wb vb de c := by
    unfold tot
    rw [if_neg (by rw [hkc]; decide), Nat.zero_add]
  -- the sum of the new values
  have hsum : sm (fun b => ct b * vbs c dw mo wb vb b) B + dw * cs wb (fun b => ct b * vb b) B c = dw * sm (fun b => ct b * vb b) B + mo * cs wb (fun b => ct b * vb b) B c := by
    unfold cs
    rw [← sm_mul, ← sm_mul, ← sm_mul, ← sm_add, ← sm_add]
    refine sm_congr (fun b _ => ?_)
    show ct b * (if wb b = c then vb b * mo else vb b * dw) + dw * (if wb b = c then ct b * vb b else 0) = dw * (ct b * vb b) + mo * (if wb b = c then ct b * vb b else 0)
    by_cases e : wb b = c
    · simp only [if_pos e]
      rw [Nat.add_comm, ← Nat.mul_assoc (ct b), Nat.mul_comm (ct b * vb b) mo]
    · simp only [if_neg e, Nat.mul_zero, Nat.add_zero]
      rw [← Nat.mul_assoc, Nat.mul_comm]
  have hJ' : nkf (va_up ke c true) n * qt P k (dw * de) + sm (fun b => ct b * vbs c dw mo wb vb b) B = P * (dw * de) := by
    rw [hnu, hq1]
    rw [hall] at hsum
    have e1 : mo * tot P k B ct ke wb vb de c = dw * (mo * g) := by rw [hdw, Nat.mul_left_comm]
    have e2 : dw * tot P k B ct ke wb vb de c = dw * qt P k de + dw * (mo * g) := by rw [hmo, Nat.mul_add]
    have e3 : dw * (P * de) = dw * (nkf ke n * qt P k de) + dw * sm (fun b => ct b * vb b) B := by rw [← hJ, Nat.mul_add]
    have e4 : (nkf ke n + 1) * (dw * qt P k de) = dw * (nkf ke n * qt P k de) + dw * qt P k de := by rw [Nat.add_mul, Nat.one_mul, Nat.mul_left_comm]
    have e5 : P * (dw * de) = dw * (P * de) := Nat.mul_left_comm _ _ _
    rw [e4, e5, e3]
    omega
  refine ⟨hdp, hmd, hn2, go_bs h' hc (by omega) hI (fun d => Iff.rfl) (fun d q => q) (by omega) ⟨Nat.dvd_trans hK ⟨dw, Nat.mul_comm _ _⟩, Nat.mul_pos hdp hd0, ?_, by omega⟩ (fun b hb' => ?_) (fun d hd => ?_) hJ', go_lv hlk (fun d hd' hdp' hdk => ⟨?_, ?_⟩)⟩
  · rw [hnu]
    refine Nat.le_trans ?_ hbd
    rw [Nat.mul_comm dw de, hdw]
    exact Nat.mul_le_mul_left _ (Nat.le_mul_of_pos_right _ hg)
  · have := (hb b hb').1
    show (if wb b = c then vb b * mo else vb b * dw) ≤ dw * de
    rw [Nat.mul_comm dw de]
    by_cases e : wb b = c
    · rw [if_pos e]
      exact Nat.mul_le_mul this hmd
    · rw [if_neg e]
      exact Nat.mul_le_mul_right _ this
  · rcases hkeys d hd with e | e
    · rw [e]
      exact ⟨hc, hp, Or.inl rfl⟩
    · exact ⟨(hk d e).1, (hk d e).2.1, Or.inr (hk d e).2.2⟩
  · intro e
    rw [e, va_up_self] at hdk
    exact absurd hdk (by decide)
  · have hdc : d ≠ c := by
      intro e
      rw [e, va_up_self] at hdk
      exact absurd hdk (by decide)
    rw [va_up_ne _ _ hdc] at hdk
    have := hl.2 d hd' hdp' hdk
    unfold tot at this
    rw [if_neg (by rw [hdk]; decide), Nat.zero_add] at this
    have e : cs wb (fun b => ct b * vbs c dw mo wb vb b) B d = dw * cs wb (fun b => ct b * vb b) B d := by
      rw [← cs_mul]
      unfold cs
      refine sm_congr (fun b _ => ?_)
      show (if wb b = d then ct b * (if wb b = c then vb b * mo else vb b * dw) else 0) = if wb b = d then dw * (ct b * vb b) else 0
      by_cases z : wb b = d
      · rw [if_pos z, if_pos z, if_neg (by omega), ← Nat.mul_assoc, Nat.mul_comm]
      · rw [if_neg z, if_neg z]
    rw [e, hq1]
    exact Nat.mul_lt_mul_of_pos_left this hdp
/-- lessening -/
theorem less_mid {g de2 : Nat} {vb2 : Nat → Nat} (h : bsI n k el ex dr st B ct rw' ln bo P s wb pl vb de ke) (hl : lvI n k el st B ct P wb vb de ke) (hg : 0 < g) (hd : de = g * de2) (hK : (k + 1) ∣ de2) (hv : ∀ b, b < B → vb b = g * vb2 b) : bsI n k el ex dr st B ct rw' ln bo P s wb pl vb2 de2 ke ∧ lvI n k el st B ct P wb vb2 de2 ke := by
  obtain ⟨hI, hpl, hP, hcn, hs, ⟨-, hd0, hdb, hnk⟩, hb, hk, hJ⟩ := h
  subst hd
  have hd2 : 0 < de2 := by
    rcases Nat.eq_zero_or_pos de2 with e | e
    · rw [e] at hd0
      omega
    · exact e
  have hle : de2 ≤ g * de2 := Nat.le_mul_of_pos_left _ hg
  refine ⟨⟨hI, hpl, hP, hcn, hs, ⟨hK, hd2, by omega, hnk⟩, fun b hb' => ⟨?_, (hb b hb').2⟩, hk, ?_⟩, hl.1, fun c hc hp hkc => ?_⟩
  · have := (hb b hb').1
    rw [hv b hb'] at this
    exact Nat.le_of_mul_le_mul_left this hg
  · apply Nat.eq_of_mul_eq_mul_left hg
    have e1 : sm (fun b => ct b * vb b) B = g * sm (fun b => ct b * vb2 b) B := by
      rw [← sm_mul]
      exact sm_congr (fun b hb' => by rw [hv b hb', Nat.mul_left_comm])
    rw [qt_mul hK, e1] at hJ
    rw [Nat.mul_add, Nat.mul_left_comm, hJ, Nat.mul_left_comm]
  · have := hl.2 c hc hp hkc
    rw [tot_congr hv, tot_mul hK, qt_mul hK] at this
    exact Nat.lt_of_mul_lt_mul_left this
end TR
