/-! the count itself, in whole numbers: what holds before and behind a stage -/
def nkf (ke : Nat → Bool) (n : Nat) : Nat := sm (fun c => if ke c = true then 1 else 0) n
def cnp (st : Nat → Int) (n : Nat) : Nat := sm (fun c => if 0 < st c then 1 else 0) n
def bd : Nat → Nat
  | 0 => 5
  | 1 => 1250
  | 2 => 62500000
  | _ => 117187500000000000
def tot (P k B : Nat) (ct : Nat → Nat) (ke : Nat → Bool) (wb vb : Nat → Nat) (de c : Nat) : Nat := (if ke c = true then qt P k de else 0) + cs wb (fun b => ct b * vb b) B c
def bsI (n k el ex : Nat) (dr : Nat → Nat) (st : Nat → Int) (B : Nat) (ct rw' ln bo : Nat → Nat) (P s : Nat) (wb pl vb : Nat → Nat) (de : Nat) (ke : Nat → Bool) : Prop :=
  rlI n k el ex dr st ∧ plI n B ct rw' ln bo P ∧ 1 ≤ P ∧ cnp st n = el ∧ s ≤ nkf ke n + ex ∧
  ((k + 1) ∣ de ∧ 0 < de ∧ de ≤ bd (nkf ke n) ∧ nkf ke n ≤ 3) ∧
  (∀ b, b < B → vb b ≤ de ∧ wb b ≤ n ∧ (∀ j, j < pl b → st (nb (rw' b) j - 1) ≠ 0) ∧ (wb b < n → pl b < ln b ∧ nb (rw' b) (pl b) = wb b + 1)) ∧
  (∀ c, ke c = true → c < n ∧ 0 < st c ∧ ∀ b, b < B → wb b ≠ c) ∧
  nkf ke n * qt P k de + sm (fun b => ct b * vb b) B = P * de
def lvI (n k el : Nat) (st : Nat → Int) (B : Nat) (ct : Nat → Nat) (P : Nat) (wb vb : Nat → Nat) (de : Nat) (ke : Nat → Bool) : Prop :=
  el < k ∧ ∀ c, c < n → 0 < st c → ke c = false → qt P k de < tot P k B ct ke wb vb de c
theorem qt_K {P k de : Nat} (h : (k + 1) ∣ de) : (k + 1) * qt P k de = P * de := by
  unfold qt
  rw [Nat.mul_left_comm, Nat.mul_div_cancel' h]
theorem qt_mul {P k de g : Nat} (h : (k + 1) ∣ de) : qt P k (g * de) = g * qt P k de := by
  unfold qt
  rw [Nat.mul_div_assoc _ h, Nat.mul_left_comm]
theorem tot_le {P k B : Nat} {ct : Nat → Nat} {ke : Nat → Bool} {wb vb : Nat → Nat} {de c n : Nat} (hke : ke c = true → c < n) (hJ : nkf ke n * qt P k de + sm (fun b => ct b * vb b) B = P * de) : tot P k B ct ke wb vb de c ≤ P * de := by
  unfold tot
  have h1 := cs_le (wb := wb) (g := fun b => ct b * vb b) (B := B) (c := c)
  by_cases h : ke c = true
  · rw [if_pos h]
    have h2 : 1 ≤ nkf ke n := by
      have := sm_one (f := fun c => if ke c = true then 1 else 0) (hke h)
      simp only [h, if_true] at this
      exact this
    have h3 : qt P k de ≤ nkf ke n * qt P k de := Nat.le_mul_of_pos_left _ h2
    omega
  · rw [if_neg h]
    omega
theorem bd_le : ∀ j, bd j ≤ 117187500000000000
  | 0 => by decide
  | 1 => by decide
  | 2 => by decide
  | _ + 3 => by show 117187500000000000 ≤ 117187500000000000; omega
theorem P_de {P de j : Nat} (hP : P ≤ 50) (hd : de ≤ bd j) : P * de < 2 ^ 63 := by
  have h1 := bd_le j
  have h2 : P * de ≤ 50 * 117187500000000000 := Nat.mul_le_mul hP (by omega)
  omega
theorem tot_mul {P k B : Nat} {ct : Nat → Nat} {ke : Nat → Bool} {wb vb : Nat → Nat} {de c g : Nat} (h : (k + 1) ∣ de) : tot P k B ct ke wb (fun b => g * vb b) (g * de) c = g * tot P k B ct ke wb vb de c := by
  unfold tot
  rw [qt_mul h, Nat.mul_add, ← cs_mul]
  have : (fun b => ct b * (g * vb b)) = fun b => g * (ct b * vb b) := funext fun b => Nat.mul_left_comm _ _ _
  rw [this]
  by_cases q : ke c = true
  · rw [if_pos q, if_pos q]
  · rw [if_neg q, if_neg q, Nat.mul_zero]
theorem tot_congr {P k B : Nat} {ct : Nat → Nat} {ke : Nat → Bool} {wb vb vb' : Nat → Nat} {de c : Nat} (h : ∀ b, b < B → vb b = vb' b) : tot P k B ct ke wb vb de c = tot P k B ct ke wb vb' de c := by
  unfold tot cs
  congr 1
  exact sm_congr (fun b hb => by
    show (if wb b = c then ct b * vb b else 0) = if wb b = c then ct b * vb' b else 0
    rw [h b hb])
/-- what those elected one after another changes -/
theorem elc_st {to : Nat → Nat → Nat} {dr : Nat → Nat} {m n : Nat} {up : Nat → Prop} : ∀ {j : Nat} {st : Nat → Int} {el : Nat} {st' : Nat → Int} {el' : Nat}, elc to dr m n up j st el st' el' → (∀ c, st' c = st c ∨ (c < n ∧ st c = 0 ∧ up c ∧ 0 < st' c)) ∧ (el < el' → ∃ c, c < n ∧ up c ∧ 0 < st' c) ∧ cnp st' n + el = cnp st n + el'
  | 0, st, el, st', el', ⟨e1, e2, _⟩ => by
    subst e1
    subst e2
    exact ⟨fun c => Or.inl rfl, fun h => absurd h (by omega), rfl⟩
  | j + 1, st, el, st', el', ⟨b, hb, h⟩ => by
    obtain ⟨h1, h2, h3⟩ := elc_st h
    have hbp : 0 < st' b := by
      rcases h1 b with q | q
      · rw [q, va_up_self]
        omega
      · exact q.2.2.2
    refine ⟨fun c => ?_, fun _ => ⟨b, hb.1, hb.2.1.2, hbp⟩, ?_⟩
    · by_cases e : c = b
      · subst e
        exact Or.inr ⟨hb.1, hb.2.1.1, hb.2.1.2, hbp⟩
      · rcases h1 c with q | q
        · rw [va_up_ne _ _ e] at q
          exact Or.inl q
        · rw [va_up_ne _ _ e] at q
          exact Or.inr q
    · have hc : cnp (va_up st b ((el + 1 : Nat) : Int)) n = cnp st n + 1 := by
        unfold cnp
        have : sm (fun c => if 0 < va_up st b ((el + 1 : Nat) : Int) c then 1 else 0) n = sm (fun c => (if 0 < st c then 1 else 0) + (if b = c then 1 else 0)) n := sm_congr (fun c _ => by
          by_cases e : c = b
          · subst e
            rw [va_up_self, hb.2.1.1, if_pos (by omega), if_neg (by omega), if_pos rfl]
          · rw [va_up_ne _ _ e, if_neg (show ¬ b = c from fun q => e q.symm), Nat.add_zero])
        rw [this, sm_add, sm_ind, if_pos hb.1]
      omega
/-- no more are above the quota than there are seats -/
theorem el_le {n k P q : Nat} {T : Nat → Nat} {st : Nat → Int} {el1 D : Nat} (hc : cnp st n = el1) (hK : (k + 1) * q = P * D) (hq : 0 < q) (hT : sm T n ≤ P * D) (he : ∀ c, c < n → 0 < st c → q ≤ T c) (hs : ∃ c, c < n ∧ q < T c ∧ 0 < st c) : el1 ≤ k := by
  obtain ⟨c0, h0, h1, h2⟩ := hs
  have h3 : sm (fun c => q * (if 0 < st c then 1 else 0) + (if c0 = c then 1 else 0)) n ≤ sm T n := sm_le (fun c hc => by
    by_cases e : c0 = c
    · subst e
      rw [if_pos h2, if_pos rfl]
      omega
    · rw [if_neg e]
      by_cases z : 0 < st c
      · rw [if_pos z]
        have := he c hc z
        omega
      · rw [if_neg z]
        omega)
  rw [sm_add, sm_mul, sm_ind, if_pos h0] at h3
  have h4 : sm (fun c => if 0 < st c then 1 else 0) n = el1 := hc
  rw [h4] at h3
  rcases Nat.lt_or_ge k el1 with w | w
  · have : (k + 1) * q ≤ el1 * q := Nat.mul_le_mul_right _ w
    have e : q * el1 = el1 * q := Nat.mul_comm _ _
    omega
  · exact w
section PU
variable {n k el ex : Nat} {dr : Nat → Nat} {st : Nat → Int} {B : Nat} {ct rw' ln bo : Nat → Nat} {P s : Nat} {wb pl vb : Nat → Nat} {de : Nat} {ke : Nat → Bool}
theorem tot_sum (h : bsI n k el ex dr st B ct rw' ln bo P s wb pl vb de ke) : sm (fun c => tot P k B ct ke wb vb de c) n ≤ P * de := by
  have hJ := h.2.2.2.2.2.2.2.2
  unfold tot
  rw [sm_add]
  have h1 : sm (cs wb (fun b => ct b * vb b) B) n ≤ sm (fun b => ct b * vb b) B := cs_sum (wb := wb) (g := fun b => ct b * vb b) (B := B) (n := n)
  have h2 : sm (fun c => if ke c = true then qt P k de else 0) n = nkf ke n * qt P k de := by
    unfold nkf
    rw [Nat.mul_comm, ← sm_mul]
    exact sm_congr (fun c _ => by by_cases q : ke c = true <;> simp [q])
  omega
theorem nk_el (h : bsI n k el ex dr st B ct rw' ln bo P s wb pl vb de ke) : nkf ke n ≤ el := by
  rw [← h.2.2.2.1]
  refine sm_le (fun c _ => ?_)
  by_cases q : ke c = true
  · rw [if_pos q, if_pos (h.2.2.2.2.2.2.2.1 c q).2.1]
    exact Nat.le_refl _
  · rw [if_neg q]
    omega
theorem s13 (h : bsI n k el ex dr st B ct rw' ln bo P s wb pl vb de ke) : s < 13 := by
  have h1 := nk_el h
  have h2 := h.2.2.2.2.1
  have h3 := h.1.2.2.2.2.2.2.2.2
  have h4 := h.1.2.1
  omega
/-- those elected behind a stage: there is an outcome, and it keeps what is held -/
theorem mid_fin {to : Nat → Nat → Nat} (h : bsI n k el ex dr st B ct rw' ln bo P s wb pl vb de ke) (hl : lvI n k el st B ct P wb vb de ke) (hto : ∀ c, c ≤ n → to s c = tot P k B ct ke wb vb de c) : ∃ st2 el2 ov, stl to dr s n k (qt P k de) st el st2 el2 ov ∧ rlI n k el2 ex dr st2 ∧ bsI n k el2 ex dr st2 B ct rw' ln bo P s wb pl vb de ke ∧ (ov = false → lvI n k el2 st2 B ct P wb vb de ke ∧ k < el2 + cnz st2 n) := by
  have hS := tot_sum h
  have h0 := h
  obtain ⟨hI, hpl, hP, hcn, hs, ⟨hK, hd0, hdb, hnk⟩, hb, hk, hJ⟩ := h
  obtain ⟨hlk, hlv⟩ := hl
  have hn := hI.2.1
  have hq0 : 0 < qt P k de := by
    have := Nat.div_pos (Nat.le_of_dvd hd0 hK) (show 0 < k + 1 by omega)
    exact Nat.mul_pos hP this
  have hkq : ∀ c, ke c = true → tot P k B ct ke wb vb de c = qt P k de := fun c hc => by
    unfold tot cs
    rw [if_pos hc, sm_zero (fun b hb => if_neg ((hk c hc).2.2 b hb)), Nat.add_zero]
  -- what a later list of elected ones keeps
  have keep : ∀ (st2 : Nat → Int) (el2 : Nat), el ≤ el2 → (∀ c, st2 c = st c ∨ (c < n ∧ st c = 0 ∧ 0 < st2 c)) → cnp st2 n = el2 → cnz st2 n + el2 + ex = n → rlI n k el2 ex dr st2 → bsI n k el2 ex dr st2 B ct rw' ln bo P s wb pl vb de ke := fun st2 el2 _ hst hcp hcz hr => by
    have hnz : ∀ c, st c ≠ 0 → st2 c ≠ 0 := fun c q => by
      rcases hst c with w | w
      · rw [w]; exact q
      · exact absurd w.2.1 q
    have hps : ∀ c, 0 < st c → 0 < st2 c := fun c q => by
      rcases hst c with w | w
      · rw [w]; exact q
      · exact w.2.2
    exact ⟨hr, hpl, hP, hcp, hs, ⟨hK, hd0, hdb, hnk⟩, fun b hb' => ⟨(hb b hb').1, (hb b hb').2.1, fun j hj => hnz _ ((hb b hb').2.2.1 j hj), (hb b hb').2.2.2⟩, fun c hc => ⟨(hk c hc).1, hps c (hk c hc).2.1, (hk c hc).2.2⟩, hJ⟩
  have rlk : ∀ {up : Nat → Prop} {j : Nat} {st1 : Nat → Int} {el1 : Nat} {st2 : Nat → Int} {el2 : Nat}, elc to dr (s + 1) n up j st1 el1 st2 el2 → rlI n k el1 ex dr st1 → rlI n k el2 ex dr st2 := by
    intro up j
    induction j with
    | zero =>
      intro st1 el1 st2 el2 h1 h2
      rw [h1.1, h1.2.1]
      exact h2
    | succ j ih =>
      intro st1 el1 st2 el2 h1 h2
      obtain ⟨b, hb, h1⟩ := h1
      exact ih h1 (rlI_el h2 hb.1 hb.2.1.1)
  obtain ⟨j1, st1, el1, he1⟩ := elc_ex (to := to) (m := s + 1) (up := fun c => qt P k de < to s c) hn hI.2.2.2.2.2.2.1 (cnz st n) st el (Nat.le_refl _)
  obtain ⟨a1, a2, a3⟩ := elc_st he1
  obtain ⟨a4, a5⟩ := elc_cnz he1
  have hr1 := rlk he1 hI
  have hle : el1 ≤ k := by
    rcases Nat.lt_or_ge el el1 with w | w
    · obtain ⟨c0, c1, c2, c3⟩ := a2 w
      refine el_le (by omega : cnp st1 n = el1) (qt_K hK) hq0 hS (fun c hc hp => ?_) ⟨c0, c1, by rw [hto c0 (by omega)] at c2; exact c2, c3⟩
      rcases a1 c with z | z
      · by_cases y : ke c = true
        · rw [hkq c y]
          exact Nat.le_refl _
        · have := hlv c hc (by rw [← z]; exact hp) (by cases hh : ke c with | false => rfl | true => exact absurd hh y)
          omega
      · have := z.2.2.1
        rw [hto c (by omega)] at this
        omega
    · omega
  by_cases hsp : el1 + cnz st1 n ≤ k
  · obtain ⟨j2, st2, el2, he2⟩ := elc_ex (to := to) (m := s + 1) (up := fun _ => True) hn hI.2.2.2.2.2.2.1 (cnz st1 n) st1 el1 (Nat.le_refl _)
    obtain ⟨b1, b2, b3⟩ := elc_st he2
    obtain ⟨b4, b5⟩ := elc_cnz he2
    have hr2 := rlk he2 hr1
    refine ⟨st2, el2, true, ⟨j1, st1, el1, he1, hle, Or.inl ⟨hsp, rfl, j2, he2⟩⟩, hr2, keep st2 el2 (by omega) (fun c => ?_) (by omega) hr2.2.2.2.2.2.2.2.2 hr2, fun q => absurd q (by decide)⟩
    rcases b1 c with z | z
    · rw [z]
      rcases a1 c with y | y
      · exact Or.inl y
      · exact Or.inr ⟨y.1, y.2.1, y.2.2.2⟩
    · refine Or.inr ⟨z.1, ?_, z.2.2.2⟩
      rcases a1 c with y | y
      · rw [← y]; exact z.2.1
      · exact y.2.1
  · refine ⟨st1, el1, decide (el1 = k), ⟨j1, st1, el1, he1, hle, Or.inr ⟨by omega, rfl, rfl, decide_eq_true_iff⟩⟩, hr1, keep st1 el1 a5 (fun c => (a1 c).imp id (fun y => ⟨y.1, y.2.1, y.2.2.2⟩)) (by omega) hr1.2.2.2.2.2.2.2.2 hr1, fun q => ⟨⟨?_, fun c hc hp hkc => ?_⟩, by omega⟩⟩
    · have := of_decide_eq_false q
      omega
    · rcases a1 c with z | z
      · exact hlv c hc (by rw [← z]; exact hp) hkc
      · have := z.2.2.1
        rw [hto c (by omega)] at this
        exact this
end PU
