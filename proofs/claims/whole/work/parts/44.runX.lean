/-! the class's stages -/
def bgX (σ : Mem) (n k el ex : Nat) (dr : Nat → Nat) (st : Nat → Int) (B : Nat) (ct rw' : Nat → Nat) (P s : Nat) (ov : Bool) (wb vb : Nat → Nat) (de : Nat) (to : Nat → Nat → Nat) (dn : Nat → Nat) (wn : Nat → Nat → Nat) : Prop :=
  rlX σ n el ex dr st ∧ plX σ B ct rw' P ∧ σ.1 0 3 = nI k ∧ σ.1 0 4 = nI s ∧ σ.1 0 5 = ovI ov ∧ qX σ P k ∧ (∀ b, b < B → σ.1 7 b = nI (wb b)) ∧ (∀ b, b < B → isF σ 8 b (vb b) de) ∧ tX σ n s to dn ∧ ∀ s', s' ≤ s → ∀ c, c ≤ n → σ.1 (12 + 5 * s' + 4) c = nI (wn s' c)
def bgI (n k el ex : Nat) (dr : Nat → Nat) (st : Nat → Int) (B : Nat) (ct rw' ln bo : Nat → Nat) (P s : Nat) (ov : Bool) (wb pl vb : Nat → Nat) (de : Nat) (ke : Nat → Bool) (to : Nat → Nat → Nat) (dn : Nat → Nat) : Prop :=
  bsI n k el ex dr st B ct rw' ln bo P s wb pl vb de ke ∧ (∀ c, c ≤ n → to s c = tot P k B ct ke wb vb de c) ∧ dn s = de ∧ tB n s to dn ∧ (ov = false → lvI n k el st B ct P wb vb de ke ∧ k < el + cnz st n)
theorem isF_0 {σ : Mem} {o i D : Nat} (h1 : σ.2 (o + 1) i = 0) (h2 : σ.2 (o + 2) i = 1) (hD : 0 < D) : isF σ o i 0 D := by
  constructor
  · rw [h1]
    unfold cu
    rw [Nat.zero_div]
    decide
  · rw [h2]
    unfold cv
    rw [Nat.gcd_zero_left, Nat.div_self hD]
    decide
theorem clearS_spec {Q : Mem → Prop} {σ : Mem} {s : Nat} (hQ : ∀ σ' : Mem, (∀ o, o ≠ 12 + 5 * s + 4 → σ'.1 o = σ.1 o) → (∀ o, o ≠ 12 + 5 * s + 1 + 1 → o ≠ 12 + 5 * s + 1 + 2 → σ'.2 o = σ.2 o) → (∀ j, j < 13 → σ'.2 (12 + 5 * s + 1 + 1) j = 0 ∧ σ'.2 (12 + 5 * s + 1 + 2) j = 1 ∧ σ'.1 (12 + 5 * s + 4) j = 0) → Q σ') : wp_S_clear Q (12 + 5 * s) σ := by
  unfold wp_S_clear wp_F_clear
  rw [fr13]
  refine fillJ_spec (by decide) (fun σ1 a1 a2 a3 => fillJ_spec (by decide) (fun σ2 b1 b2 b3 => fillI_spec (by decide) (fun σ3 c1 c2 c3 => hQ σ3 (fun o ho => ?_) (fun o o1 o2 => ?_) (fun j hj => ⟨?_, ?_, c3 j hj⟩))))
  · rw [c2 o ho, b1, a1]
  · rw [c1, b2 o o2, a2 o o1]
  · rw [c1, b2 _ (by omega)]
    exact a3 j hj
  · rw [c1]
    exact b3 j hj
theorem mC_in {σ : Mem} {a b k j : Nat} (h : j < k) : (mC σ a b 0 0 k).2 b j = σ.2 a j := by
  show va_up σ.2 b (va_cpy (σ.2 a) (σ.2 b) 0 0 k) b j = _
  rw [va_up_self, pk_cpy_in (by omega) (by omega), Nat.zero_add, Nat.sub_zero]
theorem mC_ne {σ : Mem} {a b k o : Nat} (h : o ≠ b) : (mC σ a b 0 0 k).2 o = σ.2 o := va_up_ne _ _ h
theorem follS_spec {Q : Mem → Prop} {σ : Mem} {s s0 : Nat} (hne : s0 ≠ s) (hQ : ∀ σ' : Mem, (∀ o, o ≠ 12 + 5 * s + 4 → σ'.1 o = σ.1 o) → (∀ o, o ≠ 12 + 5 * s + 1 + 1 → o ≠ 12 + 5 * s + 1 + 2 → σ'.2 o = σ.2 o) → (∀ j, j < 13 → σ'.2 (12 + 5 * s + 1 + 1) j = σ.2 (12 + 5 * s0 + 1 + 1) j ∧ σ'.2 (12 + 5 * s + 1 + 2) j = σ.2 (12 + 5 * s0 + 1 + 2) j ∧ σ'.1 (12 + 5 * s + 4) j = 0) → Q σ') : wp_S_followOn Q (12 + 5 * s) (12 + 5 * s0) σ := by
  unfold wp_S_followOn wp_F_copy
  rw [fr13, fr13]
  refine ⟨by decide, by decide, by decide, by decide, by decide, fun σ1 e1 => ⟨by decide, by decide, by decide, by decide, by decide, fun σ2 e2 => ?_⟩⟩
  have e1 : σ1 = mC σ (12 + 5 * s0 + 1 + 1) (12 + 5 * s + 1 + 1) 0 0 13 := e1
  have e2 : σ2 = mC σ1 (12 + 5 * s0 + 1 + 2) (12 + 5 * s + 1 + 2) 0 0 13 := e2
  refine fillI_spec (by decide) (fun σ3 c1 c2 c3 => hQ σ3 (fun o ho => ?_) (fun o o1 o2 => ?_) (fun j hj => ⟨?_, ?_, c3 j hj⟩))
  · rw [c2 o ho, e2, e1]
    rfl
  · rw [c1, e2, mC_ne o2, e1, mC_ne o1]
  · rw [c1, e2, mC_ne (by omega), e1, mC_in hj]
  · rw [c1, e2, mC_in hj, e1, mC_ne (by omega)]
section RX
variable {n k el ex : Nat} {dr : Nat → Nat} {st : Nat → Int} {B : Nat} {ct rw' ln bo : Nat → Nat} {P s : Nat} {wb vb : Nat → Nat} {de : Nat} {to : Nat → Nat → Nat} {dn : Nat → Nat} {wn : Nat → Nat → Nat}
theorem runX {Q : Mem → Prop} {σ0 : Mem} {x1 : Int32} {tu tl D g el2 : Nat} {fr : Nat → Bool} {vbO vb1 T0 : Nat → Nat} {st2 : Nat → Int} {ov : Bool} (hI : rlI n k el ex dr st) (hX : rlX σ0 n el ex dr st) (hpI : plI n B ct rw' ln bo P) (hpX : plX σ0 B ct rw' P) (h3 : σ0.1 0 3 = nI k) (h4 : σ0.1 0 4 = nI s) (hs : s < 13) (hq : qX σ0 P k)
    (hlow : ∀ s', s' < s → ∀ c, c ≤ n → isF σ0 (12 + 5 * s' + 1) c (to s' c) (dn s')) (hloA : ∀ s', s' < s → ∀ c, c ≤ n → σ0.1 (12 + 5 * s' + 4) c = nI (wn s' c))
    (hfr : ∀ b, b < B → (σ0.1 7 b = x1 ↔ fr b = true)) (hfw : ∀ b, b < B → (fr b = true → wb b = fc n st (rw' b) (ln b)) ∧ (¬ fr b = true → σ0.1 7 b = nI (wb b)))
    (hD : 0 < D) (hg : 0 < g) (hde : 0 < de) (hD63 : g * de < 2 ^ 63) (htl : 0 < tl) (hmul : ∀ b, b < B → fr b = true → vbO b * tu < 2 ^ 63 ∧ D * tl < 2 ^ 63 ∧ vbO b * tu * (g * de) = vb1 b * (D * tl))
    (hA : ∀ c, c ≤ n → σ0.1 (12 + 5 * s + 4) c = 0) (hV : ∀ b, b < B → (fr b = true → isF σ0 8 b (vbO b) D) ∧ (¬ fr b = true → isF σ0 8 b (vb1 b) (g * de))) (hT0 : ∀ c, c ≤ n → isF σ0 (12 + 5 * s + 1) c (T0 c) (g * de))
    (hv : ∀ b, b < B → vb1 b = g * vb b) (hT : ∀ c, c ≤ n → T0 c + sm (fun b => if fr b = true ∧ fc n st (rw' b) (ln b) = c then ct b * vb1 b else 0) B = g * to s c) (hTb : ∀ c, c ≤ n → g * to s c < 2 ^ 63)
    (hw : ∀ c, c ≤ n → wn s c = sm (fun b => if fr b = true ∧ fc n st (rw' b) (ln b) = c then ct b else 0) B) (hdn : dn s = de) (hK : (k + 1) ∣ de) (hqb : qt P k de < 2 ^ 63) (hB : tB n s to dn) (hst : stl to dr s n k (qt P k de) st el st2 el2 ov)
    (hQ : ∀ σ', bgX σ' n k el2 ex dr st2 B ct rw' P s ov wb vb de to dn wn → Q σ') : wp_C_passOn (fun σ => wp_C_settle Q σ) x1 (lN tu) (lN tl) σ0 := by
  have hgd : 0 < g * de := Nat.mul_pos hg hde
  have hn := hI.2.1
  refine passX_spec hI hX h4 hs hpI hpX hfr hD hgd hD63 htl hmul (fun c hc => by rw [hT c hc]; exact hTb c hc) hA hV hT0 (fun σ h => ?_)
  obtain ⟨f1, f2, hH, hVv, hAr, hTt⟩ := h
  have hX1 : rlX σ n el ex dr st := by
    unfold rlX
    rw [f1 1 (by decide) (by omega), f1 2 (by decide) (by omega), f1 3 (by decide) (by omega)]
    exact hX
  have ht : tX σ n s to dn := fun s' hs' c hc => by
    by_cases e : s' = s
    · subst e
      have h1 := hTt c hc
      have h2 : isF σ (12 + 5 * s' + 1) c (g * to s' c) (g * de) := by
        rw [← hT c hc]
        exact h1
      rw [hdn]
      exact isF_sc h2 hgd hde (by rw [Nat.mul_assoc, Nat.mul_left_comm])
    · exact isF_f (hlow s' (by omega) c hc) (by rw [f2 _ (by omega) (by omega) (by omega) (by omega)]) (by rw [f2 _ (by omega) (by omega) (by omega) (by omega)])
  have ho : oX σ n k el ex dr st s to dn := ⟨hI, hX1, by rw [f1 0 (by decide) (by omega)]; exact h4, hs, ht, hB⟩
  refine settleX_spec (by rw [hdn]; exact hK) (by rw [hdn]; exact hqb) ho ⟨by rw [f2 0 (by decide) (by decide) (by omega) (by omega)]; exact hq.1, by rw [f2 0 (by decide) (by decide) (by omega) (by omega)]; exact hq.2⟩ (by rw [f1 0 (by decide) (by omega)]; exact h3) (by rw [hdn]; exact hst) (fun σ' g1 g2 g3 => hQ σ' ?_)
  obtain ⟨e2, e1, e0⟩ := g2
  have z0 : ∀ i, i ≠ 5 → σ'.1 0 i = σ0.1 0 i := fun i hi => by rw [e0 i hi, f1 0 (by decide) (by omega)]
  have z1 : ∀ o, o ≠ 0 → o ≠ 1 → o ≠ 3 → o ≠ 7 → o ≠ 12 + 5 * s + 4 → σ'.1 o = σ0.1 o := fun o o0 o1 o3 o7 oA => by rw [e1 o o0 o1 o3, f1 o o7 oA]
  have z2 : ∀ o, o ≠ 9 → o ≠ 10 → o ≠ 12 + 5 * s + 1 + 1 → o ≠ 12 + 5 * s + 1 + 2 → σ'.2 o = σ0.2 o := fun o a b c d => by rw [e2, f2 o a b c d]
  refine ⟨g1.2.1, ⟨?_, ?_, fun b hb => ?_, fun b hb => ?_⟩, ?_, g1.2.2.1, g3, ⟨?_, ?_⟩, fun b hb => ?_, fun b hb => ?_, g1.2.2.2.2.1, fun s' hs' c hc => ?_⟩
  · rw [z1 4 (by decide) (by decide) (by decide) (by decide) (by omega)]
    exact hpX.1
  · rw [z1 4 (by decide) (by decide) (by decide) (by decide) (by omega)]
    exact hpX.2.1
  · rw [z1 6 (by decide) (by decide) (by decide) (by decide) (by omega)]
    exact hpX.2.2.1 b hb
  · rw [z2 5 (by decide) (by decide) (by omega) (by omega)]
    exact hpX.2.2.2 b hb
  · rw [z0 3 (by decide)]
    exact h3
  · rw [z2 0 (by decide) (by decide) (by omega) (by omega)]
    exact hq.1
  · rw [z2 0 (by decide) (by decide) (by omega) (by omega)]
    exact hq.2
  · rw [e1 7 (by decide) (by decide) (by decide), hH b hb]
    by_cases q : fr b = true
    · rw [if_pos ⟨q, hb⟩, (hfw b hb).1 q]
    · rw [if_neg (fun w => q w.1)]
      exact (hfw b hb).2 q
  · have h1 := (hVv b hb).2 (fun w => by omega)
    rw [hv b hb] at h1
    exact isF_f (isF_sc h1 hgd hde (by rw [Nat.mul_assoc, Nat.mul_left_comm])) (by rw [e2]) (by rw [e2])
  · rw [e1 _ (by omega) (by omega) (by omega)]
    by_cases e : s' = s
    · subst e
      rw [hAr c hc, hw c hc]
    · rw [f1 _ (by omega) (by omega)]
      exact hloA s' (by omega) c hc
end RX
