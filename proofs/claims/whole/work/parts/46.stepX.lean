/-! the class's step: an exclusion, a surplus -/
section SX
variable {n k el ex : Nat} {dr : Nat → Nat} {st : Nat → Int} {B : Nat} {ct rw' ln bo : Nat → Nat} {P s : Nat} {wb pl vb : Nat → Nat} {de : Nat} {ke : Nat → Bool} {to : Nat → Nat → Nat} {dn : Nat → Nat} {wn : Nat → Nat → Nat}
variable {g de2 c el2 : Nat} {vb2 : Nat → Nat} {toN : Nat → Nat → Nat} {dnN : Nat → Nat} {wnN : Nat → Nat → Nat} {st2 : Nat → Int} {ov : Bool}
theorem nI_wb (hb : ∀ b, b < B → wb b ≤ n) (hn : n ≤ 12) (hc : c < n) {b : Nat} (h : b < B) : nI (wb b) = nI c ↔ decide (wb b = c) = true := by
  have := hb b h
  rw [nI_eq (by omega) (by omega), decide_eq_true_iff]
theorem exclX_run {R : Mem → Prop} {σ : Mem} (h : foX σ n k el ex dr st B ct rw' P s wb vb de to dn wn) (hI : rlI n k el ex dr st) (hI' : rlI n k el (ex + 1) dr (va_up st c (-((ex + 1 : Nat) : Int)))) (hpI : plI n B ct rw' ln bo P) (hs : s + 1 < 13) (hwb : ∀ b, b < B → wb b ≤ n) (hvb : ∀ b, b < B → vb b ≤ de) (hc : c < n) (hg : 0 < g) (hd2 : 0 < de2) (hd : de = g * de2) (hd63 : de < 2 ^ 63) (hdn0 : dn s = de) (hK2 : (k + 1) ∣ de2) (hv : ∀ b, b < B → vb b = g * vb2 b)
    (hT : ∀ d, d ≤ n → (if d = c then 0 else to s d) + sm (fun b => if decide (wb b = c) = true ∧ fc n (va_up st c (-((ex + 1 : Nat) : Int))) (rw' b) (ln b) = d then ct b * vb b else 0) B = g * toN (s + 1) d) (hTb : ∀ d, d ≤ n → g * toN (s + 1) d < 2 ^ 63) (hdn : dnN (s + 1) = de2) (hlo : ∀ s', s' ≤ s → dnN s' = dn s' ∧ ∀ d, d ≤ n → toN s' d = to s' d ∧ wnN s' d = wn s' d)
    (hwn : ∀ d, d ≤ n → wnN (s + 1) d = sm (fun b => if decide (wb b = c) = true ∧ fc n (va_up st c (-((ex + 1 : Nat) : Int))) (rw' b) (ln b) = d then ct b else 0) B) (hBN : tB n (s + 1) toN dnN) (hqb : qt P k de2 < 2 ^ 63) (hst : stl toN dr (s + 1) n k (qt P k de2) (va_up st c (-((ex + 1 : Nat) : Int))) el st2 el2 ov)
    (hQ : ∀ σ', bgX σ' n k el2 (ex + 1) dr st2 B ct rw' P (s + 1) ov (wbn n c (va_up st c (-((ex + 1 : Nat) : Int))) rw' ln wb) vb2 de2 toN dnN wnN → R σ') : wp_C_excludeAndPass (fun σ => wp_C_settle R σ) (nI c) σ := by
  obtain ⟨hX, hpX, h3, h4, hq, hH, hV, ht, htn, hw, hA⟩ := h
  have hn := hI.2.1
  have hsum := hI.2.2.2.2.2.2.2.2
  refine exclX_spec hX.2.2.1 (by omega) (by omega) ?_
  generalize hσ1 : mI (mI σ 1 4 (nI (ex + 1))) 3 c (sI (-((ex + 1 : Nat) : Int))) = σ1
  have y1 : ∀ o i, σ1.1 o i = if o = 3 ∧ i = c then sI (-((ex + 1 : Nat) : Int)) else if o = 1 ∧ i = 4 then nI (ex + 1) else σ.1 o i := fun o i => by rw [← hσ1, mI_at, mI_at]
  have y2 : σ1.2 = σ.2 := by rw [← hσ1]; rfl
  have e4 : σ1.1 0 4 = nI (s + 1) := by rw [y1, if_neg (by omega), if_neg (by omega)]; exact h4
  rw [e4, nI_clamp (by omega)]
  refine ⟨vp_in_nI hs (by decide), put_spec (u := 0) (v := 1) (by rw [fr13]; omega) (by decide) (by decide) (by decide) ?_⟩
  generalize hσ2 : mL (mL σ1 (12 + 5 * (s + 1) + 1 + 1) c (lN (cu 0 1))) (12 + 5 * (s + 1) + 1 + 2) c (lN (cv 0 1)) = σ2
  have z1 : σ2.1 = σ1.1 := by rw [← hσ2]; rfl
  have z2 : ∀ o i, ¬ (o = 12 + 5 * (s + 1) + 1 + 1 ∧ i = c) → ¬ (o = 12 + 5 * (s + 1) + 1 + 2 ∧ i = c) → σ2.2 o i = σ.2 o i := fun o i a b => by rw [← hσ2, mL_at, if_neg b, mL_at, if_neg a, y2]
  have x1 : ∀ o i, o ≠ 1 → o ≠ 3 → σ2.1 o i = σ.1 o i := fun o i a b => by rw [z1, y1, if_neg (by omega), if_neg (by omega)]
  have hX' : rlX σ2 n el (ex + 1) dr (va_up st c (-((ex + 1 : Nat) : Int))) := by
    refine ⟨?_, ?_, ?_, fun d hd => ?_, fun d hd => ?_⟩
    · rw [z1, y1, if_neg (by omega), if_neg (by omega)]; exact hX.1
    · rw [z1, y1, if_neg (by omega), if_neg (by omega)]; exact hX.2.1
    · rw [z1, y1, if_neg (by omega), if_pos ⟨rfl, rfl⟩]
    · rw [z1, y1, if_neg (by omega), if_neg (by omega)]; exact hX.2.2.2.1 d hd
    · rw [z1, y1]
      by_cases e : d = c
      · subst e
        rw [if_pos ⟨rfl, rfl⟩, va_up_self]
      · rw [if_neg (by omega), if_neg (by omega), va_up_ne _ _ e]
        exact hX.2.2.2.2 d hd
  have hgd : 0 < g * de2 := Nat.mul_pos hg hd2
  have hmain := runX (Q := R) (σ0 := σ2) (s := s + 1) (wb := wbn n c (va_up st c (-((ex + 1 : Nat) : Int))) rw' ln wb) (vb := vb2) (de := de2) (to := toN) (dn := dnN) (wn := wnN) (st2 := st2) (el2 := el2) (ov := ov) (x1 := nI c) (tu := 1) (tl := 1) (D := de) (g := g) (fr := fun b => decide (wb b = c)) (vbO := vb) (vb1 := vb) (T0 := fun d => if d = c then 0 else to s d) hI' hX' hpI
    ⟨by rw [x1 _ _ (by decide) (by decide)]; exact hpX.1, by rw [x1 _ _ (by decide) (by decide)]; exact hpX.2.1, fun b hb => by rw [x1 _ _ (by decide) (by decide)]; exact hpX.2.2.1 b hb, fun b hb => by rw [z2 _ _ (by omega) (by omega)]; exact hpX.2.2.2 b hb⟩
    (by rw [x1 _ _ (by decide) (by decide)]; exact h3) (by rw [x1 _ _ (by decide) (by decide)]; exact h4) hs ⟨by rw [z2 _ _ (by omega) (by omega)]; exact hq.1, by rw [z2 _ _ (by omega) (by omega)]; exact hq.2⟩
    (fun s' hs' d hd => by
      rw [(hlo s' (by omega)).1, ((hlo s' (by omega)).2 d hd).1]
      exact isF_f (ht s' (by omega) d hd) (z2 _ _ (by omega) (by omega)) (z2 _ _ (by omega) (by omega)))
    (fun s' hs' d hd => by
      rw [((hlo s' (by omega)).2 d hd).2, x1 _ _ (by omega) (by omega)]
      exact hw s' (by omega) d hd)
    (fun b hb => by
      rw [x1 _ _ (by decide) (by decide), hH b hb]
      exact nI_wb hwb hn hc hb)
    (fun b hb => ⟨fun q => if_pos (of_decide_eq_true q), fun q => by
      rw [x1 _ _ (by decide) (by decide), hH b hb]
      show nI (wb b) = nI (if wb b = c then _ else wb b)
      rw [if_neg (fun w => q (decide_eq_true w))]⟩)
    (by omega) hg hd2 (by omega) (by decide)
    (fun b hb _ => ⟨by have := hvb b hb; omega, by omega, by rw [← hd, Nat.mul_one, Nat.mul_one]⟩)
    (fun d hd => by
      rw [x1 _ _ (by omega) (by omega)]
      exact hA d hd)
    (fun b hb => by
      have h1 : isF σ2 8 b (vb b) de := isF_f (hV b hb) (z2 _ _ (by omega) (by omega)) (z2 _ _ (by omega) (by omega))
      exact ⟨fun _ => h1, fun _ => by rw [← hd]; exact h1⟩)
    (fun d hd' => by
      by_cases e : d = c
      · subst e
        show isF σ2 _ d (if d = d then 0 else to s d) _
        rw [if_pos rfl]
        have h1 : isF σ2 (12 + 5 * (s + 1) + 1) d 0 1 := by
          rw [← hσ2]
          exact put_isF
        exact isF_sc h1 (by decide) hgd (by omega)
      · show isF σ2 _ d (if d = c then 0 else to s d) _
        rw [if_neg e, ← hd, ← hdn0]
        exact isF_f (htn d hd') (z2 _ _ (by omega) (by omega)) (z2 _ _ (by omega) (by omega)))
    hv hT hTb hwn hdn hK2 hqb hBN hst hQ
  exact hmain
/-- the class's times is the reference's -/
theorem times_eq {P k de all dw mo gr : Nat} (hde : 0 < de) (hK : (k + 1) ∣ de) (hP : 1 ≤ P) (hdw : all = dw * gr) (hmo : all = qt P k de + mo * gr) : cu P (k + 1) * cv all de ≤ cv P (k + 1) * cu all de ∧ (cv P (k + 1) * cu all de - cu P (k + 1) * cv all de) * dw = mo * (cv P (k + 1) * cu all de) ∧ cv P (k + 1) * cu all de ≤ (k + 1) * all := by
  have gA := cuv_g (a := all) hde
  have gB := cuv_g (a := P) (show 0 < k + 1 by omega)
  have a1 := cu_mul (a := all) (d := de)
  have a2 := cv_mul (a := all) (d := de)
  have b1 := cu_mul (a := P) (d := k + 1)
  have b2 := cv_mul (a := P) (d := k + 1)
  generalize Nat.gcd all de = G at a1 a2 gA
  generalize Nat.gcd P (k + 1) = H at b1 b2 gB
  generalize cu all de = TU at a1 ⊢
  generalize cv all de = TL at a2 ⊢
  generalize cu P (k + 1) = qu at b1 ⊢
  generalize cv P (k + 1) = ql at b2 ⊢
  have e1 : ql * TU * (G * H) = (k + 1) * all := by
    rw [← a1, ← b2]
    ac_rfl
  have e2 : qu * TL * (G * H) = (k + 1) * qt P k de := by
    rw [qt_K hK, ← a2, ← b1]
    ac_rfl
  have gGH : 0 < G * H := Nat.mul_pos gA gB
  have hle : qt P k de ≤ all := by omega
  have h1 : qu * TL ≤ ql * TU := by
    apply Nat.le_of_mul_le_mul_right _ gGH
    rw [e1, e2]
    exact Nat.mul_le_mul_left _ hle
  refine ⟨h1, ?_, ?_⟩
  · apply Nat.eq_of_mul_eq_mul_right gGH
    have e3 : (ql * TU - qu * TL) * (G * H) = (k + 1) * (mo * gr) := by
      rw [Nat.sub_mul, e1, e2, ← Nat.mul_sub, show all - qt P k de = mo * gr by omega]
    calc (ql * TU - qu * TL) * dw * (G * H) = (ql * TU - qu * TL) * (G * H) * dw := Nat.mul_right_comm _ _ _
      _ = (k + 1) * (mo * gr) * dw := by rw [e3]
      _ = mo * ((k + 1) * (dw * gr)) := by ac_rfl
      _ = mo * ((k + 1) * all) := by rw [← hdw]
      _ = mo * (ql * TU * (G * H)) := by rw [e1]
      _ = mo * (ql * TU) * (G * H) := (Nat.mul_assoc _ _ _).symm
  · rw [← e1]
    exact Nat.le_mul_of_pos_right _ gGH
end SX
