/-! the class's open and step -/
def suX (σ : Mem) (n k el ex : Nat) (dr : Nat → Nat) (st : Nat → Int) (B : Nat) (ct rw' : Nat → Nat) (P : Nat) : Prop :=
  rlX σ n el ex dr st ∧ plX σ B ct rw' P ∧ σ.1 0 3 = nI k ∧ σ.1 0 4 = -1 ∧ σ.1 0 5 = 0 ∧ σ.2 0 7 = 0 ∧ ∀ b, b < B → σ.1 7 b = -1 ∧ isF σ 8 b 1 1
section SX
variable {n k el ex : Nat} {dr : Nat → Nat} {st : Nat → Int} {B : Nat} {ct rw' ln bo : Nat → Nat} {P s : Nat} {wb pl vb : Nat → Nat} {de : Nat} {ke : Nat → Bool} {to : Nat → Nat → Nat} {dn : Nat → Nat} {wn : Nat → Nat → Nat}
theorem openX_spec {Q : Int32 → Mem → Prop} {E : String → Mem → Prop} {σ : Mem} {g el2 : Nat} {st2 : Nat → Int} {ov : Bool} (hS : suX σ n k el ex dr st B ct rw' P) (hI : rlI n k el ex dr st) (hpI : plI n B ct rw' ln bo P) (hP : 1 ≤ P)
    (hg : 0 < g) (hde : 0 < de) (hgd : k + 1 = g * de) (hK : (k + 1) ∣ de) (hv : ∀ b, b < B → k + 1 = g * vb b) (hwb : ∀ b, b < B → wb b = fc n st (rw' b) (ln b)) (hT : ∀ c, c ≤ n → sm (fun b => if true = true ∧ fc n st (rw' b) (ln b) = c then ct b * (k + 1) else 0) B = g * to 0 c) (hTb : ∀ c, c ≤ n → g * to 0 c < 2 ^ 63)
    (hw : ∀ c, c ≤ n → wn 0 c = sm (fun b => if true = true ∧ fc n st (rw' b) (ln b) = c then ct b else 0) B) (hdn : dn 0 = de) (hqb : qt P k de < 2 ^ 63) (hB : tB n 0 to dn) (hst : stl to dr 0 n k (qt P k de) st el st2 el2 ov)
    (hQ : ∀ σ', bgX σ' n k el2 ex dr st2 B ct rw' P 0 ov wb vb de to dn wn → Q (nI (cu P (k + 1))) σ') : wp_C_open Q E σ := by
  obtain ⟨hX, hpX, h3, h4, h5, h7, hH⟩ := hS
  have hk4 := hI.2.2.2.1
  have hP50 := hpI.1
  have hn := hI.2.1
  refine ⟨fun _ => ⟨Or.inl rfl, fun _ => ⟨fun q => ?_, fun _ => ?_⟩, fun q => absurd rfl q⟩, fun q => absurd h4 q⟩
  · rw [hpX.2.1, nI_0', nI_eq (by omega) (by decide)] at q
    omega
  have hgp : 0 < Nat.gcd P (k + 1) := Nat.gcd_pos_of_pos_left _ hP
  have hgl : Nat.gcd P (k + 1) ≤ P := Nat.le_of_dvd hP (Nat.gcd_dvd_left _ _)
  unfold wp_C_setQuota
  rw [hpX.2.1, h3, nI_1, nI_l (by omega), nI_l (by omega)]
  refine cdiv_spec (by omega) (by omega) hgp ⟨lN_ne hgp (by omega), fun σ1 e1 => ⟨lN_ne hgp (by omega), fun σ2 e2 σ3 e3 => ⟨vp_in_nI (n := 0) (by decide) (by decide), ?_⟩⟩⟩
  rw [hpX.2.1, nI_l (by omega), pk_lDiv (by omega) hgp (by omega)] at e1
  have e13 : σ1.1 0 3 = nI k := by rw [e1]; exact h3
  rw [e13, nI_1, nI_l (by omega), pk_lDiv (by omega) hgp (by omega)] at e2
  have y1 : ∀ o i, σ3.1 o i = if o = 0 ∧ i = 4 then 0 else σ.1 o i := fun o i => by rw [e3, mI_at, e2, e1]; rfl
  have y2 : ∀ o i, ¬ (o = 0) → σ3.2 o i = σ.2 o i := fun o i h => by rw [e3, mI_at2, e2, mL_at, if_neg (by omega), e1, mL_at, if_neg (by omega)]
  have y6 : σ3.2 0 6 = lN (cu P (k + 1)) := by
    rw [e3, mI_at2, e2, mL_at, if_neg (by omega), e1, mL_at, if_pos ⟨rfl, rfl⟩]
    rfl
  have y7 : σ3.2 0 7 = lN (cv P (k + 1)) := by
    rw [e3, mI_at2, e2, mL_at, if_pos ⟨rfl, rfl⟩]
    rfl
  have hcl : Int32.toNatClampNeg (0 : Int32) = 0 := by decide
  rw [hcl]
  refine clearS_spec (fun σ4 f1 f2 f3 => ?_)
  have z1 : ∀ o i, o ≠ 16 → σ4.1 o i = if o = 0 ∧ i = 4 then 0 else σ.1 o i := fun o i h => by rw [f1 o (by omega), y1]
  have z2 : ∀ o i, o ≠ 0 → o ≠ 14 → o ≠ 15 → σ4.2 o i = σ.2 o i := fun o i h a b => by rw [f2 o (by omega) (by omega), y2 o i h]
  have hmain := runX (Q := fun σ50 => Q (Int64.toInt32 (σ50.2 0 6)) σ50) (σ0 := σ4) (s := 0) (wb := wb) (vb := vb) (de := de) (to := to) (dn := dn) (wn := wn) (st2 := st2) (el2 := el2) (ov := ov) (x1 := -1) (tu := 1) (tl := 1) (D := 1) (g := g) (fr := fun _ => true) (vbO := fun _ => 1) (vb1 := fun _ => k + 1) (T0 := fun _ => 0) hI
    ⟨by rw [z1 _ _ (by decide)]; exact hX.1, by rw [z1 _ _ (by decide)]; exact hX.2.1, by rw [z1 _ _ (by decide)]; exact hX.2.2.1, fun c hc => by rw [z1 _ _ (by decide)]; exact hX.2.2.2.1 c hc, fun c hc => by rw [z1 _ _ (by decide)]; exact hX.2.2.2.2 c hc⟩
    hpI
    ⟨by rw [z1 _ _ (by decide)]; exact hpX.1, by rw [z1 _ _ (by decide)]; exact hpX.2.1, fun b hb => by rw [z1 _ _ (by decide)]; exact hpX.2.2.1 b hb, fun b hb => by rw [z2 _ _ (by decide) (by decide) (by decide)]; exact hpX.2.2.2 b hb⟩
    (by rw [z1 _ _ (by decide)]; exact h3) (by rw [z1 _ _ (by decide)]; rfl) (by decide) ⟨by rw [f2 0 (by omega) (by omega)]; exact y6, by rw [f2 0 (by omega) (by omega)]; exact y7⟩ (fun s' h => absurd h (by omega)) (fun s' h => absurd h (by omega))
    (fun b hb => by
      rw [z1 7 b (by decide), if_neg (by omega)]
      exact ⟨fun _ => rfl, fun _ => (hH b hb).1⟩)
    (fun b hb => ⟨fun _ => hwb b hb, fun q => absurd rfl q⟩) (by decide) hg hde (by omega) (by decide)
    (fun b hb _ => ⟨by decide, by decide, by rw [← hgd]; omega⟩) (fun c hc => (f3 c (by omega)).2.2)
    (fun b hb => ⟨fun _ => isF_f (hH b hb).2 (by rw [z2 _ _ (by decide) (by decide) (by decide)]) (by rw [z2 _ _ (by decide) (by decide) (by decide)]), fun q => absurd rfl q⟩)
    (fun c hc => isF_0 (f3 c (by omega)).1 (f3 c (by omega)).2.1 (by omega)) hv (fun c hc => by rw [Nat.zero_add]; exact hT c hc) hTb hw hdn hK hqb hB hst
    (fun σ' hb => by
      have h6 := hb.2.2.2.2.2.1.1
      rw [h6, lN_i]
      exact hQ σ' hb)
  exact hmain
/-- behind latest++ and followOn -/
def foX (σ : Mem) (n k el ex : Nat) (dr : Nat → Nat) (st : Nat → Int) (B : Nat) (ct rw' : Nat → Nat) (P s : Nat) (wb vb : Nat → Nat) (de : Nat) (to : Nat → Nat → Nat) (dn : Nat → Nat) (wn : Nat → Nat → Nat) : Prop :=
  rlX σ n el ex dr st ∧ plX σ B ct rw' P ∧ σ.1 0 3 = nI k ∧ σ.1 0 4 = nI (s + 1) ∧ qX σ P k ∧ (∀ b, b < B → σ.1 7 b = nI (wb b)) ∧ (∀ b, b < B → isF σ 8 b (vb b) de) ∧ tX σ n s to dn ∧ (∀ c, c ≤ n → isF σ (12 + 5 * (s + 1) + 1) c (to s c) (dn s)) ∧ (∀ s', s' ≤ s → ∀ c, c ≤ n → σ.1 (12 + 5 * s' + 4) c = nI (wn s' c)) ∧ ∀ c, c ≤ n → σ.1 (12 + 5 * (s + 1) + 4) c = 0
theorem follX {Q : Mem → Prop} {σ : Mem} (hn : n ≤ 12) (hs : s + 1 < 13) (h : bgX σ n k el ex dr st B ct rw' P s false wb vb de to dn wn) (hQ : ∀ σ', foX σ' n k el ex dr st B ct rw' P s wb vb de to dn wn → Q σ') : ∀ σ69 : Mem, σ69 = mI σ 0 4 ((σ.1 0 4) + (1 : Int32)) → (vp_in (σ69.1 0 4) 13 ∧ (vp_in ((σ69.1 0 4) - (1 : Int32)) 13 ∧ (wp_S_followOn Q (12 + 5 * (Int32.toNatClampNeg (σ69.1 0 4))) (12 + 5 * (Int32.toNatClampNeg ((σ69.1 0 4) - (1 : Int32)))) σ69))) := by
  obtain ⟨hX, hpX, h3, h4, h5, hq, hH, hV, ht, hw⟩ := h
  intro σ1 e1
  rw [h4, nI_1] at e1
  have e4 : σ1.1 0 4 = nI (s + 1) := by rw [e1, mI_at, if_pos ⟨rfl, rfl⟩]
  rw [e4, nI_pred, nI_clamp (by omega), nI_clamp (by omega)]
  refine ⟨vp_in_nI hs (by decide), vp_in_nI (by omega) (by decide), follS_spec (by omega) (fun σ2 f1 f2 f3 => hQ σ2 ?_)⟩
  have z1 : ∀ o i, o ≠ 12 + 5 * (s + 1) + 4 → ¬ (o = 0 ∧ i = 4) → σ2.1 o i = σ.1 o i := fun o i h g => by rw [f1 o h, e1, mI_at, if_neg g]
  have z2 : ∀ o, o ≠ 12 + 5 * (s + 1) + 1 + 1 → o ≠ 12 + 5 * (s + 1) + 1 + 2 → σ2.2 o = σ.2 o := fun o a b => by rw [f2 o a b, e1]; rfl
  refine ⟨⟨?_, ?_, ?_, fun c hc => ?_, fun c hc => ?_⟩, ⟨?_, ?_, fun b hb => ?_, fun b hb => ?_⟩, ?_, ?_, ⟨?_, ?_⟩, fun b hb => ?_, fun b hb => ?_, fun s' hs' c hc => ?_, fun c hc => ?_, fun s' hs' c hc => ?_, fun c hc => (f3 c (by omega)).2.2⟩
  · rw [z1 _ _ (by omega) (by omega)]; exact hX.1
  · rw [z1 _ _ (by omega) (by omega)]; exact hX.2.1
  · rw [z1 _ _ (by omega) (by omega)]; exact hX.2.2.1
  · rw [z1 _ _ (by omega) (by omega)]; exact hX.2.2.2.1 c hc
  · rw [z1 _ _ (by omega) (by omega)]; exact hX.2.2.2.2 c hc
  · rw [z1 _ _ (by omega) (by omega)]; exact hpX.1
  · rw [z1 _ _ (by omega) (by omega)]; exact hpX.2.1
  · rw [z1 _ _ (by omega) (by omega)]; exact hpX.2.2.1 b hb
  · rw [z2 _ (by omega) (by omega)]; exact hpX.2.2.2 b hb
  · rw [z1 _ _ (by omega) (by omega)]; exact h3
  · rw [f1 0 (by omega)]; exact e4
  · rw [z2 _ (by omega) (by omega)]; exact hq.1
  · rw [z2 _ (by omega) (by omega)]; exact hq.2
  · rw [z1 _ _ (by omega) (by omega)]; exact hH b hb
  · exact isF_f (hV b hb) (by rw [z2 _ (by omega) (by omega)]) (by rw [z2 _ (by omega) (by omega)])
  · exact isF_f (ht s' hs' c hc) (by rw [z2 _ (by omega) (by omega)]) (by rw [z2 _ (by omega) (by omega)])
  · have h := ht s (Nat.le_refl _) c hc
    have hf := f3 c (by omega)
    refine ⟨?_, ?_⟩
    · rw [hf.1, e1]
      exact h.1
    · rw [hf.2.1, e1]
      exact h.2
  · rw [z1 _ _ (by omega) (by omega)]; exact hw s' hs' c hc
end SX
