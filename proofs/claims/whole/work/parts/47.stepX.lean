/-! the class's step: a surplus; step whole -/
section SX
variable {n k el ex : Nat} {dr : Nat → Nat} {st : Nat → Int} {B : Nat} {ct rw' ln bo : Nat → Nat} {P s : Nat} {wb pl vb : Nat → Nat} {de : Nat} {ke : Nat → Bool} {to : Nat → Nat → Nat} {dn : Nat → Nat} {wn : Nat → Nat → Nat}
variable {g de2 c el2 : Nat} {vb2 : Nat → Nat} {toN : Nat → Nat → Nat} {dnN : Nat → Nat} {wnN : Nat → Nat → Nat} {st2 : Nat → Int} {ov : Bool}
theorem surpX_run {R : Mem → Prop} {σ : Mem} {dw mo gr : Nat} (h : foX σ n k el ex dr st B ct rw' P s wb vb de to dn wn) (hI : rlI n k el ex dr st) (hpI : plI n B ct rw' ln bo P) (hP : 1 ≤ P) (hs : s + 1 < 13) (hwb : ∀ b, b < B → wb b ≤ n) (hvb : ∀ b, b < B → vb b ≤ de) (hc : c < n) (hde : 0 < de) (hdeb : de ≤ 62500000) (hKd : (k + 1) ∣ de) (hall50 : to s c ≤ 50 * de) (hallp : 0 < to s c) (hdw : to s c = dw * gr) (hmo : to s c = qt P k de + mo * gr) (hdwp : 0 < dw) (hg : 0 < g) (hd2 : 0 < de2) (hd : dw * de = g * de2) (hd63 : dw * de < 2 ^ 63) (hdn0 : dn s = de) (hK2 : (k + 1) ∣ de2) (hv : ∀ b, b < B → vbs c dw mo wb vb b = g * vb2 b)
    (hT : ∀ d, d ≤ n → (if d = c then qt P k (dw * de) else dw * to s d) + sm (fun b => if decide (wb b = c) = true ∧ fc n st (rw' b) (ln b) = d then ct b * vbs c dw mo wb vb b else 0) B = g * toN (s + 1) d) (hTb : ∀ d, d ≤ n → g * toN (s + 1) d < 2 ^ 63) (hdn : dnN (s + 1) = de2) (hlo : ∀ s', s' ≤ s → dnN s' = dn s' ∧ ∀ d, d ≤ n → toN s' d = to s' d ∧ wnN s' d = wn s' d)
    (hwn : ∀ d, d ≤ n → wnN (s + 1) d = sm (fun b => if decide (wb b = c) = true ∧ fc n st (rw' b) (ln b) = d then ct b else 0) B) (hBN : tB n (s + 1) toN dnN) (hqb : qt P k de2 < 2 ^ 63) (hst : stl toN dr (s + 1) n k (qt P k de2) st el st2 el2 ov)
    (hQ : ∀ σ', bgX σ' n k el2 ex dr st2 B ct rw' P (s + 1) ov (wbn n c st rw' ln wb) vb2 de2 toN dnN wnN → R σ') : wp_C_passSurplus (fun σ => wp_C_settle R σ) (nI c) σ := by
  obtain ⟨hX, hpX, h3, h4, hq, hH, hV, ht, htn, hw, hA⟩ := h
  have hn := hI.2.1
  have hk4 := hI.2.2.2.1
  obtain ⟨t1, t2, t3⟩ := times_eq (all := to s c) hde hKd hP hdw hmo
  have hF := htn c (by omega)
  rw [hdn0] at hF
  have hgd : 0 < g * de2 := Nat.mul_pos hg hd2
  have hcv : 0 < cv P (k + 1) := cv_pos (by omega)
  have hcv5 : cv P (k + 1) ≤ k + 1 := cv_le
  have hcu50 : cu P (k + 1) ≤ P := cu_le
  have hP50 := hpI.1
  have hTU : 0 < cu (to s c) de := by
    rcases Nat.eq_zero_or_pos (cu (to s c) de) with e | e
    · have := cu_mul (a := to s c) (d := de)
      rw [e, Nat.zero_mul] at this
      omega
    · exact e
  have htl : 0 < cv P (k + 1) * cu (to s c) de := Nat.mul_pos hcv hTU
  have hb1 : de * (cv P (k + 1) * cu (to s c) de) < 2 ^ 63 := by
    have q1 : (k + 1) * to s c ≤ 5 * (50 * de) := Nat.mul_le_mul (by omega) hall50
    have q2 : de * (cv P (k + 1) * cu (to s c) de) ≤ 62500000 * (5 * (50 * 62500000)) := Nat.mul_le_mul hdeb (by omega)
    omega
  unfold wp_C_passSurplus
  rw [h4, nI_clamp (by omega), nI_clamp (by omega), fr13, hq.1, hq.2, hF.1, hF.2, lN_mul, lN_mul]
  refine ⟨vp_in_nI hs (by decide), vp_in_nI (by omega) (by decide), fun v1 e1 => ⟨vp_in_nI (by omega) (by decide), fun v2 e2 => ?_⟩⟩
  rw [e1, lN_sub t1] at e2
  rw [e1, e2]
  refine put_spec (u := cu P (k + 1)) (v := cv P (k + 1)) (by rw [fr13]; omega) (by omega) hcv (by omega) ?_
  generalize hσ2 : mL (mL σ (12 + 5 * (s + 1) + 1 + 1) c (lN (cu (cu P (k + 1)) (cv P (k + 1))))) (12 + 5 * (s + 1) + 1 + 2) c (lN (cv (cu P (k + 1)) (cv P (k + 1)))) = σ2
  have z1 : σ2.1 = σ.1 := by rw [← hσ2]; rfl
  have z2 : ∀ o i, ¬ (o = 12 + 5 * (s + 1) + 1 + 1 ∧ i = c) → ¬ (o = 12 + 5 * (s + 1) + 1 + 2 ∧ i = c) → σ2.2 o i = σ.2 o i := fun o i a b => by rw [← hσ2, mL_at, if_neg b, mL_at, if_neg a]
  have hmain := runX (Q := R) (σ0 := σ2) (s := s + 1) (wb := wbn n c st rw' ln wb) (vb := vb2) (de := de2) (to := toN) (dn := dnN) (wn := wnN) (st2 := st2) (el2 := el2) (ov := ov) (x1 := nI c) (tu := cv P (k + 1) * cu (to s c) de - cu P (k + 1) * cv (to s c) de) (tl := cv P (k + 1) * cu (to s c) de) (D := de) (g := g) (fr := fun b => decide (wb b = c)) (vbO := vb) (vb1 := vbs c dw mo wb vb) (T0 := fun d => if d = c then qt P k (dw * de) else dw * to s d) hI
    (by unfold rlX; rw [z1]; exact hX) hpI
    ⟨by rw [z1]; exact hpX.1, by rw [z1]; exact hpX.2.1, fun b hb => by rw [z1]; exact hpX.2.2.1 b hb, fun b hb => by rw [z2 _ _ (by omega) (by omega)]; exact hpX.2.2.2 b hb⟩
    (by rw [z1]; exact h3) (by rw [z1]; exact h4) hs ⟨by rw [z2 _ _ (by omega) (by omega)]; exact hq.1, by rw [z2 _ _ (by omega) (by omega)]; exact hq.2⟩
    (fun s' hs' d hd => by
      rw [(hlo s' (by omega)).1, ((hlo s' (by omega)).2 d hd).1]
      exact isF_f (ht s' (by omega) d hd) (z2 _ _ (by omega) (by omega)) (z2 _ _ (by omega) (by omega)))
    (fun s' hs' d hd => by
      rw [((hlo s' (by omega)).2 d hd).2, z1]
      exact hw s' (by omega) d hd)
    (fun b hb => by
      rw [z1, hH b hb]
      exact nI_wb hwb hn hc hb)
    (fun b hb => ⟨fun q => if_pos (of_decide_eq_true q), fun q => by
      rw [z1, hH b hb]
      show nI (wb b) = nI (if wb b = c then _ else wb b)
      rw [if_neg (fun w => q (decide_eq_true w))]⟩)
    hde hg hd2 (by omega) htl
    (fun b hb q => by
      have e : vbs c dw mo wb vb b = vb b * mo := if_pos (of_decide_eq_true q)
      refine ⟨Nat.lt_of_le_of_lt (Nat.mul_le_mul (hvb b hb) (Nat.sub_le _ _)) hb1, hb1, ?_⟩
      rw [e, ← hd]
      calc vb b * (cv P (k + 1) * cu (to s c) de - cu P (k + 1) * cv (to s c) de) * (dw * de) = vb b * de * ((cv P (k + 1) * cu (to s c) de - cu P (k + 1) * cv (to s c) de) * dw) := by ac_rfl
        _ = vb b * de * (mo * (cv P (k + 1) * cu (to s c) de)) := by rw [t2]
        _ = vb b * mo * (de * (cv P (k + 1) * cu (to s c) de)) := by ac_rfl)
    (fun d hd => by
      rw [z1]
      exact hA d hd)
    (fun b hb => by
      have h1 : isF σ2 8 b (vb b) de := isF_f (hV b hb) (z2 _ _ (by omega) (by omega)) (z2 _ _ (by omega) (by omega))
      refine ⟨fun _ => h1, fun q => ?_⟩
      have e : vbs c dw mo wb vb b = vb b * dw := if_neg (fun w => q (decide_eq_true w))
      rw [e]
      exact isF_sc h1 hde hgd (by rw [← hd, Nat.mul_assoc]))
    (fun d hd' => by
      by_cases e : d = c
      · subst e
        show isF σ2 _ d (if d = d then qt P k (dw * de) else dw * to s d) _
        rw [if_pos rfl]
        have h1 : isF σ2 (12 + 5 * (s + 1) + 1) d (cu P (k + 1)) (cv P (k + 1)) := by
          rw [← hσ2]
          exact put_isF
        refine isF_sc h1 hcv hgd ?_
        rw [← hd]
        have e1 := cuv_x (a := P) (d := k + 1)
        have e2 : (k + 1) * qt P k (dw * de) = P * (dw * de) := qt_K (Nat.dvd_trans hKd ⟨dw, Nat.mul_comm _ _⟩)
        apply Nat.eq_of_mul_eq_mul_left (show 0 < k + 1 by omega)
        calc (k + 1) * (cu P (k + 1) * (dw * de)) = (cu P (k + 1) * (k + 1)) * (dw * de) := by ac_rfl
          _ = P * cv P (k + 1) * (dw * de) := by rw [← e1]
          _ = (P * (dw * de)) * cv P (k + 1) := by ac_rfl
          _ = (k + 1) * qt P k (dw * de) * cv P (k + 1) := by rw [e2]
          _ = (k + 1) * (qt P k (dw * de) * cv P (k + 1)) := Nat.mul_assoc _ _ _
      · show isF σ2 _ d (if d = c then qt P k (dw * de) else dw * to s d) _
        rw [if_neg e]
        have h1 : isF σ2 (12 + 5 * (s + 1) + 1) d (to s d) de := by
          rw [← hdn0]
          exact isF_f (htn d hd') (z2 _ _ (by omega) (by omega)) (z2 _ _ (by omega) (by omega))
        exact isF_sc h1 hde hgd (by rw [← hd]; ac_rfl))
    hv hT hTb hwn hdn hK2 hqb hBN hst hQ
  exact hmain
theorem oX_bg {σ : Mem} (h : bgX σ n k el ex dr st B ct rw' P s ov wb vb de to dn wn) (hI : bgI n k el ex dr st B ct rw' ln bo P s ov wb pl vb de ke to dn) : oX σ n k el ex dr st s to dn := ⟨hI.1.1, h.1, h.2.2.2.1, s13 hI.1, h.2.2.2.2.2.2.2.2.1, hI.2.2.2.1⟩
theorem qt_le {P k de : Nat} : qt P k de ≤ P * de := Nat.mul_le_mul_left _ (Nat.div_le_self _ _)
theorem stepX_A {Q : Int32 → Mem → Prop} {E : String → Mem → Prop} {σ : Mem} (h : bgX σ n k el ex dr st B ct rw' P s false wb vb de to dn wn) (hI : bgI n k el ex dr st B ct rw' ln bo P s false wb pl vb de ke to dn) (hc : wst to dr (s + 1) n (fun c => st c = 0) c) (hno : ∀ d, d < n → 0 < st d → ¬ qt P k de < to s d) (hR : ∀ σ', foX σ' n k el ex dr st B ct rw' P s wb vb de to dn wn → wp_C_excludeAndPass (fun σ => wp_C_settle (fun σ2 => Q (nI c + 16) σ2) σ) (nI c) σ') (hs1 : s + 1 < 13) : wp_C_step Q E σ := by
  have ho := oX_bg h hI
  have hn := hI.1.1.2.1
  have hd := hI.2.2.1
  have hK := hI.1.2.2.2.2.2.1.1
  have hqb : qt P k (dn s) < 2 ^ 63 := by
    rw [hd]
    exact Nat.lt_of_le_of_lt qt_le (P_de hI.1.2.1.1 hI.1.2.2.2.2.2.1.2.2.1)
  have h61 : wp_C_step_48 Q E (-1) 0 σ ∧ ∀ x, wp_C_step_48 Q E x 0 σ := by
    have hh : wp_C_hindmost (fun r58 σ58 => wp_C_step_61 Q E 0 r58 σ58) σ := hindX_spec ho (fun _ => Iff.rfl) (fun x hx => by
      rcases hx with ⟨-, hx⟩ | ⟨b, e, hb⟩
      · exact absurd hc.2.1 (hx c hc.1)
      · subst e
        have := wst_uniq hb hc
        subst this
        exact follX hn hs1 h (fun σ' hf => ⟨fun _ => (hR σ' hf : wp_C_excludeAndPass (fun σ109 => wp_C_settle (fun σ113 => Q (nI b + 16) σ113) σ109) (nI b) σ') |> fun w => by
          have : (fun σ109 => wp_C_step_112 Q E 0 (nI b) σ109) = fun σ109 => wp_C_settle (fun σ113 => Q (nI b + 16) σ113) σ109 := by
            funext σ109
            unfold wp_C_step_112
            congr 1
            funext σ113
            apply propext
            exact ⟨fun z => z.1 rfl, fun z => ⟨fun _ => z, fun y => absurd rfl y⟩⟩
          rw [this]
          exact w, fun q => absurd rfl q⟩))
    exact ⟨⟨fun _ => hh, fun q => absurd rfl q⟩, fun x => ⟨fun _ => hh, fun q => absurd rfl q⟩⟩
  refine ⟨fun q => ?_, fun _ => ⟨Or.inr rfl, fun q => absurd q (by decide), fun _ => ⟨fun _ => foreX_spec (f := fun c => 0 < st c) ho (Or.inr ⟨rfl, fun _ => Iff.rfl⟩) (fun x hx => ⟨fun _ => h61.2 x, fun hx1 => ?_⟩), fun q => ?_⟩⟩⟩
  · rw [h.2.2.2.1] at q
    exact absurd q (m1_ne (by omega))
  · rcases hx with ⟨e, -⟩ | ⟨b, e, hb⟩
    · exact absurd e hx1
    · subst e
      refine aboveX_spec ho h.2.2.2.2.2.1 (by rw [hd]; exact hK) hqb hb.1 (fun w => ?_) (fun w => ⟨fun _ => h61.2 _, fun q => absurd rfl q⟩)
      rw [hd] at w
      exact absurd w (hno b hb.1 hb.2.1)
  · exact absurd h.2.2.2.2.1 q
theorem stepX_B {Q : Int32 → Mem → Prop} {E : String → Mem → Prop} {σ : Mem} (h : bgX σ n k el ex dr st B ct rw' P s false wb vb de to dn wn) (hI : bgI n k el ex dr st B ct rw' ln bo P s false wb pl vb de ke to dn) (hc : bst to dr (s + 1) n (fun c => 0 < st c ∧ qt P k de < to s c) c) (hR : ∀ σ', foX σ' n k el ex dr st B ct rw' P s wb vb de to dn wn → wp_C_passSurplus (fun σ => wp_C_settle (fun σ2 => Q (nI c) σ2) σ) (nI c) σ') (hs1 : s + 1 < 13) : wp_C_step Q E σ := by
  have ho := oX_bg h hI
  have hn := hI.1.1.2.1
  have hd := hI.2.2.1
  have hK := hI.1.2.2.2.2.2.1.1
  have hqb : qt P k (dn s) < 2 ^ 63 := by
    rw [hd]
    exact Nat.lt_of_le_of_lt qt_le (P_de hI.1.2.1.1 hI.1.2.2.2.2.2.1.2.2.1)
  refine ⟨fun q => ?_, fun _ => ⟨Or.inr rfl, fun q => absurd q (by decide), fun _ => ⟨fun _ => foreX_spec (f := fun c => 0 < st c) ho (Or.inr ⟨rfl, fun _ => Iff.rfl⟩) (fun x hx => ?_), fun q => ?_⟩⟩⟩
  · rw [h.2.2.2.1] at q
    exact absurd q (m1_ne (by omega))
  · rcases hx with ⟨e, hx⟩ | ⟨b, e, hb⟩
    · exact absurd hc.2.1.1 (hx c hc.1)
    · subst e
      have hbu : qt P k de < to s b := by
        by_cases e : c = b
        · subst e
          exact hc.2.1.2
        · have h1 := ahd_le (hb.2.2 c hc.1 hc.2.1.1 e)
          have h2 := hc.2.1.2
          omega
      have e : b = c := bst_uniq ⟨hb.1, ⟨hb.2.1, hbu⟩, fun d hd hf hne => hb.2.2 d hd hf.1 hne⟩ hc
      subst e
      refine ⟨fun q => absurd q (m1_ne (by have := hb.1; omega)), fun _ => aboveX_spec ho h.2.2.2.2.2.1 (by rw [hd]; exact hK) hqb hb.1 (fun w => ⟨fun q => absurd q (by decide), fun _ => ⟨fun q => absurd q (by decide), fun _ => ?_⟩⟩) (fun w => absurd hbu (by rw [hd] at w; exact w))⟩
      exact follX hn hs1 h (fun σ' hf => ⟨fun q => absurd q (by decide), fun _ => by
        have : (fun σ109 => wp_C_step_112 Q E 1 (nI b) σ109) = fun σ109 => wp_C_settle (fun σ113 => Q (nI b) σ113) σ109 := by
          funext σ109
          unfold wp_C_step_112
          congr 1
          funext σ113
          apply propext
          exact ⟨fun z => z.2 (by decide), fun z => ⟨fun y => absurd y (by decide), fun _ => z⟩⟩
        rw [this]
        exact hR σ' hf⟩)
  · exact absurd h.2.2.2.2.1 q
end SX
