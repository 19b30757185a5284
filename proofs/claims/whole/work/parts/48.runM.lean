/-! the reference's stages -/
def bgM (τ : Mem) (n k el ex : Nat) (dr : Nat → Nat) (st : Nat → Int) (rw' ln bo : Nat → Nat) (P s : Nat) (ov : Bool) (wb pl vb : Nat → Nat) (de : Nat) (ke : Nat → Bool) (to : Nat → Nat → Nat) (dn : Nat → Nat) (wn : Nat → Nat → Nat) : Prop :=
  rlM τ n k el ex dr st ∧ plM τ rw' ln bo P ∧ τ.1 0 15 = nI s ∧ τ.1 0 19 = ovI ov ∧ τ.2 0 14 = lN de ∧ (∀ p, p < P → τ.1 5 p = nI (pl (bo p)) ∧ τ.1 6 p = nI (cM n (wb (bo p))) ∧ τ.2 7 p = lN (vb (bo p))) ∧ keM τ ke ∧ tM τ n s to ∧ (∀ s', s' ≤ s → τ.2 10 s' = lN (dn s')) ∧ ∀ s', s' ≤ s → ∀ c, c ≤ n → τ.1 11 (13 * s' + cM n c) = nI (wn s' c)
section RM
variable {n k el ex : Nat} {dr : Nat → Nat} {st : Nat → Int} {B : Nat} {ct rw' ln bo : Nat → Nat} {P s : Nat} {wb pl vb : Nat → Nat} {de : Nat} {ke : Nat → Bool} {to : Nat → Nat → Nat} {dn : Nat → Nat} {wn : Nat → Nat → Nat}
theorem smP_tot {c : Nat} (h : plI n B ct rw' ln bo P) : smP P k de ke (fun p => wb (bo p)) (fun p => vb (bo p)) c = tot P k B ct ke wb vb de c := by
  unfold smP tot cs
  have := h.2.2.2.2 (fun b => if wb b = c then vb b else 0)
  rw [this]
  congr 1
  refine sm_congr (fun b _ => ?_)
  by_cases e : wb b = c <;> simp [e]
theorem finM {Q : Mem → Prop} {τ : Mem} {vb1 : Nat → Nat} {de1 el2 : Nat} {st2 : Nat → Int} {ov : Bool} (hI : rlI n k el ex dr st) (hM : rlM τ n k el ex dr st) (hpI : plI n B ct rw' ln bo P) (hpM : plM τ rw' ln bo P) (h15 : τ.1 0 15 = nI s) (hs : s < 13) (h14 : τ.2 0 14 = lN de1) (hde : de1 < 2 ^ 63) (hg0 : 0 < de1 / (k + 1)) (hp : ∀ p, p < P → τ.1 5 p = nI (pl (bo p)) ∧ τ.1 6 p = nI (cM n (wb (bo p))) ∧ τ.2 7 p = lN (vb1 (bo p))) (hv1 : ∀ b, b < B → vb1 b < 2 ^ 63) (hwb : ∀ b, b < B → wb b ≤ n) (hk : keM τ ke) (hke : ∀ c, ke c = true → c < n)
    (hds : dn s = de1 / gf (fun p => vb1 (bo p)) P (de1 / (k + 1))) (hvb : ∀ b, b < B → vb b = vb1 b / gf (fun p => vb1 (bo p)) P (de1 / (k + 1))) (hqt : qt P k (dn s) < 2 ^ 63) (hB : tB n s to dn) (hlow : ∀ s', s' < s → ∀ c, c ≤ n → τ.2 9 (13 * s' + cM n c) = lN (to s' c)) (hl10 : ∀ s', s' < s → τ.2 10 s' = lN (dn s')) (hw : ∀ s', s' ≤ s → ∀ c, c ≤ n → τ.1 11 (13 * s' + cM n c) = nI (wn s' c))
    (hto : ∀ c, c ≤ n → to s c = tot P k B ct ke wb vb (dn s) c) (hst : stl to dr s n k (qt P k (dn s)) st el st2 el2 ov) (hQ : ∀ τ', bgM τ' n k el2 ex dr st2 rw' ln bo P s ov wb pl vb (dn s) ke to dn wn → τ'.1 0 0 = τ.1 0 0 → Q τ') : wp_M_endStage Q τ := by
  refine endStageM_spec (wb := fun p => wb (bo p)) (v := fun p => vb1 (bo p)) hI hM h15 hs hpM.1 hpI.1 h14 hde hg0 (fun p hp' => ⟨(hp p hp').2.2, hv1 _ (hpI.2.2.1 p hp')⟩) hk hke (fun p hp' => ⟨(hp p hp').2.1, hwb _ (hpI.2.2.1 p hp')⟩) hds hqt hB hlow (fun c hc => ?_) hst (fun τ' a1 a2 a3 a4 a5 a6 a7 a8 => hQ τ' ⟨a1.2.1, ⟨?_, fun p hp' => ?_, fun p hp' j hj => ?_⟩, a1.2.2.1, a4, a5, fun p hp' => ⟨?_, ?_, ?_⟩, fun c hc => ?_, a1.2.2.2.2.1, fun s' hs' => ?_, fun s' hs' c hc => ?_⟩ ?_)
  · rw [hto c hc, ← smP_tot (ke := ke) (k := k) hpI]
    unfold smP
    congr 1
    exact sm_congr (fun p hp' => by
      show (if wb (bo p) = c then vb (bo p) else 0) = if wb (bo p) = c then vb1 (bo p) / _ else 0
      rw [hvb _ (hpI.2.2.1 p hp')])
  · rw [a3 7 (by decide) (by decide)]; exact hpM.1
  · rw [a2 4 (by decide) (by decide)]; exact hpM.2.1 p hp'
  · rw [a2 3 (by decide) (by decide)]; exact hpM.2.2 p hp' j hj
  · rw [a2 5 (by decide) (by decide)]; exact (hp p hp').1
  · rw [a2 6 (by decide) (by decide)]; exact (hp p hp').2.1
  · rw [a6 p hp', hvb _ (hpI.2.2.1 p hp')]
  · rw [a2 8 (by decide) (by decide)]; exact hk c hc
  · by_cases e : s' = s
    · rw [e]; exact a7
    · rw [a8 s' e]; exact hl10 s' (by omega)
  · rw [a2 11 (by decide) (by decide)]; exact hw s' hs' c hc
  · rw [a3 0 (by decide) (by decide)]
def suM (τ : Mem) (n k el ex : Nat) (dr : Nat → Nat) (st : Nat → Int) (rw' ln bo : Nat → Nat) (P : Nat) : Prop :=
  rlM τ n k el ex dr st ∧ plM τ rw' ln bo P ∧ τ.1 0 15 = -1 ∧ τ.1 0 19 = 0 ∧ ∀ c, c < 12 → τ.1 8 c = 0
theorem gL_w {τ0 τ : Mem} {fr : Nat → Bool} {fb pb : Nat → Nat} {c : Nat} (h : gL τ0 n s P bo fr fb pb P τ) (hpI : plI n B ct rw' ln bo P) (hc : c ≤ n) : τ.1 11 (13 * s + cM n c) = nI (sm (fun b => if fr b = true ∧ fb b = c then ct b else 0) B) := by
  rw [h.2.2.2.2 c hc]
  have := hpI.2.2.2.2 (fun b => if fr b = true ∧ fb b = c then 1 else 0)
  rw [this]
  congr 1
  exact sm_congr (fun b _ => by
    by_cases e : fr b = true ∧ fb b = c
    · rw [if_pos e, if_pos e, Nat.mul_one]
    · rw [if_neg e, if_neg e, Nat.mul_zero])
theorem openM_spec {Q : Int32 → Mem → Prop} {τ : Mem} {el2 : Nat} {st2 : Nat → Int} {ov : Bool} (hS : suM τ n k el ex dr st rw' ln bo P) (hI : rlI n k el ex dr st) (hpI : plI n B ct rw' ln bo P) (hP : 1 ≤ P)
    (hwb : ∀ b, b < B → wb b = fc n st (rw' b) (ln b)) (hpl : ∀ b, b < B → pl b = fx st (rw' b) (ln b)) (hds : dn 0 = (k + 1) / gf (fun _ => k + 1) P ((k + 1) / (k + 1))) (hvb : ∀ b, b < B → vb b = (k + 1) / gf (fun _ => k + 1) P ((k + 1) / (k + 1))) (hqt : qt P k (dn 0) < 2 ^ 63) (hB : tB n 0 to dn)
    (hw : ∀ c, c ≤ n → wn 0 c = sm (fun b => if true = true ∧ fc n st (rw' b) (ln b) = c then ct b else 0) B) (hto : ∀ c, c ≤ n → to 0 c = tot P k B ct (fun _ => false) wb vb (dn 0) c) (hst : stl to dr 0 n k (qt P k (dn 0)) st el st2 el2 ov) (hQ : ∀ τ', bgM τ' n k el2 ex dr st2 rw' ln bo P 0 ov wb pl vb (dn 0) (fun _ => false) to dn wn → τ'.1 0 0 = 0 → Q (nI (cu P (k + 1))) τ') : wp_M_open Q τ := by
  obtain ⟨hM, hpM, h15, h19, h8⟩ := hS
  have hk4 := hI.2.2.2.1
  have hn := hI.2.1
  have hP50 := hpI.1
  unfold wp_M_open
  rw [h15, hpM.1]
  refine ⟨fun q => absurd q (by decide), fun _ => ⟨fun q => ?_, fun _ => says_spec (fun _ => ⟨fun q => absurd q (by decide), fun _ => ?_⟩) (fun q => absurd rfl q)⟩⟩
  · rw [nI_0', nI_eq (by omega) (by decide)] at q
    omega
  refine begM_spec (s := 0) (by rw [mI_at, if_neg (by omega), h15]; decide) (by decide) (fun τ1 a1 a2 a3 a4 a5 a6 τ2 e2 => ?_)
  have b1 : τ2.1 = τ1.1 := by rw [e2]; rfl
  have c0 : ∀ i, i ≠ 15 → i ≠ 0 → τ2.1 0 i = τ.1 0 i := fun i hi hi0 => by rw [b1, a3 i hi, mI_at, if_neg (by omega)]
  have c00 : τ2.1 0 0 = 0 := by rw [b1, a3 0 (by decide), mI_at, if_pos ⟨rfl, rfl⟩]
  have co : ∀ o, o ≠ 0 → o ≠ 11 → τ2.1 o = τ.1 o := fun o o0 o11 => by rw [b1, a2 o o0 o11, (mI_ne o o0).1]
  have c15 : τ2.1 0 15 = nI 0 := by rw [b1]; exact a4
  rw [k1 (by rw [a3 2 (by decide), mI_at, if_neg (by omega)]; exact hM.2.1) hk4] at e2
  have c14 : τ2.2 0 14 = lN (k + 1) := by rw [e2, mL_at, if_pos ⟨rfl, rfl⟩]
  have hM2 : rlM τ2 n k el ex dr st := ⟨by rw [c0 1 (by decide) (by decide)]; exact hM.1, by rw [c0 2 (by decide) (by decide)]; exact hM.2.1, by rw [c0 5 (by decide) (by decide)]; exact hM.2.2.1, by rw [c0 6 (by decide) (by decide)]; exact hM.2.2.2.1, fun c hc => by rw [co 1 (by decide) (by decide)]; exact hM.2.2.2.2.1 c hc, fun c hc => by rw [co 2 (by decide) (by decide)]; exact hM.2.2.2.2.2 c hc⟩
  have hpM2 : plM τ2 rw' ln bo P := ⟨by rw [c0 7 (by decide) (by decide)]; exact hpM.1, fun p hp => by rw [co 4 (by decide) (by decide)]; exact hpM.2.1 p hp, fun p hp j hj => by rw [co 3 (by decide) (by decide)]; exact hpM.2.2 p hp j hj⟩
  have hgo : ∀ t i τ3, i + t = P → gL τ2 n 0 P bo (fun _ => true) (fun b => fc n st (rw' b) (ln b)) (fun b => fx st (rw' b) (ln b)) i τ3 → (∀ o, o ≠ 7 → τ3.2 o = τ2.2 o) → (∀ p, p < i → τ3.2 7 p = lN (k + 1)) → wp_M_open_45 Q (t + 1) (nI i) τ3 := by
    intro t
    induction t with
    | zero =>
      intro i τ3 hi hL hl hv
      have : i = P := by omega
      subst this
      have f1 := hL.1
      refine ⟨fun _ => ?_, fun q => ?_⟩
      · refine finM (B := B) (ct := ct) (vb1 := fun _ => k + 1) (de1 := k + 1) (wb := wb) (pl := pl) (vb := vb) (ke := fun _ => false) (to := to) (dn := dn) (wn := wn) hI ⟨by rw [f1 0 (by decide) (by decide) (by decide)]; exact hM2.1, by rw [f1 0 (by decide) (by decide) (by decide)]; exact hM2.2.1, by rw [f1 0 (by decide) (by decide) (by decide)]; exact hM2.2.2.1, by rw [f1 0 (by decide) (by decide) (by decide)]; exact hM2.2.2.2.1, fun c hc => by rw [f1 1 (by decide) (by decide) (by decide)]; exact hM2.2.2.2.2.1 c hc, fun c hc => by rw [f1 2 (by decide) (by decide) (by decide)]; exact hM2.2.2.2.2.2 c hc⟩ hpI ⟨by rw [f1 0 (by decide) (by decide) (by decide)]; exact hpM2.1, fun p hp => by rw [f1 4 (by decide) (by decide) (by decide)]; exact hpM2.2.1 p hp, fun p hp j hj => by rw [f1 3 (by decide) (by decide) (by decide)]; exact hpM2.2.2 p hp j hj⟩ (by rw [f1 0 (by decide) (by decide) (by decide)]; exact c15) (by decide) (by rw [hl 0 (by decide)]; exact c14) (by omega) (by rw [Nat.div_self (by omega)]; omega) (fun p hp => ⟨?_, ?_, hv p hp⟩) (fun b _ => by omega) (fun b hb => by rw [hwb b hb]; exact fc_le (hpI.2.1 b hb).2.2) (fun c hc => ?_) (fun c hc => absurd hc (by decide)) hds hvb hqt hB (fun s' h => absurd h (by omega)) (fun s' h => absurd h (by omega)) (fun s' hs' c hc => ?_) hto hst (fun τ' hb h00 => ?_)
        · rw [hL.2.1 p hp, if_pos ⟨rfl, hp⟩, hpl _ (hpI.2.2.1 p hp)]
        · rw [hL.2.2.1 p hp, if_pos ⟨rfl, hp⟩, hwb _ (hpI.2.2.1 p hp)]
        · rw [f1 8 (by decide) (by decide) (by decide), co 8 (by decide) (by decide), h8 c hc]
          rfl
        · have : s' = 0 := by omega
          subst this
          rw [gL_w hL hpI hc, hw c hc]
        · have h7 := hb.2.1.1
          have h2 := hb.1.2.1
          have hgp : 0 < Nat.gcd i (k + 1) := Nat.gcd_pos_of_pos_left _ hP
          have hgl : Nat.gcd i (k + 1) ≤ i := Nat.le_of_dvd hP (Nat.gcd_dvd_left _ _)
          rw [h7, k1 h2 hk4, nI_l (by omega)]
          refine common_spec (by omega) (by omega) ?_
          rw [lN_i, pk_div (by omega) hgp (by omega)]
          refine ⟨nI_ne0 hgp (by omega), hQ τ' hb ?_⟩
          rw [h00, f1 0 (by decide) (by decide) (by decide)]
          exact c00
      · rw [f1 0 (by decide) (by decide) (by decide), hpM2.1] at q
        exact absurd (nI_le (Nat.le_refl _) (by omega)) q
    | succ t ih =>
      intro i τ3 hi hL hl hv
      have f1 := hL.1
      refine ⟨fun q => ?_, fun _ => ⟨vp_in_nI (by omega) (by decide), fun τ4 e4 => ?_⟩⟩
      · rw [f1 0 (by decide) (by decide) (by decide), hpM2.1] at q
        exact absurd q (nI_ge (by omega) (by omega))
      · rw [nI_clamp (by omega), hl 0 (by decide), c14] at e4
        have d1 : τ4.1 = τ3.1 := by rw [e4]; rfl
        rw [nI_0']
        refine goM_spec (s := 0) (B := B) (ct := ct) (rw' := rw') (ln := ln) (bo := bo) hI (fun c hc => by rw [d1, f1 2 (by decide) (by decide) (by decide)]; exact hM2.2.2.2.2.2 c hc) (by rw [d1, f1 0 (by decide) (by decide) (by decide)]; exact c15) (by decide) hpI ⟨by rw [d1, f1 0 (by decide) (by decide) (by decide)]; exact hpM2.1, fun p hp => by rw [d1, f1 4 (by decide) (by decide) (by decide)]; exact hpM2.2.1 p hp, fun p hp j hj => by rw [d1, f1 3 (by decide) (by decide) (by decide)]; exact hpM2.2.2 p hp j hj⟩ (by omega) (by omega) (fun v e => ?_)
        rw [nI_1] at e
        subst e
        have hL4 : gL τ2 n 0 P bo (fun _ => true) (fun b => fc n st (rw' b) (ln b)) (fun b => fx st (rw' b) (ln b)) i τ4 := by
          unfold gL
          rw [d1]
          exact hL
        refine ih (i + 1) _ (by omega) (gL_go hn (by omega) (fc_le (hpI.2.1 _ (hpI.2.2.1 i (by omega))).2.2) hL4 rfl) (fun o ho => ?_) (fun p hp => ?_)
        · show τ4.2 o = τ2.2 o
          rw [e4, (mL_ne o ho).2]
          exact hl o ho
        · show τ4.2 7 p = _
          rw [e4, mL_at]
          by_cases e : p = i
          · rw [if_pos ⟨rfl, e⟩]
          · rw [if_neg (by omega)]
            exact hv p (by omega)
  refine ⟨P + 1, ?_⟩
  rw [nI_0']
  exact hgo P 0 τ2 (by omega) (gL_0 (fun c hc => by rw [b1]; exact a6 _ (by have := cM_le hc hn; omega))) (fun _ _ => rfl) (fun p hp => absurd hp (by omega))
end RM
