/-! the reference's step -/
theorem cM_eqc {n w c : Nat} (hw : w ≤ n) (hc : c < n) (hn : n ≤ 12) : cM n w = c ↔ w = c := by
  unfold cM
  split <;> omega
section SM
variable {n k el ex : Nat} {dr : Nat → Nat} {st : Nat → Int} {B : Nat} {ct rw' ln bo : Nat → Nat} {P s : Nat} {wb pl vb : Nat → Nat} {de : Nat} {ke : Nat → Bool} {to : Nat → Nat → Nat} {dn : Nat → Nat} {wn : Nat → Nat → Nat}
variable {c el2 : Nat} {vb1 vb2 : Nat → Nat} {de1 : Nat} {toN : Nat → Nat → Nat} {dnN : Nat → Nat} {wnN : Nat → Nat → Nat} {st2 : Nat → Int} {ov : Bool}
theorem runM {Q : Int32 → Mem → Prop} {x2 : Int32} {τ0 : Mem} (hI : rlI n k el ex dr st) (hM : rlM τ0 n k el ex dr st) (hpI : plI n B ct rw' ln bo P) (hpM : plM τ0 rw' ln bo P) (h15 : τ0.1 0 15 = nI s) (hs : s < 13) (h14 : τ0.2 0 14 = lN de1) (hde : de1 < 2 ^ 63) (hg0 : 0 < de1 / (k + 1)) (hc : c < n) (hp : ∀ p, p < P → τ0.1 5 p = nI (pl (bo p)) ∧ τ0.1 6 p = nI (cM n (wb (bo p))) ∧ τ0.2 7 p = lN (vb1 (bo p))) (hv1 : ∀ b, b < B → vb1 b < 2 ^ 63) (hwb : ∀ b, b < B → wb b ≤ n) (hfo : ∀ b, b < B → wb b = c → pl b + 1 ≤ fx st (rw' b) (ln b)) (hk : keM τ0 ke) (hke : ∀ c, ke c = true → c < n) (h0 : ∀ d, d ≤ n → τ0.1 11 (13 * s + cM n d) = 0)
    (hds : dnN s = de1 / gf (fun p => vb1 (bo p)) P (de1 / (k + 1))) (hvb : ∀ b, b < B → vb2 b = vb1 b / gf (fun p => vb1 (bo p)) P (de1 / (k + 1))) (hqt : qt P k (dnN s) < 2 ^ 63) (hB : tB n s toN dnN) (hlow : ∀ s', s' < s → ∀ c, c ≤ n → τ0.2 9 (13 * s' + cM n c) = lN (toN s' c)) (hl10 : ∀ s', s' < s → τ0.2 10 s' = lN (dnN s')) (hl11 : ∀ s', s' < s → ∀ c, c ≤ n → τ0.1 11 (13 * s' + cM n c) = nI (wnN s' c)) (hw : ∀ d, d ≤ n → wnN s d = sm (fun b => if decide (wb b = c) = true ∧ fc n st (rw' b) (ln b) = d then ct b else 0) B)
    (hto : ∀ d, d ≤ n → toN s d = tot P k B ct ke (wbn n c st rw' ln wb) vb2 (dnN s) d) (hst : stl toN dr s n k (qt P k (dnN s)) st el st2 el2 ov) (hQ : ∀ τ', bgM τ' n k el2 ex dr st2 rw' ln bo P s ov (wbn n c st rw' ln wb) (pln c st rw' ln wb pl) vb2 (dnN s) ke toN dnN wnN → τ'.1 0 0 = τ0.1 0 0 → (x2 = 0 → Q (nI c + 16) τ') ∧ (¬ x2 = 0 → Q (nI c) τ')) : wp_M_step_75 Q (nI c) x2 τ0 := by
  have hn := hI.2.1
  have hP50 := hpI.1
  have hgo : ∀ t i τ3, i + t = P → gL τ0 n s P bo (fun b => decide (wb b = c)) (fun b => fc n st (rw' b) (ln b)) (fun b => fx st (rw' b) (ln b)) i τ3 → τ3.2 = τ0.2 → wp_M_step_77 Q (t + 1) (nI c) x2 (nI i) τ3 := by
    intro t
    induction t with
    | zero =>
      intro i τ3 hi hL hl
      have : i = P := by omega
      subst this
      have f1 := hL.1
      refine ⟨fun _ => ?_, fun q => ?_⟩
      · refine finM (B := B) (ct := ct) (vb1 := vb1) (de1 := de1) (wb := wbn n c st rw' ln wb) (pl := pln c st rw' ln wb pl) (vb := vb2) (ke := ke) (to := toN) (dn := dnN) (wn := wnN) hI ⟨by rw [f1 0 (by decide) (by decide) (by decide)]; exact hM.1, by rw [f1 0 (by decide) (by decide) (by decide)]; exact hM.2.1, by rw [f1 0 (by decide) (by decide) (by decide)]; exact hM.2.2.1, by rw [f1 0 (by decide) (by decide) (by decide)]; exact hM.2.2.2.1, fun c hc => by rw [f1 1 (by decide) (by decide) (by decide)]; exact hM.2.2.2.2.1 c hc, fun c hc => by rw [f1 2 (by decide) (by decide) (by decide)]; exact hM.2.2.2.2.2 c hc⟩ hpI ⟨by rw [f1 0 (by decide) (by decide) (by decide)]; exact hpM.1, fun p hp => by rw [f1 4 (by decide) (by decide) (by decide)]; exact hpM.2.1 p hp, fun p hp j hj => by rw [f1 3 (by decide) (by decide) (by decide)]; exact hpM.2.2 p hp j hj⟩ (by rw [f1 0 (by decide) (by decide) (by decide)]; exact h15) hs (by rw [hl]; exact h14) hde hg0 (fun p hp' => ⟨?_, ?_, by rw [hl]; exact (hp p hp').2.2⟩) hv1 (fun b hb => ?_) (fun c hc => by rw [f1 8 (by decide) (by decide) (by decide)]; exact hk c hc) hke hds hvb hqt hB (fun s' h c hc => by rw [hl]; exact hlow s' h c hc) (fun s' h => by rw [hl]; exact hl10 s' h) (fun s' hs' d hd => ?_) hto hst (fun τ' hb h00 => hQ τ' hb (by rw [h00, f1 0 (by decide) (by decide) (by decide)]))
        · rw [hL.2.1 p hp']
          unfold pln
          by_cases e : wb (bo p) = c
          · rw [if_pos ⟨decide_eq_true e, hp'⟩, if_pos e]
          · rw [if_neg (fun w => e (of_decide_eq_true w.1)), if_neg e]
            exact (hp p hp').1
        · rw [hL.2.2.1 p hp']
          unfold wbn
          by_cases e : wb (bo p) = c
          · rw [if_pos ⟨decide_eq_true e, hp'⟩, if_pos e]
          · rw [if_neg (fun w => e (of_decide_eq_true w.1)), if_neg e]
            exact (hp p hp').2.1
        · unfold wbn
          split
          · exact fc_le (hpI.2.1 b hb).2.2
          · exact hwb b hb
        · by_cases e : s' = s
          · subst e
            rw [gL_w hL hpI hd, hw d hd]
          · have := cM_le hd hn
            rw [hL.2.2.2.1 _ (by omega)]
            exact hl11 s' (by omega) d hd
      · rw [f1 0 (by decide) (by decide) (by decide), hpM.1] at q
        exact absurd (nI_le (Nat.le_refl _) (by omega)) q
    | succ t ih =>
      intro i τ3 hi hL hl
      have f1 := hL.1
      have hwi := hwb _ (hpI.2.2.1 i (by omega))
      have h12 := cM_le hwi hn
      refine ⟨fun q => ?_, fun _ => ⟨vp_in_nI (by omega) (by decide), ?_⟩⟩
      · rw [f1 0 (by decide) (by decide) (by decide), hpM.1] at q
        exact absurd q (nI_ge (by omega) (by omega))
      · rw [nI_clamp (by omega), hL.2.2.1 i (by omega), if_neg (by omega), (hp i (by omega)).2.1, hL.2.1 i (by omega), if_neg (by omega), (hp i (by omega)).1, nI_eq (by omega) (by omega), nI_1]
        have hcc : cM n (wb (bo i)) = c ↔ wb (bo i) = c := cM_eqc hwi hc hn
        rw [hcc]
        refine ⟨fun e => ⟨vp_in_nI (by omega) (by decide), ?_⟩, fun e v ev => ?_⟩
        · refine goM_spec (s := s) (B := B) (ct := ct) (rw' := rw') (ln := ln) (bo := bo) hI (fun c hc => by rw [f1 2 (by decide) (by decide) (by decide)]; exact hM.2.2.2.2.2 c hc) (by rw [f1 0 (by decide) (by decide) (by decide)]; exact h15) hs hpI ⟨by rw [f1 0 (by decide) (by decide) (by decide)]; exact hpM.1, fun p hp => by rw [f1 4 (by decide) (by decide) (by decide)]; exact hpM.2.1 p hp, fun p hp j hj => by rw [f1 3 (by decide) (by decide) (by decide)]; exact hpM.2.2 p hp j hj⟩ (by omega) (hfo _ (hpI.2.2.1 i (by omega)) e) (fun v ev => ?_)
          rw [nI_1] at ev
          subst ev
          exact ih (i + 1) _ (by omega) (gL_go hn (by omega) (fc_le (hpI.2.1 _ (hpI.2.2.1 i (by omega))).2.2) hL (decide_eq_true e)) hl
        · rw [nI_1] at ev
          subst ev
          exact ih (i + 1) τ3 (by omega) (gL_no hL (fun w => e (of_decide_eq_true w))) hl
  refine ⟨P + 1, ?_⟩
  rw [nI_0']
  exact hgo P 0 τ0 (by omega) (gL_0 h0) rfl
/-- behind beginStage -/
def foM (τ : Mem) (n k el ex : Nat) (dr : Nat → Nat) (st : Nat → Int) (rw' ln bo : Nat → Nat) (P s : Nat) (wb pl vb : Nat → Nat) (de : Nat) (ke : Nat → Bool) (to : Nat → Nat → Nat) (dn : Nat → Nat) (wn : Nat → Nat → Nat) : Prop :=
  rlM τ n k el ex dr st ∧ plM τ rw' ln bo P ∧ τ.1 0 15 = nI (s + 1) ∧ τ.1 0 0 = 0 ∧ τ.2 0 14 = lN de ∧ (∀ p, p < P → τ.1 5 p = nI (pl (bo p)) ∧ τ.1 6 p = nI (cM n (wb (bo p))) ∧ τ.2 7 p = lN (vb (bo p))) ∧ keM τ ke ∧ tM τ n s to ∧ (∀ s', s' ≤ s → τ.2 10 s' = lN (dn s')) ∧ (∀ s', s' ≤ s → ∀ c, c ≤ n → τ.1 11 (13 * s' + cM n c) = nI (wn s' c)) ∧ ∀ d, d ≤ n → τ.1 11 (13 * (s + 1) + cM n d) = 0
theorem begfM {Q : Mem → Prop} {τ : Mem} {ov : Bool} (hn : n ≤ 12) (hs : s + 1 < 13) (h : bgM τ n k el ex dr st rw' ln bo P s ov wb pl vb de ke to dn wn) (h00 : τ.1 0 0 = 0) (hQ : ∀ τ', foM τ' n k el ex dr st rw' ln bo P s wb pl vb de ke to dn wn → Q τ') : wp_M_beginStage Q τ := by
  obtain ⟨hM, hpM, h15, h19, h14, hp, hk, ht, h10, h11⟩ := h
  refine begM_spec (s := s + 1) (by rw [h15, nI_1]) hs (fun τ1 a1 a2 a3 a4 a5 a6 => hQ τ1 ⟨⟨?_, ?_, ?_, ?_, fun c hc => ?_, fun c hc => ?_⟩, ⟨?_, fun p hp' => ?_, fun p hp' j hj => ?_⟩, a4, ?_, ?_, fun p hp' => ⟨?_, ?_, ?_⟩, fun c hc => ?_, fun s' hs' c hc => ?_, fun s' hs' => ?_, fun s' hs' c hc => ?_, fun d hd => a6 _ (by have := cM_le hd hn; omega)⟩)
  · rw [a3 1 (by decide)]; exact hM.1
  · rw [a3 2 (by decide)]; exact hM.2.1
  · rw [a3 5 (by decide)]; exact hM.2.2.1
  · rw [a3 6 (by decide)]; exact hM.2.2.2.1
  · rw [a2 1 (by decide) (by decide)]; exact hM.2.2.2.2.1 c hc
  · rw [a2 2 (by decide) (by decide)]; exact hM.2.2.2.2.2 c hc
  · rw [a3 7 (by decide)]; exact hpM.1
  · rw [a2 4 (by decide) (by decide)]; exact hpM.2.1 p hp'
  · rw [a2 3 (by decide) (by decide)]; exact hpM.2.2 p hp' j hj
  · rw [a3 0 (by decide)]; exact h00
  · rw [a1]; exact h14
  · rw [a2 5 (by decide) (by decide)]; exact (hp p hp').1
  · rw [a2 6 (by decide) (by decide)]; exact (hp p hp').2.1
  · rw [a1]; exact (hp p hp').2.2
  · rw [a2 8 (by decide) (by decide)]; exact hk c hc
  · rw [a1]; exact ht s' hs' c hc
  · rw [a1]; exact h10 s' hs'
  · have := cM_le hc hn
    rw [a5 _ (by omega)]; exact h11 s' hs' c hc
theorem foM_ex {τ : Mem} (hn : n ≤ 12) (hc : c < n) (h : foM τ n k el ex dr st rw' ln bo P s wb pl vb de ke to dn wn) : foM (mI (mI τ 0 6 (nI (ex + 1))) 2 c (sI (-((ex + 1 : Nat) : Int)))) n k el (ex + 1) dr (va_up st c (-((ex + 1 : Nat) : Int))) rw' ln bo P s wb pl vb de ke to dn wn := by
  obtain ⟨hM, hpM, h15, h00, h14, hp, hk, ht, h10, h11, hz⟩ := h
  have y : ∀ o i, ¬ (o = 2 ∧ i = c) → ¬ (o = 0 ∧ i = 6) → (mI (mI τ 0 6 (nI (ex + 1))) 2 c (sI (-((ex + 1 : Nat) : Int)))).1 o i = τ.1 o i := fun o i a b => by rw [mI_at, if_neg a, mI_at, if_neg b]
  refine ⟨⟨?_, ?_, ?_, ?_, fun d hd => ?_, fun d hd => ?_⟩, ⟨?_, fun p hp' => ?_, fun p hp' j hj => ?_⟩, ?_, ?_, h14, fun p hp' => ⟨?_, ?_, (hp p hp').2.2⟩, fun d hd => ?_, ht, h10, fun s' hs' d hd => ?_, fun d hd => ?_⟩
  · rw [y _ _ (by omega) (by omega)]; exact hM.1
  · rw [y _ _ (by omega) (by omega)]; exact hM.2.1
  · rw [y _ _ (by omega) (by omega)]; exact hM.2.2.1
  · rw [mI_at, if_neg (by omega), mI_at, if_pos ⟨rfl, rfl⟩]
  · rw [y _ _ (by omega) (by omega)]; exact hM.2.2.2.2.1 d hd
  · by_cases e : d = c
    · subst e
      rw [mI_at, if_pos ⟨rfl, rfl⟩, va_up_self]
    · rw [y _ _ (by omega) (by omega), va_up_ne _ _ e]; exact hM.2.2.2.2.2 d hd
  · rw [y _ _ (by omega) (by omega)]; exact hpM.1
  · rw [y _ _ (by omega) (by omega)]; exact hpM.2.1 p hp'
  · rw [y _ _ (by omega) (by omega)]; exact hpM.2.2 p hp' j hj
  · rw [y _ _ (by omega) (by omega)]; exact h15
  · rw [y _ _ (by omega) (by omega)]; exact h00
  · rw [y _ _ (by omega) (by omega)]; exact (hp p hp').1
  · rw [y _ _ (by omega) (by omega)]; exact (hp p hp').2.1
  · rw [y _ _ (by omega) (by omega)]; exact hk d hd
  · rw [y _ _ (by omega) (by omega)]; exact h11 s' hs' d hd
  · rw [y _ _ (by omega) (by omega)]; exact hz d hd
theorem bgM_says {τ : Mem} {v : Int32} {ov : Bool} (h : bgM τ n k el ex dr st rw' ln bo P s ov wb pl vb de ke to dn wn) : bgM (mI τ 0 0 v) n k el ex dr st rw' ln bo P s ov wb pl vb de ke to dn wn := by
  obtain ⟨hM, hpM, h15, h19, h14, hp, hk, ht, h10, h11⟩ := h
  have y : ∀ o i, ¬ (o = 0 ∧ i = 0) → (mI τ 0 0 v).1 o i = τ.1 o i := fun o i a => by rw [mI_at, if_neg a]
  refine ⟨⟨?_, ?_, ?_, ?_, fun d hd => ?_, fun d hd => ?_⟩, ⟨?_, fun p hp' => ?_, fun p hp' j hj => ?_⟩, ?_, ?_, h14, fun p hp' => ⟨?_, ?_, (hp p hp').2.2⟩, fun d hd => ?_, ht, h10, fun s' hs' d hd => ?_⟩
  · rw [y _ _ (by omega)]; exact hM.1
  · rw [y _ _ (by omega)]; exact hM.2.1
  · rw [y _ _ (by omega)]; exact hM.2.2.1
  · rw [y _ _ (by omega)]; exact hM.2.2.2.1
  · rw [y _ _ (by omega)]; exact hM.2.2.2.2.1 d hd
  · rw [y _ _ (by omega)]; exact hM.2.2.2.2.2 d hd
  · rw [y _ _ (by omega)]; exact hpM.1
  · rw [y _ _ (by omega)]; exact hpM.2.1 p hp'
  · rw [y _ _ (by omega)]; exact hpM.2.2 p hp' j hj
  · rw [y _ _ (by omega)]; exact h15
  · rw [y _ _ (by omega)]; exact h19
  · rw [y _ _ (by omega)]; exact (hp p hp').1
  · rw [y _ _ (by omega)]; exact (hp p hp').2.1
  · rw [y _ _ (by omega)]; exact hk d hd
  · rw [y _ _ (by omega)]; exact h11 s' hs' d hd
theorem oM_bg {τ : Mem} {ov : Bool} (h : bgM τ n k el ex dr st rw' ln bo P s ov wb pl vb de ke to dn wn) (hI : bgI n k el ex dr st B ct rw' ln bo P s ov wb pl vb de ke to dn) : oM τ n k el ex dr st s to dn ∧ mq τ P k (dn s) := by
  have hb := P_de hI.1.2.1.1 hI.1.2.2.2.2.2.1.2.2.1
  have hP := hI.1.2.2.1
  refine ⟨⟨hI.1.1, h.1, h.2.2.1, s13 hI.1, h.2.2.2.2.2.2.2.1, hI.2.2.2.1⟩, h.2.1.1, hI.1.2.1.1, ?_, (hI.2.2.2.1 s (Nat.le_refl _)).2.1, ?_, hI.1.1.2.2.2.1, h.1.2.1⟩
  · rw [hI.2.2.1]; exact h.2.2.2.2.1
  · rw [hI.2.2.1]; exact Nat.lt_of_le_of_lt qt_le hb
theorem stepM_A {Q : Int32 → Mem → Prop} {τ : Mem} (h : bgM τ n k el ex dr st rw' ln bo P s false wb pl vb de ke to dn wn) (hI : bgI n k el ex dr st B ct rw' ln bo P s false wb pl vb de ke to dn) (hc : wst to dr (s + 1) n (fun c => st c = 0) c) (hno : ∀ d, d < n → 0 < st d → ¬ qt P k de < to s d) (hs1 : s + 1 < 13) (hR : ∀ τ', foM τ' n k el (ex + 1) dr (va_up st c (-((ex + 1 : Nat) : Int))) rw' ln bo P s wb pl vb de ke to dn wn → wp_M_step_75 Q (nI c) 0 τ') : wp_M_step Q τ := by
  have hn := hI.1.1.2.1
  have hsum := hI.1.1.2.2.2.2.2.2.2.2
  have h1 := bgM_says (v := 0) h
  obtain ⟨ho, hq⟩ := oM_bg h1 hI
  unfold wp_M_step
  rw [h.2.2.1, h.2.2.2.1]
  refine ⟨fun q => absurd q (nI_pos (by omega)), fun _ => ⟨fun _ => says_spec (fun _ => ⟨fun q => absurd q (by decide), fun _ => ?_⟩) (fun q => absurd rfl q), fun q => absurd rfl q⟩⟩
  refine firstM_spec (g := fun c => 0 < st c) (f := fun c => 0 < st c ∧ qt P k (dn s) < to s c) ho hq (Or.inr ⟨rfl, fun _ => Iff.rfl⟩) (Or.inr ⟨rfl, fun _ => Iff.rfl⟩) (fun x hx => ?_)
  rcases hx with ⟨e, -⟩ | ⟨b, -, hb⟩
  · subst e
    refine ⟨fun _ => ⟨fun _ => lastM_spec ho (fun _ => Iff.rfl) (fun y hy => ?_), fun q => absurd rfl q⟩, fun q => absurd (by decide) q⟩
    rcases hy with ⟨-, hy⟩ | ⟨b, e, hb⟩
    · exact absurd hc.2.1 (hy c hc.1)
    · subst e
      have := wst_uniq hb hc
      subst this
      refine begfM hn hs1 h1 (by rw [mI_at, if_pos ⟨rfl, rfl⟩]) (fun τ' hf => ⟨fun _ => exclM_spec hf.1.2.2.2.1 (by omega) (by have := hc.1; omega) (hR _ (foM_ex hn hc.1 hf)), fun q => absurd rfl q⟩)
  · have := hb.2.1.2
    rw [hI.2.2.1] at this
    exact absurd this (hno b hb.1 hb.2.1.1)
theorem passM_spec {Q : Mem → Prop} {τ : Mem} {ov : Bool} (h : bgM τ n k el ex dr st rw' ln bo P s ov wb pl vb de ke to dn wn) (hI : bgI n k el ex dr st B ct rw' ln bo P s ov wb pl vb de ke to dn) (h00 : τ.1 0 0 = 0) (hc : c < n) (habove : qt P k de < to s c) (hQ : ∀ τ', bgM τ' n k el ex dr st rw' ln bo P s ov wb pl (vbs c (to s c / Nat.gcd (to s c) (to s c - qt P k de)) ((to s c - qt P k de) / Nat.gcd (to s c) (to s c - qt P k de)) wb vb) (to s c / Nat.gcd (to s c) (to s c - qt P k de) * de) (va_up ke c true) to dn wn → τ'.1 0 0 = 0 → Q τ') : wp_M_pass Q (nI c) τ := by
  obtain ⟨ho, hq⟩ := oM_bg h hI
  have hn := hI.1.1.2.1
  have hd := hI.2.2.1
  have hab := (hI.2.2.2.1 s (Nat.le_refl _)).2.2 c (by omega)
  have hP50 := hI.1.2.1.1
  have hgp : 0 < Nat.gcd (to s c) (to s c - qt P k de) := Nat.gcd_pos_of_pos_left _ (by omega)
  have hgl : Nat.gcd (to s c) (to s c - qt P k de) ≤ to s c := Nat.le_of_dvd (by omega) (Nat.gcd_dvd_left _ _)
  unfold wp_M_pass
  rw [h.2.2.1]
  refine at_spec' ho.2.2.2.2.1 ho.2.2.2.1 (Nat.le_refl _) hn hc (quotaM_spec hq (fun v e => ?_))
  rw [hd, lN_sub (by omega)] at e
  subst e
  refine common_spec hab (by omega) ⟨lN_ne hgp (by omega), fun w e => ?_⟩
  rw [pk_lDiv hab hgp (by omega)] at e
  subst e
  obtain ⟨hM, hpM, h15, h19, h14, hp, hk, ht, h10, h11⟩ := h
  generalize hG : Nat.gcd (to s c) (to s c - qt P k de) = G at hQ hgp hgl ⊢
  have hwb := fun b hb => (hI.1.2.2.2.2.2.2.1 b hb).2.1
  have hbo := hI.1.2.1.2.2.1
  have hgo : ∀ t i τ3, i + t = P → τ3.1 = τ.1 → (∀ o, o ≠ 7 → τ3.2 o = τ.2 o) → (∀ p, p < i → τ3.2 7 p = lN (vbs c (to s c / G) ((to s c - qt P k de) / G) wb vb (bo p))) → (∀ p, i ≤ p → p < P → τ3.2 7 p = lN (vb (bo p))) → wp_M_pass_35 Q (t + 1) (nI c) (lN (to s c - qt P k de)) (lN G) (lN (to s c / G)) (nI i) τ3 := by
    intro t
    induction t with
    | zero =>
      intro i τ3 hi b1 b2 b3 b4
      have : i = P := by omega
      subst this
      refine ⟨fun _ τ4 e4 => ⟨vp_in_nI (by omega) (by decide), fun τ5 e5 => ?_⟩, fun q => ?_⟩
      · rw [b2 0 (by decide), h14, lN_mul, Nat.mul_comm] at e4
        rw [nI_clamp (by omega), show vp_nar .boolean (1 : Int32) = 1 by decide] at e5
        have z1 : ∀ o j, ¬ (o = 8 ∧ j = c) → τ5.1 o j = τ.1 o j := fun o j q => by rw [e5, mI_at, if_neg q, e4, mL_at1, b1]
        have z2 : ∀ o j, o ≠ 7 → ¬ (o = 0 ∧ j = 14) → τ5.2 o j = τ.2 o j := fun o j q q2 => by rw [e5, mI_at2, e4, mL_at, if_neg q2, b2 o q]
        refine hQ τ5 ⟨⟨?_, ?_, ?_, ?_, fun d hd => ?_, fun d hd => ?_⟩, ⟨?_, fun p hp' => ?_, fun p hp' j hj => ?_⟩, ?_, ?_, ?_, fun p hp' => ⟨?_, ?_, ?_⟩, fun d hd => ?_, fun s' hs' d hd => ?_, fun s' hs' => ?_, fun s' hs' d hd => ?_⟩ ?_
        · rw [z1 _ _ (by omega)]; exact hM.1
        · rw [z1 _ _ (by omega)]; exact hM.2.1
        · rw [z1 _ _ (by omega)]; exact hM.2.2.1
        · rw [z1 _ _ (by omega)]; exact hM.2.2.2.1
        · rw [z1 _ _ (by omega)]; exact hM.2.2.2.2.1 d hd
        · rw [z1 _ _ (by omega)]; exact hM.2.2.2.2.2 d hd
        · rw [z1 _ _ (by omega)]; exact hpM.1
        · rw [z1 _ _ (by omega)]; exact hpM.2.1 p hp'
        · rw [z1 _ _ (by omega)]; exact hpM.2.2 p hp' j hj
        · rw [z1 _ _ (by omega)]; exact h15
        · rw [z1 _ _ (by omega)]; exact h19
        · rw [e5, mI_at2, e4, mL_at, if_pos ⟨rfl, rfl⟩]
        · rw [z1 _ _ (by omega)]; exact (hp p hp').1
        · rw [z1 _ _ (by omega)]; exact (hp p hp').2.1
        · rw [e5, mI_at2, e4, mL_at, if_neg (by omega)]; exact b3 p hp'
        · by_cases e : d = c
          · subst e
            rw [e5, mI_at, if_pos ⟨rfl, rfl⟩, va_up_self, if_pos rfl]
          · rw [z1 _ _ (by omega), va_up_ne _ _ e]; exact hk d hd
        · rw [z2 _ _ (by omega) (by omega)]; exact ht s' hs' d hd
        · rw [z2 _ _ (by omega) (by omega)]; exact h10 s' hs'
        · rw [z1 _ _ (by omega)]; exact h11 s' hs' d hd
        · rw [z1 _ _ (by omega)]; exact h00
      · rw [b1, hpM.1] at q
        exact absurd (nI_le (Nat.le_refl _) (by omega)) q
    | succ t ih =>
      intro i τ3 hi b1 b2 b3 b4
      have hwi := hwb _ (hbo i (by omega))
      have h12 := cM_le hwi hn
      have hcc : cM n (wb (bo i)) = c ↔ wb (bo i) = c := cM_eqc hwi hc hn
      have hnext : ∀ x : Nat, vbs c (to s c / G) ((to s c - qt P k de) / G) wb vb (bo i) = vb (bo i) * x → wp_M_pass_73 Q (wp_M_pass_35 Q (t + 1)) (nI c) (lN (to s c - qt P k de)) (lN G) (lN (to s c / G)) (nI i) (lN x) (lN (vb (bo i))) (nI i) τ3 := fun x hx => by
        refine ⟨vp_in_nI (by omega) (by decide), fun τ4 e4 v e => ?_⟩
        rw [nI_1] at e
        subst e
        rw [nI_clamp (by omega), lN_mul, ← hx] at e4
        subst e4
        refine ih (i + 1) _ (by omega) b1 (fun o ho => ?_) (fun p hp' => ?_) (fun p h1 h2 => ?_)
        · rw [(mL_ne o ho).2]; exact b2 o ho
        · rw [mL_at]
          by_cases e : p = i
          · subst e
            rw [if_pos ⟨rfl, rfl⟩]
          · rw [if_neg (by omega)]; exact b3 p (by omega)
        · rw [mL_at, if_neg (by omega)]; exact b4 p (by omega) h2
      refine ⟨fun q => ?_, fun _ => ⟨vp_in_nI (by omega) (by decide), vp_in_nI (by omega) (by decide), ?_⟩⟩
      · rw [b1, hpM.1] at q
        exact absurd q (nI_ge (by omega) (by omega))
      · rw [nI_clamp (by omega), b1, (hp i (by omega)).2.1, nI_eq (by omega) (by omega), hcc, b4 i (Nat.le_refl _) (by omega), pk_lDiv (by omega) hgp (by omega)]
        exact ⟨fun e => ⟨lN_ne hgp (by omega), hnext _ (if_pos e)⟩, fun e => hnext _ (if_neg e)⟩
  refine ⟨P + 1, ?_⟩
  rw [nI_0']
  exact hgo P 0 τ (by omega) rfl (fun _ _ => rfl) (fun p hp' => absurd hp' (by omega)) (fun p _ hp' => (hp p hp').2.2)
theorem stepM_B {Q : Int32 → Mem → Prop} {τ : Mem} (h : bgM τ n k el ex dr st rw' ln bo P s false wb pl vb de ke to dn wn) (hI : bgI n k el ex dr st B ct rw' ln bo P s false wb pl vb de ke to dn) (hc : bst to dr (s + 1) n (fun c => 0 < st c ∧ qt P k de < to s c) c) (hs1 : s + 1 < 13) (hR : ∀ τ', foM τ' n k el ex dr st rw' ln bo P s wb pl (vbs c (to s c / Nat.gcd (to s c) (to s c - qt P k de)) ((to s c - qt P k de) / Nat.gcd (to s c) (to s c - qt P k de)) wb vb) (to s c / Nat.gcd (to s c) (to s c - qt P k de) * de) (va_up ke c true) to dn wn → wp_M_step_75 Q (nI c) 1 τ') : wp_M_step Q τ := by
  have hn := hI.1.1.2.1
  have h1 := bgM_says (v := 0) h
  obtain ⟨ho, hq⟩ := oM_bg h1 hI
  unfold wp_M_step
  rw [h.2.2.1, h.2.2.2.1]
  have hs := s13 hI.1
  refine ⟨fun q => absurd q (nI_pos (by omega)), fun _ => ⟨fun _ => says_spec (fun _ => ⟨fun q => absurd q (by decide), fun _ => ?_⟩) (fun q => absurd rfl q), fun q => absurd rfl q⟩⟩
  refine firstM_spec (g := fun c => 0 < st c) (f := fun c => 0 < st c ∧ qt P k de < to s c) ho hq (Or.inr ⟨rfl, fun _ => Iff.rfl⟩) (Or.inr ⟨rfl, fun c => by rw [hI.2.2.1]⟩) (fun x hx => ?_)
  rcases hx with ⟨-, hx⟩ | ⟨b, e, hb⟩
  · exact absurd hc.2.1 (hx c hc.1)
  · subst e
    have := bst_uniq hb hc
    subst this
    refine ⟨fun q => absurd q (nI_pos (by have := hb.1; omega)), fun _ => ⟨fun q => absurd q (by decide), fun _ => passM_spec h1 hI (by rw [mI_at, if_pos ⟨rfl, rfl⟩]) hb.1 hb.2.1.2 (fun τ' hb' h00 => begfM hn hs1 hb' h00 (fun τ2 hf => ⟨fun q => absurd q (by decide), fun _ => hR τ2 hf⟩))⟩⟩
end SM
