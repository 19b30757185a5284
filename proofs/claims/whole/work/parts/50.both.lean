/-! both sides: open, step -/
def suI (n k el ex : Nat) (dr : Nat → Nat) (st : Nat → Int) (B : Nat) (ct rw' ln bo : Nat → Nat) (P : Nat) : Prop := rlI n k el ex dr st ∧ plI n B ct rw' ln bo P ∧ el = 0 ∧ cnp st n = 0
def Rs (σ τ : Mem) : Prop := ∃ (n k el ex : Nat) (dr : Nat → Nat) (st : Nat → Int) (B : Nat) (ct rw' ln bo : Nat → Nat) (P : Nat), suI n k el ex dr st B ct rw' ln bo P ∧ suX σ n k el ex dr st B ct rw' P ∧ suM τ n k el ex dr st rw' ln bo P
def Rb (σ τ : Mem) : Prop := ∃ (n k el ex : Nat) (dr : Nat → Nat) (st : Nat → Int) (B : Nat) (ct rw' ln bo : Nat → Nat) (P s : Nat) (ov : Bool) (wb pl vb : Nat → Nat) (de : Nat) (ke : Nat → Bool) (to : Nat → Nat → Nat) (dn : Nat → Nat) (wn : Nat → Nat → Nat), bgI n k el ex dr st B ct rw' ln bo P s ov wb pl vb de ke to dn ∧ bgX σ n k el ex dr st B ct rw' P s ov wb vb de to dn wn ∧ bgM τ n k el ex dr st rw' ln bo P s ov wb pl vb de ke to dn wn
theorem less_ex {v : Nat → Nat} {P k de1 : Nat} (hK : (k + 1) ∣ de1) (hd : 0 < de1) : 0 < de1 / (k + 1) ∧ 0 < gf v P (de1 / (k + 1)) ∧ de1 = gf v P (de1 / (k + 1)) * (de1 / gf v P (de1 / (k + 1))) ∧ (k + 1) ∣ de1 / gf v P (de1 / (k + 1)) ∧ ∀ p, p < P → v p = gf v P (de1 / (k + 1)) * (v p / gf v P (de1 / (k + 1))) := by
  have h0 : 0 < de1 / (k + 1) := Nat.div_pos (Nat.le_of_dvd hd hK) (by omega)
  obtain ⟨a1, a2, a3⟩ := gf_spec (v := v) h0 P
  generalize gf v P (de1 / (k + 1)) = g at a1 a2 a3 ⊢
  obtain ⟨m, hm⟩ := a2
  have e : de1 = g * ((k + 1) * m) := by
    rw [Nat.mul_left_comm, ← hm, Nat.mul_div_cancel' hK]
  have e2 : de1 / g = (k + 1) * m := by
    rw [e, Nat.mul_div_cancel_left _ a1]
  refine ⟨h0, a1, ?_, ⟨m, e2⟩, fun p hp => (Nat.mul_div_cancel' (a3 p hp)).symm⟩
  rw [e2]
  exact e
section BO
variable {n k el ex : Nat} {dr : Nat → Nat} {st : Nat → Int} {B : Nat} {ct rw' ln bo : Nat → Nat} {P s : Nat} {wb pl vb : Nat → Nat} {de : Nat} {ke : Nat → Bool} {to : Nat → Nat → Nat} {dn : Nat → Nat} {wn : Nat → Nat → Nat}
theorem open_mid (h : suI n k el ex dr st B ct rw' ln bo P) (hP : 1 ≤ P) : bsI n k el ex dr st B ct rw' ln bo P 0 (fun b => fc n st (rw' b) (ln b)) (fun b => fx st (rw' b) (ln b)) (fun _ => k + 1) (k + 1) (fun _ => false) ∧ lvI n k el st B ct P (fun b => fc n st (rw' b) (ln b)) (fun _ => k + 1) (k + 1) (fun _ => false) := by
  obtain ⟨hI, hpI, h0, hcn⟩ := h
  have hk := hI.2.2.1
  have hk4 := hI.2.2.2.1
  have hnk : nkf (fun _ => false) n = 0 := sm_zero (fun _ _ => rfl)
  refine ⟨⟨hI, hpI, hP, by omega, by omega, ⟨Nat.dvd_refl _, by omega, ?_, by omega⟩, fun b hb => ⟨Nat.le_refl _, fc_le (hpI.2.1 b hb).2.2, fun j hj => fx_lo hj, fun w => ?_⟩, fun c hc => absurd hc Bool.false_ne_true, ?_⟩, by omega, fun c hc hp _ => ?_⟩
  · rw [hnk]
    show k + 1 ≤ 5
    omega
  · have hg := (hpI.2.1 b hb).2.2
    have w : fc n st (rw' b) (ln b) < n := w
    have hlt : fx st (rw' b) (ln b) < ln b := by
      rcases Nat.lt_or_ge (fx st (rw' b) (ln b)) (ln b) with q | q
      · exact q
      · unfold fc at w
        rw [if_neg (by omega)] at w
        omega
    refine ⟨hlt, ?_⟩
    have := (hg.2.2.1 _ hlt).1
    show nb (rw' b) (fx st (rw' b) (ln b)) = fc n st (rw' b) (ln b) + 1
    unfold fc
    rw [if_pos hlt]
    omega
  · rw [hnk, Nat.zero_mul, Nat.zero_add]
    have : (fun b => ct b * (k + 1)) = fun b => (k + 1) * ct b := funext fun b => Nat.mul_comm _ _
    rw [this, sm_mul, plI_P hpI, Nat.mul_comm]
  · have := sm_one (f := fun c => if 0 < st c then 1 else 0) hc
    simp only [hp, if_true] at this
    unfold cnp at hcn
    omega
theorem open_law {Q : Int32 → Mem → Prop} {E : String → Mem → Prop} {σ τ : Mem} (h : suI n k el ex dr st B ct rw' ln bo P) (hX : suX σ n k el ex dr st B ct rw' P) (hM : suM τ n k el ex dr st rw' ln bo P) (hP : 1 ≤ P) (hQ : ∀ r σ', (∀ QM : Int32 → Mem → Prop, (∀ τ', Rb σ' τ' → τ'.1 0 0 = 0 → QM r τ') → wp_M_open QM τ) → Q r σ') : wp_C_open Q E σ := by
  have hI := h.1
  have hpI := h.2.1
  have hk4 := hI.2.2.2.1
  obtain ⟨m1, m2⟩ := open_mid h hP
  obtain ⟨l0, l1, l2, l3, l4⟩ := less_ex (v := fun _ => k + 1) (P := P) (k := k) (de1 := k + 1) (Nat.dvd_refl _) (by omega)
  generalize hG : gf (fun _ => k + 1) P ((k + 1) / (k + 1)) = g at l1 l2 l3 l4
  have hv : ∀ b, b < B → k + 1 = g * ((k + 1) / g) := fun b hb => by
    obtain ⟨p, hp, -⟩ := hpI.2.2.2.1 b hb
    exact l4 p hp
  obtain ⟨b1, b2⟩ := less_mid (vb2 := fun _ => (k + 1) / g) m1 m2 l1 l2 l3 hv
  generalize hde : (k + 1) / g = de at b1 b2 l2 l3 hv
  have hd0 := b1.2.2.2.2.2.1.2.1
  have hdb := b1.2.2.2.2.2.1.2.2.1
  have hJ := b1.2.2.2.2.2.2.2.2
  have hPd := P_de hpI.1 hdb
  have hBt : tB n 0 (fun _ c => tot P k B ct (fun _ => false) (fun b => fc n st (rw' b) (ln b)) (fun _ => de) de c) (fun _ => de) := fun s' _ => ⟨hd0, by have := bd_le (nkf (fun _ => false) n); show de < 2 ^ 63; omega, fun c hc => Nat.lt_of_le_of_lt (tot_le (n := n) (fun q => absurd q Bool.false_ne_true) hJ) hPd⟩
  obtain ⟨st2, el2, ov, f1, f2, f3, f4⟩ := mid_fin (to := fun _ c => tot P k B ct (fun _ => false) (fun b => fc n st (rw' b) (ln b)) (fun _ => de) de c) b1 b2 (fun c _ => rfl)
  have hqb : qt P k de < 2 ^ 63 := Nat.lt_of_le_of_lt qt_le hPd
  have hTT : ∀ c, c ≤ n → sm (fun b => if true = true ∧ fc n st (rw' b) (ln b) = c then ct b * (k + 1) else 0) B = g * tot P k B ct (fun _ => false) (fun b => fc n st (rw' b) (ln b)) (fun _ => de) de c := fun c hc => by
    rw [← tot_mul l3]
    unfold tot cs
    rw [if_neg Bool.false_ne_true, Nat.zero_add]
    refine sm_congr (fun b hb => ?_)
    show (if true = true ∧ fc n st (rw' b) (ln b) = c then ct b * (k + 1) else 0) = if fc n st (rw' b) (ln b) = c then ct b * (g * de) else 0
    rw [← l2]
    by_cases e : fc n st (rw' b) (ln b) = c
    · rw [if_pos ⟨rfl, e⟩, if_pos e]
    · rw [if_neg (fun w => e w.2), if_neg e]
  have hTb : ∀ c, c ≤ n → g * tot P k B ct (fun _ => false) (fun b => fc n st (rw' b) (ln b)) (fun _ => de) de c < 2 ^ 63 := fun c hc => by
    rw [← tot_mul l3, ← l2]
    exact Nat.lt_of_le_of_lt (tot_le (n := n) (fun q => absurd q Bool.false_ne_true) m1.2.2.2.2.2.2.2.2) (P_de hpI.1 m1.2.2.2.2.2.1.2.2.1)
  refine openX_spec (g := g) (de := de) (vb := fun _ => de) (wb := fun b => fc n st (rw' b) (ln b)) (to := fun _ c => tot P k B ct (fun _ => false) (fun b => fc n st (rw' b) (ln b)) (fun _ => de) de c) (dn := fun _ => de) (wn := fun _ c => sm (fun b => if true = true ∧ fc n st (rw' b) (ln b) = c then ct b else 0) B) hX hI hpI hP l1 hd0 l2 l3 (fun b _ => l2) (fun b _ => rfl) hTT hTb (fun c _ => rfl) rfl hqb hBt f1 (fun σ' hb => hQ _ σ' (fun QM hQM => ?_))
  refine openM_spec (B := B) (ct := ct) (wb := fun b => fc n st (rw' b) (ln b)) (pl := fun b => fx st (rw' b) (ln b)) (vb := fun _ => de) (to := fun _ c => tot P k B ct (fun _ => false) (fun b => fc n st (rw' b) (ln b)) (fun _ => de) de c) (dn := fun _ => de) (wn := fun _ c => sm (fun b => if true = true ∧ fc n st (rw' b) (ln b) = c then ct b else 0) B) hM hI hpI hP (fun b _ => rfl) (fun b _ => rfl) (by rw [hG]; exact hde.symm) (fun b _ => by rw [hG]; exact hde.symm) hqb hBt (fun c _ => rfl) (fun c _ => rfl) f1 (fun τ' hm h00 => hQM τ' ⟨n, k, el2, ex, dr, st2, B, ct, rw', ln, bo, P, 0, ov, _, _, _, _, _, _, _, _, ⟨f3, fun c _ => rfl, rfl, hBt, f4⟩, hb, hm⟩ h00)
theorem fo_le {b c : Nat} {st' : Nat → Int} (hb : ∀ j, j < pl b → st (nb (rw' b) j - 1) ≠ 0) (hb2 : pl b < ln b ∧ nb (rw' b) (pl b) = c + 1) (hz : ∀ d, st d ≠ 0 → st' d ≠ 0) (hc : st' c ≠ 0) : pl b + 1 ≤ fx st' (rw' b) (ln b) := by
  rcases Nat.lt_or_ge (fx st' (rw' b) (ln b)) (pl b + 1) with q | q
  · have h1 := fx_at (st := st') (m := rw' b) (L := ln b) (by omega)
    by_cases e : fx st' (rw' b) (ln b) = pl b
    · rw [e, hb2.2, Nat.add_sub_cancel] at h1
      exact absurd h1 hc
    · exact absurd h1 (hz _ (hb _ (by omega)))
  · exact q
theorem step_law {Q : Int32 → Mem → Prop} {E : String → Mem → Prop} {σ τ : Mem} (h : bgI n k el ex dr st B ct rw' ln bo P s false wb pl vb de ke to dn) (hX : bgX σ n k el ex dr st B ct rw' P s false wb vb de to dn wn) (hM : bgM τ n k el ex dr st rw' ln bo P s false wb pl vb de ke to dn wn) (hQ : ∀ r σ', (∀ QM : Int32 → Mem → Prop, (∀ τ', Rb σ' τ' → τ'.1 0 0 = 0 → QM r τ') → wp_M_step QM τ) → Q r σ') : wp_C_step Q E σ := by
  have hbs := h.1
  obtain ⟨hlv, hmore⟩ := h.2.2.2.2 rfl
  have hto := h.2.1
  have hdn := h.2.2.1
  have hBt := h.2.2.2.1
  obtain ⟨hI, hpI, hP, hcn, hs, ⟨hKd, hd0, hdb, hnk⟩, hb, hk, hJ⟩ := hbs
  have hn := hI.2.1
  have hsum := hI.2.2.2.2.2.2.2.2
  have hcz : 0 < cnz st n := by have := hlv.1; omega
  have hs1 : s + 1 < 13 := by
    have h1 := nk_el h.1
    omega
  have hwb : ∀ b, b < B → wb b ≤ n := fun b hb' => (hb b hb').2.1
  have hvb : ∀ b, b < B → vb b ≤ de := fun b hb' => (hb b hb').1
  have hPd := P_de hpI.1 hdb
  have hde63 : de < 2 ^ 63 := by have := bd_le (nkf ke n); omega
  -- the numbers behind the next stage, at any new values
  have next : ∀ (ex' de1 : Nat) (st' : Nat → Int) (wb' pl' vb1 : Nat → Nat) (ke' : Nat → Bool), bsI n k el ex' dr st' B ct rw' ln bo P (s + 1) wb' pl' vb1 de1 ke' → lvI n k el st' B ct P wb' vb1 de1 ke' → ∀ (wnw : Nat → Nat), ∃ (g de2 : Nat) (vb2 : Nat → Nat) (toN : Nat → Nat → Nat) (dnN : Nat → Nat) (wnN : Nat → Nat → Nat) (st2 : Nat → Int) (el2 : Nat) (ov : Bool), 0 < g ∧ 0 < de2 ∧ de1 = g * de2 ∧ de1 < 2 ^ 63 ∧ (k + 1) ∣ de2 ∧ (∀ b, b < B → vb1 b = g * vb2 b) ∧ 0 < de1 / (k + 1) ∧ dnN (s + 1) = de2 ∧ dnN (s + 1) = de1 / gf (fun p => vb1 (bo p)) P (de1 / (k + 1)) ∧ (∀ b, b < B → vb2 b = vb1 b / gf (fun p => vb1 (bo p)) P (de1 / (k + 1))) ∧ (∀ s', s' ≤ s → dnN s' = dn s' ∧ ∀ d, d ≤ n → toN s' d = to s' d ∧ wnN s' d = wn s' d) ∧ (∀ d, d ≤ n → wnN (s + 1) d = wnw d) ∧ tB n (s + 1) toN dnN ∧ qt P k de2 < 2 ^ 63 ∧ stl toN dr (s + 1) n k (qt P k de2) st' el st2 el2 ov ∧ (∀ d, d ≤ n → toN (s + 1) d = tot P k B ct ke' wb' vb2 de2 d) ∧ (∀ d, d ≤ n → g * toN (s + 1) d = tot P k B ct ke' wb' vb1 de1 d) ∧ (∀ d, d ≤ n → g * toN (s + 1) d < 2 ^ 63) ∧ bgI n k el2 ex' dr st2 B ct rw' ln bo P (s + 1) ov wb' pl' vb2 de2 ke' toN dnN := by
    intro ex' de1 st' wb' pl' vb1 ke' q1 q2 wnw
    obtain ⟨l0, l1, l2, l3, l4⟩ := less_ex (v := fun p => vb1 (bo p)) (P := P) (k := k) (de1 := de1) q1.2.2.2.2.2.1.1 q1.2.2.2.2.2.1.2.1
    generalize hG : gf (fun p => vb1 (bo p)) P (de1 / (k + 1)) = g at l1 l2 l3 l4
    have hv : ∀ b, b < B → vb1 b = g * (vb1 b / g) := fun b hb => by
      obtain ⟨p, hp, e⟩ := hpI.2.2.2.1 b hb
      rw [← e]
      exact l4 p hp
    obtain ⟨b1, b2⟩ := less_mid (vb2 := fun b => vb1 b / g) q1 q2 l1 l2 l3 hv
    have hd0' := b1.2.2.2.2.2.1.2.1
    have hdb' := b1.2.2.2.2.2.1.2.2.1
    have hJ' := b1.2.2.2.2.2.2.2.2
    have hke' := b1.2.2.2.2.2.2.2.1
    have hPd' := P_de hpI.1 hdb'
    have hto1 : ∀ d, (fun s' d => if s' = s + 1 then tot P k B ct ke' wb' (fun b => vb1 b / g) (de1 / g) d else to s' d) (s + 1) d = tot P k B ct ke' wb' (fun b => vb1 b / g) (de1 / g) d := fun d => if_pos rfl
    have hdn1 : (fun s' => if s' = s + 1 then de1 / g else dn s') (s + 1) = de1 / g := if_pos rfl
    have hB1 : tB n (s + 1) (fun s' d => if s' = s + 1 then tot P k B ct ke' wb' (fun b => vb1 b / g) (de1 / g) d else to s' d) (fun s' => if s' = s + 1 then de1 / g else dn s') := fun s' hs' => by
      by_cases e : s' = s + 1
      · simp only [if_pos e]
        refine ⟨hd0', by have := bd_le (nkf ke' n); omega, fun d hd => Nat.lt_of_le_of_lt (tot_le (n := n) (fun q => (hke' d q).1) hJ') hPd'⟩
      · simp only [if_neg e]
        exact hBt s' (by omega)
    obtain ⟨st2, el2, ov, f1, f2, f3, f4⟩ := mid_fin (to := fun s' d => if s' = s + 1 then tot P k B ct ke' wb' (fun b => vb1 b / g) (de1 / g) d else to s' d) b1 b2 (fun c _ => if_pos rfl)
    have hgt : ∀ d, d ≤ n → g * tot P k B ct ke' wb' (fun b => vb1 b / g) (de1 / g) d = tot P k B ct ke' wb' vb1 de1 d := fun d hd => by
      rw [← tot_mul l3, ← l2]
      exact (tot_congr hv).symm
    refine ⟨g, de1 / g, fun b => vb1 b / g, fun s' d => if s' = s + 1 then tot P k B ct ke' wb' (fun b => vb1 b / g) (de1 / g) d else to s' d, fun s' => if s' = s + 1 then de1 / g else dn s', fun s' d => if s' = s + 1 then wnw d else wn s' d, st2, el2, ov, l1, hd0', l2, by have := bd_le (nkf ke' n); have := q1.2.2.2.2.2.1.2.2.1; omega, l3, hv, l0, hdn1, hdn1, fun b _ => rfl, fun s' hs' => ⟨if_neg (by omega), fun d _ => ⟨if_neg (by omega), if_neg (by omega)⟩⟩, fun d _ => if_pos rfl, hB1, Nat.lt_of_le_of_lt qt_le hPd', f1, fun d _ => if_pos rfl, fun d hd => ?_, fun d hd => ?_, ⟨f3, fun c _ => if_pos rfl, hdn1, hB1, f4⟩⟩
    · rw [hto1 d]
      exact hgt d hd
    · rw [hto1 d, hgt d hd]
      exact Nat.lt_of_le_of_lt (tot_le (n := n) (fun q => (q1.2.2.2.2.2.2.2.1 d q).1) q1.2.2.2.2.2.2.2.2) (P_de hpI.1 q1.2.2.2.2.2.1.2.2.1)
  obtain ⟨x, hx⟩ := bi_ex (to := to) (m := s + 1) (f := fun c => 0 < st c ∧ qt P k de < to s c) hn hI.2.2.2.2.2.2.1 n (Nat.le_refl _)
  rcases hx with ⟨-, hno⟩ | ⟨c, -, hc⟩
  · -- an exclusion
    obtain ⟨y, hy⟩ := wi_ex (to := to) (m := s + 1) (f := fun c => st c = 0) hn hI.2.2.2.2.2.2.1 n (Nat.le_refl _)
    rcases hy with ⟨-, hy⟩ | ⟨c, -, hc⟩
    · have := cnz_zero hy
      omega
    have hc0 : st c = 0 := hc.2.1
    obtain ⟨m1, m2⟩ := excl_mid h.1 hlv hc.1 hc0
    obtain ⟨g, de2, vb2, toN, dnN, wnN, st2, el2, ov, n1, n2, n3, n4, n5, n6, n7, n8, n9, n10, n11, n12, n13, n14, n15, n16, n17, n18, n19⟩ := next _ _ _ _ _ _ _ m1 m2 (fun d => sm (fun b => if decide (wb b = c) = true ∧ fc n (va_up st c (-((ex + 1 : Nat) : Int))) (rw' b) (ln b) = d then ct b else 0) B)
    have hne : va_up st c (-((ex + 1 : Nat) : Int)) c ≠ 0 := by rw [va_up_self]; omega
    have hkc : ¬ ke c = true := fun q => by have := (hk c q).2.1; omega
    refine stepX_A hX h hc (fun d hd hp => fun w => hno d hd ⟨hp, w⟩) (fun σ1 hf => exclX_run hf hI (excl_rl hI hc.1 hc0) hpI hs1 hwb hvb hc.1 n1 n2 n3 hde63 hdn n5 n6 (fun d hd => ?_) n18 n8 n11 n12 n13 n14 n15 (fun σ' hbx => hQ _ σ' (fun QM hQM => ?_))) hs1
    · rw [n17 d hd]
      exact T_go (T0 := fun d => if d = c then 0 else to s d) (vb1 := vb) (ke' := ke) (de1 := de) hc.1 hne (by rw [if_pos rfl, if_neg hkc]) (fun e he hec => by rw [if_neg hec, hto e he]; rfl) d hd
    · refine stepM_A hM h hc (fun d hd hp => fun w => hno d hd ⟨hp, w⟩) hs1 (fun τ1 hfm => ?_)
      obtain ⟨r1, r2, r3, r4, r5, r6, r7, r8, r9, r10, r11⟩ := hfm
      refine runM (B := B) (ct := ct) (wb := wb) (pl := pl) (vb1 := vb) (vb2 := vb2) (de1 := de) (ke := ke) (toN := toN) (dnN := dnN) (wnN := wnN) (st2 := st2) (el2 := el2) (ov := ov) (excl_rl hI hc.1 hc0) r1 hpI r2 r3 hs1 r5 hde63 n7 hc.1 r6 (fun b hb' => by have := hvb b hb'; omega) hwb (fun b hb' e => ?_) r7 (fun d q => (hk d q).1) r11 n9 n10 (by rw [n8]; exact n14) n13 (fun s' hs' d hd => ?_) (fun s' hs' => ?_) (fun s' hs' d hd => ?_) n12 (fun d hd => by rw [n8]; exact n16 d hd) (by rw [n8]; exact n15) (fun τ' hbm h00 => ⟨fun _ => hQM τ' ⟨n, k, el2, ex + 1, dr, st2, B, ct, rw', ln, bo, P, s + 1, ov, _, _, _, _, _, _, _, _, n19, hbx, by rw [n8] at hbm; exact hbm⟩ (by rw [h00]; exact r4), fun q => absurd rfl q⟩)
      · obtain ⟨z1, z2, z3, z4⟩ := hb b hb'
        have hcn' := hc.1
        have w4 := z4 (by omega)
        exact fo_le (st := st) z3 (by rw [e] at w4; exact w4) (fun d hd => by
          by_cases e2 : d = c
          · subst e2
            exact hne
          · rw [va_up_ne _ _ e2]
            exact hd) hne
      · rw [((n11 s' (by omega)).2 d hd).1]
        exact r8 s' (by omega) d hd
      · rw [(n11 s' (by omega)).1]
        exact r9 s' (by omega)
      · rw [((n11 s' (by omega)).2 d hd).2]
        exact r10 s' (by omega) d hd
  · -- a surplus
    have habove := hc.2.1.2
    have hp : 0 < st c := hc.2.1.1
    have hkc : ke c = false := by
      cases q : ke c with
      | false => rfl
      | true =>
        have e : tot P k B ct ke wb vb de c = qt P k de := by
          unfold tot cs
          rw [if_pos q, sm_zero (fun b hb' => if_neg ((hk c q).2.2 b hb')), Nat.add_zero]
        rw [hto c (by have := hc.1; omega), e] at habove
        omega
    have htc := hto c (by have := hc.1; omega)
    have hgp : 0 < Nat.gcd (to s c) (to s c - qt P k de) := Nat.gcd_pos_of_pos_left _ (by omega)
    have hdw : to s c = to s c / Nat.gcd (to s c) (to s c - qt P k de) * Nat.gcd (to s c) (to s c - qt P k de) := (Nat.div_mul_cancel (Nat.gcd_dvd_left _ _)).symm
    have hmo0 : (to s c - qt P k de) / Nat.gcd (to s c) (to s c - qt P k de) * Nat.gcd (to s c) (to s c - qt P k de) = to s c - qt P k de := Nat.div_mul_cancel (Nat.gcd_dvd_right _ _)
    have hmo : to s c = qt P k de + (to s c - qt P k de) / Nat.gcd (to s c) (to s c - qt P k de) * Nat.gcd (to s c) (to s c - qt P k de) := by rw [hmo0]; omega
    obtain ⟨m0, m00, mnk, m1, m2⟩ := surp_mid h.1 hlv hc.1 hp hkc (g := Nat.gcd (to s c) (to s c - qt P k de)) (dw := to s c / Nat.gcd (to s c) (to s c - qt P k de)) (mo := (to s c - qt P k de) / Nat.gcd (to s c) (to s c - qt P k de)) hgp (htc.symm.trans hdw) (htc.symm.trans hmo)
    have hbd := (surp_bd h.1 hkc mnk).1
    rw [← htc] at hbd
    have hde6 : de ≤ 62500000 := by
      refine Nat.le_trans hdb ?_
      have hj : nkf ke n = 0 ∨ nkf ke n = 1 ∨ nkf ke n = 2 := by omega
      rcases hj with e | e | e <;> rw [e] <;> decide
    have hall : to s c ≤ 50 * de := Nat.le_trans hbd (Nat.mul_le_mul_right _ (by omega))
    obtain ⟨g, de2, vb2, toN, dnN, wnN, st2, el2, ov, n1, n2, n3, n4, n5, n6, n7, n8, n9, n10, n11, n12, n13, n14, n15, n16, n17, n18, n19⟩ := next _ _ _ _ _ _ _ m1 m2 (fun d => sm (fun b => if decide (wb b = c) = true ∧ fc n st (rw' b) (ln b) = d then ct b else 0) B)
    refine stepX_B hX h hc (fun σ1 hf => surpX_run (dw := to s c / Nat.gcd (to s c) (to s c - qt P k de)) (mo := (to s c - qt P k de) / Nat.gcd (to s c) (to s c - qt P k de)) (gr := Nat.gcd (to s c) (to s c - qt P k de)) hf hI hpI hP hs1 hwb hvb hc.1 hd0 hde6 hKd hall (by omega) hdw hmo m0 n1 n2 n3 n4 hdn n5 n6 (fun d hd => ?_) n18 n8 n11 n12 n13 n14 n15 (fun σ' hbx => hQ _ σ' (fun QM hQM => ?_))) hs1
    · rw [n17 d hd]
      refine T_go (T0 := fun d => if d = c then qt P k (to s c / Nat.gcd (to s c) (to s c - qt P k de) * de) else to s c / Nat.gcd (to s c) (to s c - qt P k de) * to s d) hc.1 (by omega) (by rw [if_pos rfl, va_up_self, if_pos rfl]) (fun e he hec => ?_) d hd
      rw [if_neg hec, hto e he, va_up_ne _ _ hec, ← tot_mul hKd]
      unfold tot
      congr 1
      unfold cs
      refine sm_congr (fun b hb' => ?_)
      show (if wb b = e then ct b * (to s c / Nat.gcd (to s c) (to s c - qt P k de) * vb b) else 0) = if wb b = e then ct b * (if wb b = c then _ else vb b * (to s c / Nat.gcd (to s c) (to s c - qt P k de))) else 0
      by_cases z : wb b = e
      · rw [if_pos z, if_pos z, if_neg (by omega), Nat.mul_comm (to s c / _)]
      · rw [if_neg z, if_neg z]
    · refine stepM_B hM h hc hs1 (fun τ1 hfm => ?_)
      obtain ⟨r1, r2, r3, r4, r5, r6, r7, r8, r9, r10, r11⟩ := hfm
      refine runM (B := B) (ct := ct) (wb := wb) (pl := pl) (vb1 := vbs c (to s c / Nat.gcd (to s c) (to s c - qt P k de)) ((to s c - qt P k de) / Nat.gcd (to s c) (to s c - qt P k de)) wb vb) (vb2 := vb2) (de1 := to s c / Nat.gcd (to s c) (to s c - qt P k de) * de) (ke := va_up ke c true) (toN := toN) (dnN := dnN) (wnN := wnN) (st2 := st2) (el2 := el2) (ov := ov) hI r1 hpI r2 r3 hs1 r5 n4 n7 hc.1 r6 (fun b hb' => Nat.lt_of_le_of_lt (m1.2.2.2.2.2.2.1 b hb').1 n4) hwb (fun b hb' e => ?_) r7 (fun d q => (m1.2.2.2.2.2.2.2.1 d q).1) r11 n9 n10 (by rw [n8]; exact n14) n13 (fun s' hs' d hd => ?_) (fun s' hs' => ?_) (fun s' hs' d hd => ?_) n12 (fun d hd => by rw [n8]; exact n16 d hd) (by rw [n8]; exact n15) (fun τ' hbm h00 => ⟨fun q => absurd q (by decide), fun _ => hQM τ' ⟨n, k, el2, ex, dr, st2, B, ct, rw', ln, bo, P, s + 1, ov, _, _, _, _, _, _, _, _, n19, hbx, by rw [n8] at hbm; exact hbm⟩ (by rw [h00]; exact r4)⟩)
      · obtain ⟨z1, z2, z3, z4⟩ := hb b hb'
        have hcn' := hc.1
        have w4 := z4 (by omega)
        exact fo_le (st := st) z3 (by rw [e] at w4; exact w4) (fun d hd => hd) (by omega)
      · rw [((n11 s' (by omega)).2 d hd).1]
        exact r8 s' (by omega) d hd
      · rw [(n11 s' (by omega)).1]
        exact r9 s' (by omega)
      · rw [((n11 s' (by omega)).2 d hd).2]
        exact r10 s' (by omega) d hd
end BO
