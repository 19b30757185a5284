/-! papers go on: the class -/
def fi (st : Nat → Int) (m : Nat) : Nat → Nat → Nat
  | 0, i => i
  | t + 1, i => if st (nb m i - 1) = 0 then i else fi st m t (i + 1)
theorem fi_spec {st : Nat → Int} {m : Nat} : ∀ t i, i ≤ fi st m t i ∧ fi st m t i ≤ i + t ∧ (∀ j, i ≤ j → j < fi st m t i → st (nb m j - 1) ≠ 0) ∧ (fi st m t i < i + t → st (nb m (fi st m t i) - 1) = 0)
  | 0, i => by
    unfold fi
    exact ⟨Nat.le_refl _, Nat.le_refl _, fun j h1 h2 => absurd h1 (by omega), fun h => absurd h (by omega)⟩
  | t + 1, i => by
    unfold fi
    by_cases h : st (nb m i - 1) = 0
    · rw [if_pos h]
      exact ⟨Nat.le_refl _, by omega, fun j h1 h2 => absurd h1 (by omega), fun _ => h⟩
    · rw [if_neg h]
      obtain ⟨a1, a2, a3, a4⟩ := fi_spec (st := st) (m := m) t (i + 1)
      refine ⟨by omega, by omega, fun j h1 h2 => ?_, fun q => a4 (by omega)⟩
      by_cases e : j = i
      · subst e
        exact h
      · exact a3 j (by omega) h2
def fx (st : Nat → Int) (m L : Nat) : Nat := fi st m L 0
def fc (n : Nat) (st : Nat → Int) (m L : Nat) : Nat := if fx st m L < L then nb m (fx st m L) - 1 else n
theorem fx_le {st : Nat → Int} {m L : Nat} : fx st m L ≤ L := by have := (fi_spec (st := st) (m := m) L 0).2.1; unfold fx; omega
theorem fx_lo {st : Nat → Int} {m L j : Nat} (h : j < fx st m L) : st (nb m j - 1) ≠ 0 := (fi_spec (st := st) (m := m) L 0).2.2.1 j (by omega) h
theorem fx_at {st : Nat → Int} {m L : Nat} (h : fx st m L < L) : st (nb m (fx st m L) - 1) = 0 := (fi_spec (st := st) (m := m) L 0).2.2.2 (by unfold fx at h; omega)
theorem fx_eq {st : Nat → Int} {m L i : Nat} (hi : i < L) (h : ∀ j, j < i → st (nb m j - 1) ≠ 0) (h0 : st (nb m i - 1) = 0) : fx st m L = i := by
  rcases Nat.lt_trichotomy (fx st m L) i with q | q | q
  · exact absurd (fx_at (by omega)) (h _ q)
  · exact q
  · exact absurd h0 (fx_lo q)
theorem fx_none {st : Nat → Int} {m L : Nat} (h : ∀ j, j < L → st (nb m j - 1) ≠ 0) : fx st m L = L := by
  rcases Nat.lt_or_ge (fx st m L) L with q | q
  · exact absurd (fx_at q) (h _ q)
  · have := fx_le (st := st) (m := m) (L := L)
    omega
theorem fc_le {n : Nat} {st : Nat → Int} {m L : Nat} (hg : gRow n m L) : fc n st m L ≤ n := by
  unfold fc
  split
  · have := hg.2.2.1 _ (by assumption)
    omega
  · exact Nat.le_refl _
/-- who gets one is continuing -/
theorem fc_cont {n : Nat} {st : Nat → Int} {m L : Nat} (h : fc n st m L < n) : st (fc n st m L) = 0 := by
  unfold fc at h ⊢
  split
  · exact fx_at (by assumption)
  · rename_i q
    rw [if_neg q] at h
    omega
theorem firstX_spec {Q : Int32 → Mem → Prop} {σ : Mem} {n k el ex : Nat} {dr : Nat → Nat} {st : Nat → Int} {m L : Nat} (hI : rlI n k el ex dr st) (hX : rlX σ n el ex dr st) (hm : m < 2 ^ 64) (hg : gRow n m L) (h : Q (nI (fc n st m L)) σ) : wp_C_firstContinuing Q (lN m) σ := by
  have hn := hI.2.1
  have h7 := hg.2.1
  have hgo : ∀ t i, i + t = L → (∀ j, j < i → st (nb m j - 1) ≠ 0) → wp_C_firstContinuing_2 Q (t + 1) (lN m) (nI i) σ := by
    intro t
    induction t with
    | zero =>
      intro i hi hj
      have : i = L := by omega
      subst this
      have e : fc n st m i = n := by
        unfold fc
        rw [fx_none hj, if_neg (by omega)]
      rw [e] at h
      have hq : wp_C_firstContinuing_45 Q σ := by
        unfold wp_C_firstContinuing_45
        rw [hX.1]
        exact h
      refine ⟨fun _ => hq, fun h7 => cat_spec hm (by omega) ?_⟩
      rw [hg.2.2.2.1, nI_z1]
      exact ⟨fun _ => hq, fun q => absurd rfl q⟩
    | succ t ih =>
      intro i hi hj
      have hb := hg.2.2.1 i (by omega)
      refine ⟨fun q => absurd q (nI_ge (b := 7) (by omega) (by decide)), fun _ => cat_spec hm (by omega) ?_⟩
      rw [nI_m1 (by omega)]
      refine ⟨fun q => absurd q (m1_ne (by omega)), fun _ => isCont_spec hI hX (by omega) (fun q => ⟨fun w => absurd w (by decide), fun _ => ?_⟩) (fun q => ⟨fun _ v e => ?_, fun w => absurd rfl w⟩)⟩
      · have e : fc n st m L = nb m i - 1 := by
          unfold fc
          rw [fx_eq (by omega) hj q, if_pos (by omega)]
        rw [← e]
        exact h
      · rw [nI_1] at e
        subst e
        refine ih (i + 1) (by omega) (fun j hj' => ?_)
        by_cases e : j = i
        · subst e
          exact q
        · exact hj j (by omega)
  exact ⟨L + 1, by rw [nI_0']; exact hgo L 0 (by omega) (fun j hj => absurd hj (by omega))⟩
theorem isF_f {σ σ' : Mem} {o i a d : Nat} (h : isF σ o i a d) (h1 : σ'.2 (o + 1) i = σ.2 (o + 1) i) (h2 : σ'.2 (o + 2) i = σ.2 (o + 2) i) : isF σ' o i a d := ⟨h1.trans h.1, h2.trans h.2⟩
theorem isF_sc {σ : Mem} {o i a d a' d' : Nat} (h : isF σ o i a d) (hd : 0 < d) (hd' : 0 < d') (he : a * d' = a' * d) : isF σ o i a' d' := by
  obtain ⟨c1, c2⟩ := canon_eq (u := a) (v := d) (a := a') (d := d') hd hd' he
  exact ⟨by rw [← c1]; exact h.1, by rw [← c2]; exact h.2⟩
def plX (σ : Mem) (B : Nat) (ct rw' : Nat → Nat) (P : Nat) : Prop := σ.1 4 4 = nI B ∧ σ.1 4 5 = nI P ∧ (∀ b, b < B → σ.1 6 b = nI (ct b)) ∧ ∀ b, b < B → σ.2 5 b = lN (rw' b)
def plI (n B : Nat) (ct rw' ln bo : Nat → Nat) (P : Nat) : Prop := P ≤ 50 ∧ (∀ b, b < B → 1 ≤ ct b ∧ rw' b < 2 ^ 64 ∧ gRow n (rw' b) (ln b)) ∧ (∀ p, p < P → bo p < B) ∧ (∀ b, b < B → ∃ p, p < P ∧ bo p = b) ∧ ∀ g : Nat → Nat, sm (fun p => g (bo p)) P = sm (fun b => ct b * g b) B
theorem sm_k {k : Nat} : ∀ {n : Nat}, sm (fun _ => k) n = k * n
  | 0 => rfl
  | n + 1 => by
    unfold sm
    rw [sm_k (n := n)]
    exact (Nat.mul_succ k n).symm
theorem plI_P {n B : Nat} {ct rw' ln bo : Nat → Nat} {P : Nat} (h : plI n B ct rw' ln bo P) : sm ct B = P := by
  have := h.2.2.2.2 (fun _ => 1)
  rw [sm_k] at this
  rw [Nat.one_mul] at this
  rw [this]
  exact sm_congr (fun b _ => (Nat.mul_one _).symm)
theorem plI_B {n B : Nat} {ct rw' ln bo : Nat → Nat} {P : Nat} (h : plI n B ct rw' ln bo P) : B ≤ P := by
  have h1 := plI_P h
  have h2 : sm (fun _ => 1) B ≤ sm ct B := sm_le (fun b hb => (h.2.1 b hb).1)
  rw [sm_k] at h2
  omega
theorem plI_ct {n B : Nat} {ct rw' ln bo : Nat → Nat} {P b : Nat} (h : plI n B ct rw' ln bo P) (hb : b < B) : ct b ≤ P := by
  have h1 := plI_P h
  have h2 := sm_one (f := ct) hb
  omega
def pL (σ0 : Mem) (n B s : Nat) (ct : Nat → Nat) (fr : Nat → Bool) (fb vb vb' : Nat → Nat) (D D' : Nat) (T0 : Nat → Nat) (i : Nat) (σ : Mem) : Prop :=
  (∀ o, o ≠ 7 → o ≠ 12 + 5 * s + 4 → σ.1 o = σ0.1 o) ∧
  (∀ o, o ≠ 9 → o ≠ 10 → o ≠ 12 + 5 * s + 1 + 1 → o ≠ 12 + 5 * s + 1 + 2 → σ.2 o = σ0.2 o) ∧
  (∀ b, b < B → σ.1 7 b = if fr b = true ∧ b < i then nI (fb b) else σ0.1 7 b) ∧
  (∀ b, b < B → (fr b = true ∧ i ≤ b → isF σ 8 b (vb b) D) ∧ (¬ (fr b = true ∧ i ≤ b) → isF σ 8 b (vb' b) D')) ∧
  (∀ c, c ≤ n → σ.1 (12 + 5 * s + 4) c = nI (sm (fun b => if fr b = true ∧ fb b = c then ct b else 0) i)) ∧
  ∀ c, c ≤ n → isF σ (12 + 5 * s + 1) c (T0 c + sm (fun b => if fr b = true ∧ fb b = c then ct b * vb' b else 0) i) D'
section PX
variable {n k el ex : Nat} {dr : Nat → Nat} {st : Nat → Int} {s : Nat} {B P : Nat} {ct rw' ln bo : Nat → Nat}
theorem passX_go {Q : Mem → Prop} {σ0 : Mem} {x1 : Int32} {tu tl D D' : Nat} {fr : Nat → Bool} {vb vb' T0 : Nat → Nat} (hI : rlI n k el ex dr st) (hX : rlX σ0 n el ex dr st) (h4 : σ0.1 0 4 = nI s) (hs : s < 13) (hpI : plI n B ct rw' ln bo P) (hpX : plX σ0 B ct rw' P) (hfr : ∀ b, b < B → (σ0.1 7 b = x1 ↔ fr b = true)) (hD : 0 < D) (hD' : 0 < D') (hD63 : D' < 2 ^ 63) (htl : 0 < tl) (hmul : ∀ b, b < B → fr b = true → vb b * tu < 2 ^ 63 ∧ D * tl < 2 ^ 63 ∧ vb b * tu * D' = vb' b * (D * tl)) (hT : ∀ c, c ≤ n → T0 c + sm (fun b => if fr b = true ∧ fc n st (rw' b) (ln b) = c then ct b * vb' b else 0) B < 2 ^ 63) (hQ : ∀ σ, pL σ0 n B s ct fr (fun b => fc n st (rw' b) (ln b)) vb vb' D D' T0 B σ → Q σ) : ∀ (t i : Nat) (σ : Mem), i + t = B → pL σ0 n B s ct fr (fun b => fc n st (rw' b) (ln b)) vb vb' D D' T0 i σ → wp_C_passOn_3 Q (t + 1) x1 (lN tu) (lN tl) (nI i) σ := by
  have hn := hI.2.1
  have hP := hpI.1
  have hB := plI_B hpI
  intro t
  induction t with
  | zero =>
    intro i σ hi h
    have : i = B := by omega
    subst this
    refine ⟨fun _ => hQ σ h, fun q => ?_⟩
    rw [h.1 4 (by decide) (by omega), hpX.1] at q
    exact absurd (nI_le (Nat.le_refl _) (by omega)) q
  | succ t ih =>
    intro i σ hi h
    obtain ⟨f1, f2, hH, hV, hA, hT'⟩ := h
    have hiB : i < B := by omega
    refine ⟨fun q => ?_, fun _ => ⟨vp_in_nI (by omega) (by decide), ?_⟩⟩
    · rw [f1 4 (by decide) (by omega), hpX.1] at q
      exact absurd q (nI_ge (by omega) (by omega))
    rw [nI_clamp (by omega), hH i hiB, if_neg (by omega)]
    refine ⟨fun q => ?_, fun q v e => ?_⟩
    · have hf := (hfr i hiB).mp q
      obtain ⟨m1, m2, m3⟩ := hmul i hiB hf
      have hct := plI_ct hpI hiB
      obtain ⟨-, hr64, hg⟩ := hpI.2.1 i hiB
      refine mul_spec (a' := vb' i) (d' := D') (by unfold frLen; rw [if_pos rfl]; omega) (Nat.lt_of_le_of_lt (Nat.mul_le_mul_right _ cu_le) m1) htl hD (Nat.lt_of_le_of_lt (Nat.mul_le_mul_right _ cv_le) m2) hD' m3 ((hV i hiB).1 ⟨hf, Nat.le_refl _⟩) ⟨vp_in_nI (by omega) (by decide), ?_⟩
      generalize hσ1 : mL (mL σ (8 + 1) i (lN (cu (vb' i) D'))) (8 + 2) i (lN (cv (vb' i) D')) = σ1
      have r5 : σ1.2 5 i = lN (rw' i) := by
        rw [← hσ1, mL_at, if_neg (by omega), mL_at, if_neg (by omega), f2 5 (by decide) (by decide) (by omega) (by omega)]
        exact hpX.2.2.2 i hiB
      have r1 : σ1.1 = σ.1 := by rw [← hσ1]; rfl
      rw [r5]
      have hX1 : rlX σ1 n el ex dr st := by
        obtain ⟨x1, x2, x3, x4, x5⟩ := hX
        unfold rlX
        rw [r1, f1 1 (by decide) (by omega), f1 2 (by decide) (by omega), f1 3 (by decide) (by omega)]
        exact ⟨x1, x2, x3, x4, x5⟩
      refine firstX_spec hI hX1 hr64 hg ?_
      have hc := fc_le (st := st) hg
      have hA' := hA _ hc
      have hT2 := hT' _ hc
      have hTb := hT _ hc
      generalize hcc : fc n st (rw' i) (ln i) = c at hc hA' hT2 hTb ⊢
      have hF1 : isF σ1 (12 + 5 * s + 1) c (T0 c + sm (fun b => if fr b = true ∧ fc n st (rw' b) (ln b) = c then ct b * vb' b else 0) i) D' := isF_f hT2 (by rw [← hσ1, mL_at, if_neg (by omega), mL_at, if_neg (by omega)]) (by rw [← hσ1, mL_at, if_neg (by omega), mL_at, if_neg (by omega)])
      have hsum : sm (fun b => if fr b = true ∧ fc n st (rw' b) (ln b) = c then ct b * vb' b else 0) (i + 1) = sm (fun b => if fr b = true ∧ fc n st (rw' b) (ln b) = c then ct b * vb' b else 0) i + ct i * vb' i := by
        show _ + (if fr i = true ∧ fc n st (rw' i) (ln i) = c then ct i * vb' i else 0) = _
        rw [if_pos ⟨hf, hcc⟩]
      have hle : sm (fun b => if fr b = true ∧ fc n st (rw' b) (ln b) = c then ct b * vb' b else 0) (i + 1) ≤ sm (fun b => if fr b = true ∧ fc n st (rw' b) (ln b) = c then ct b * vb' b else 0) B := sm_mono (by omega)
      refine ⟨vp_in_nI (by omega) (by decide), fun v9 e9 => ⟨vp_in_nI (by omega) (by decide), fun σ2 e2 => ?_⟩⟩
      rw [nI_clamp (by omega), r1, f1 6 (by decide) (by omega), hpX.2.2.1 i hiB] at e9
      rw [nI_clamp (by omega)] at e2
      have r04 : σ2.1 0 4 = nI s := by
        rw [e2, mI_at, if_neg (by omega), r1, f1 0 (by decide) (by omega)]
        exact h4
      rw [r04, nI_clamp (show s < 2 ^ 31 by omega), nI_clamp (show c < 2 ^ 31 by omega)]
      refine ⟨vp_in_nI hs (by decide), vp_in_nI (by omega) (by decide), vp_in_nI (by omega) (by decide), fun σ3 e3 => ?_⟩
      have rA : σ2.1 (12 + 5 * s + 4) c = nI (sm (fun b => if fr b = true ∧ fc n st (rw' b) (ln b) = c then ct b else 0) i) := by
        rw [e2, mI_at, if_neg (by omega), r1]
        exact hA'
      rw [rA, e9, nI_add] at e3
      have r04' : σ3.1 0 4 = nI s := by
        rw [e3, mI_at, if_neg (by omega)]
        exact r04
      rw [r04', nI_clamp (show s < 2 ^ 31 by omega), nI_clamp (show i < 2 ^ 31 by omega), e9, nI_l (by omega)]
      have r2 : σ3.2 = σ1.2 := by rw [e3, e2]; rfl
      have r9 : σ3.2 9 i = lN (cu (vb' i) D') := by rw [r2, ← hσ1, mL_at, if_neg (by omega), mL_at, if_pos ⟨rfl, rfl⟩]
      have r10 : σ3.2 10 i = lN (cv (vb' i) D') := by rw [r2, ← hσ1, mL_at, if_pos ⟨rfl, rfl⟩]
      refine ⟨vp_in_nI hs (by decide), vp_in_nI (by omega) (by decide), vp_in_nI (by omega) (by decide), add_spec (w := vb' i) (c := ct i) (by rw [fr13]; omega) (by rw [hsum] at hle; omega) hD' hD63 (isF_f hF1 (by rw [r2]) (by rw [r2])) (by rw [r9, lN_mul]) r10 (fun v e => ?_)⟩
      rw [nI_1] at e
      subst e
      have hsm : T0 c + sm (fun b => if fr b = true ∧ fc n st (rw' b) (ln b) = c then ct b * vb' b else 0) i + ct i * vb' i = T0 c + sm (fun b => if fr b = true ∧ fc n st (rw' b) (ln b) = c then ct b * vb' b else 0) (i + 1) := by rw [hsum, Nat.add_assoc]
      rw [hsm]
      generalize hσ4 : mL (mL σ3 (12 + 5 * s + 1 + 1) c (lN (cu (T0 c + sm (fun b => if fr b = true ∧ fc n st (rw' b) (ln b) = c then ct b * vb' b else 0) (i + 1)) D'))) (12 + 5 * s + 1 + 2) c (lN (cv (T0 c + sm (fun b => if fr b = true ∧ fc n st (rw' b) (ln b) = c then ct b * vb' b else 0) (i + 1)) D')) = σ4
      have q1 : ∀ o j, σ4.1 o j = if o = 12 + 5 * s + 4 ∧ j = c then nI (sm (fun b => if fr b = true ∧ fc n st (rw' b) (ln b) = c then ct b else 0) i + ct i) else if o = 7 ∧ j = i then nI c else σ.1 o j := fun o j => by
        rw [← hσ4]
        show σ3.1 o j = _
        rw [e3, mI_at, e2, mI_at, r1]
      have q2 : ∀ o j, ¬ (o = 12 + 5 * s + 1 + 1 ∧ j = c) → ¬ (o = 12 + 5 * s + 1 + 2 ∧ j = c) → ¬ (o = 9 ∧ j = i) → ¬ (o = 10 ∧ j = i) → σ4.2 o j = σ.2 o j := fun o j n1 n2 n3 n4 => by
        rw [← hσ4, mL_at, if_neg n2, mL_at, if_neg n1, r2, ← hσ1, mL_at, if_neg n4, mL_at, if_neg n3]
      have q8 : isF σ4 8 i (vb' i) D' := by
        constructor
        · rw [← hσ4, mL_at, if_neg (by omega), mL_at, if_neg (by omega)]
          exact r9
        · rw [← hσ4, mL_at, if_neg (by omega), mL_at, if_neg (by omega)]
          exact r10
      refine ih (i + 1) σ4 (by omega) ⟨fun o o7 oA => ?_, fun o o9 o10 o1 o2 => ?_, fun b hb => ?_, fun b hb => ?_, fun d hd => ?_, fun d hd => ?_⟩
      · rw [← f1 o o7 oA]
        funext j
        rw [q1, if_neg (by omega), if_neg (by omega)]
      · rw [← f2 o o9 o10 o1 o2]
        funext j
        exact q2 o j (by omega) (by omega) (by omega) (by omega)
      · rw [q1, if_neg (by omega)]
        by_cases e : b = i
        · subst e
          rw [if_pos ⟨rfl, rfl⟩, if_pos ⟨hf, by omega⟩]
          show nI c = nI (fc n st (rw' b) (ln b))
          rw [hcc]
        · rw [if_neg (by omega), hH b hb]
          by_cases e2 : fr b = true ∧ b < i
          · rw [if_pos e2, if_pos ⟨e2.1, by omega⟩]
          · rw [if_neg e2, if_neg (fun w => e2 ⟨w.1, by omega⟩)]
      · by_cases e : b = i
        · subst e
          exact ⟨fun w => absurd w.2 (by omega), fun _ => q8⟩
        · have hq : ∀ a d, isF σ 8 b a d → isF σ4 8 b a d := fun a d w => isF_f w (q2 _ _ (by omega) (by omega) (by omega) (by omega)) (q2 _ _ (by omega) (by omega) (by omega) (by omega))
          exact ⟨fun w => hq _ _ ((hV b hb).1 ⟨w.1, by omega⟩), fun w => hq _ _ ((hV b hb).2 (fun z => w ⟨z.1, by omega⟩))⟩
      · rw [q1]
        by_cases e : d = c
        · subst e
          rw [if_pos ⟨rfl, rfl⟩]
          show nI _ = nI (sm (fun b => if fr b = true ∧ fc n st (rw' b) (ln b) = d then ct b else 0) i + (if fr i = true ∧ fc n st (rw' i) (ln i) = d then ct i else 0))
          rw [if_pos ⟨hf, hcc⟩]
        · rw [if_neg (by omega), if_neg (by omega), hA d hd]
          show nI _ = nI (sm (fun b => if fr b = true ∧ fc n st (rw' b) (ln b) = d then ct b else 0) i + (if fr i = true ∧ fc n st (rw' i) (ln i) = d then ct i else 0))
          rw [if_neg (fun w => e (by rw [← hcc]; exact w.2.symm)), Nat.add_zero]
      · by_cases e : d = c
        · subst e
          constructor
          · rw [← hσ4, mL_at, if_neg (by omega), mL_at, if_pos ⟨rfl, rfl⟩]
          · rw [← hσ4, mL_at, if_pos ⟨rfl, rfl⟩]
        · have hz : sm (fun b => if fr b = true ∧ fc n st (rw' b) (ln b) = d then ct b * vb' b else 0) (i + 1) = sm (fun b => if fr b = true ∧ fc n st (rw' b) (ln b) = d then ct b * vb' b else 0) i := by
            show _ + (if fr i = true ∧ fc n st (rw' i) (ln i) = d then ct i * vb' i else 0) = _
            rw [if_neg (fun w => e (by rw [← hcc]; exact w.2.symm)), Nat.add_zero]
          show isF σ4 _ d (T0 d + sm (fun b => if fr b = true ∧ fc n st (rw' b) (ln b) = d then ct b * vb' b else 0) (i + 1)) D'
          rw [hz]
          exact isF_f (hT' d hd) (q2 _ _ (by omega) (by omega) (by omega) (by omega)) (q2 _ _ (by omega) (by omega) (by omega) (by omega))
    · have hf : ¬ fr i = true := fun w => q ((hfr i hiB).mpr w)
      rw [nI_1] at e
      subst e
      refine ih (i + 1) σ (by omega) ⟨f1, f2, fun b hb => ?_, fun b hb => ?_, fun d hd => ?_, fun d hd => ?_⟩
      · rw [hH b hb]
        by_cases e : fr b = true ∧ b < i
        · rw [if_pos e, if_pos ⟨e.1, by omega⟩]
        · rw [if_neg e, if_neg (fun w => e ⟨w.1, by
            by_cases z : b = i
            · subst z
              exact absurd w.1 hf
            · omega⟩)]
      · refine ⟨fun w => (hV b hb).1 ⟨w.1, by omega⟩, fun w => (hV b hb).2 (fun z => w ⟨z.1, ?_⟩)⟩
        by_cases y : b = i
        · subst y
          exact absurd z.1 hf
        · omega
      · rw [hA d hd]
        show nI _ = nI (sm (fun b => if fr b = true ∧ fc n st (rw' b) (ln b) = d then ct b else 0) i + (if fr i = true ∧ fc n st (rw' i) (ln i) = d then ct i else 0))
        rw [if_neg (fun w => hf w.1), Nat.add_zero]
      · have hz : sm (fun b => if fr b = true ∧ fc n st (rw' b) (ln b) = d then ct b * vb' b else 0) (i + 1) = sm (fun b => if fr b = true ∧ fc n st (rw' b) (ln b) = d then ct b * vb' b else 0) i := by
          show _ + (if fr i = true ∧ fc n st (rw' i) (ln i) = d then ct i * vb' i else 0) = _
          rw [if_neg (fun w => hf w.1), Nat.add_zero]
        show isF σ _ d (T0 d + sm (fun b => if fr b = true ∧ fc n st (rw' b) (ln b) = d then ct b * vb' b else 0) (i + 1)) D'
        rw [hz]
        exact hT' d hd
theorem passX_spec {Q : Mem → Prop} {σ0 : Mem} {x1 : Int32} {tu tl D D' : Nat} {fr : Nat → Bool} {vb vb' T0 : Nat → Nat} (hI : rlI n k el ex dr st) (hX : rlX σ0 n el ex dr st) (h4 : σ0.1 0 4 = nI s) (hs : s < 13) (hpI : plI n B ct rw' ln bo P) (hpX : plX σ0 B ct rw' P) (hfr : ∀ b, b < B → (σ0.1 7 b = x1 ↔ fr b = true)) (hD : 0 < D) (hD' : 0 < D') (hD63 : D' < 2 ^ 63) (htl : 0 < tl) (hmul : ∀ b, b < B → fr b = true → vb b * tu < 2 ^ 63 ∧ D * tl < 2 ^ 63 ∧ vb b * tu * D' = vb' b * (D * tl)) (hT : ∀ c, c ≤ n → T0 c + sm (fun b => if fr b = true ∧ fc n st (rw' b) (ln b) = c then ct b * vb' b else 0) B < 2 ^ 63) (hA : ∀ c, c ≤ n → σ0.1 (12 + 5 * s + 4) c = 0) (hV : ∀ b, b < B → (fr b = true → isF σ0 8 b (vb b) D) ∧ (¬ fr b = true → isF σ0 8 b (vb' b) D')) (hT0 : ∀ c, c ≤ n → isF σ0 (12 + 5 * s + 1) c (T0 c) D') (hQ : ∀ σ, pL σ0 n B s ct fr (fun b => fc n st (rw' b) (ln b)) vb vb' D D' T0 B σ → Q σ) : wp_C_passOn Q x1 (lN tu) (lN tl) σ0 :=
  ⟨B + 1, by
    rw [nI_0']
    refine passX_go hI hX h4 hs hpI hpX hfr hD hD' hD63 htl hmul hT hQ B 0 σ0 (by omega) ⟨fun _ _ _ => rfl, fun _ _ _ _ _ => rfl, fun b _ => ?_, fun b hb => ⟨fun w => (hV b hb).1 w.1, fun w => (hV b hb).2 (fun z => w ⟨z, by omega⟩)⟩, fun c hc => ?_, fun c hc => hT0 c hc⟩
    · rw [if_neg (by omega)]
    · rw [hA c hc]
      exact nI_0.symm⟩
end PX
