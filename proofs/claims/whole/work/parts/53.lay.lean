/-! lay -/
section LY
variable {n k el ex : Nat} {dr : Nat → Nat} {st : Nat → Int} {B : Nat} {ct rw' ln bo : Nat → Nat} {P s : Nat} {σ τ : Mem}
theorem putX_spec {Q : Mem → Prop} {m M : Nat} (hpX : plX σ B ct rw' P) (hB : B < 50) (hQ : ∀ σ', (∀ o, o ≠ 4 → o ≠ 6 → o ≠ 7 → σ'.1 o = σ.1 o) → (∀ o, o ≠ 5 → o ≠ 9 → o ≠ 10 → σ'.2 o = σ.2 o) → σ'.1 4 4 = nI (B + 1) → σ'.1 4 5 = nI (P + M) → (∀ b, b ≠ B → σ'.1 6 b = σ.1 6 b ∧ σ'.1 7 b = σ.1 7 b ∧ σ'.2 5 b = σ.2 5 b ∧ σ'.2 9 b = σ.2 9 b ∧ σ'.2 10 b = σ.2 10 b) → σ'.1 6 B = nI M → σ'.1 7 B = -1 → σ'.2 5 B = lN m → isF σ' 8 B 1 1 → Q σ') : wp_P_put Q (lN m) (nI M) σ := by
  obtain ⟨h4, h5, h6, h7⟩ := hpX
  unfold wp_P_put
  rw [h4, nI_clamp (by omega)]
  refine ⟨vp_in_nI hB (by decide), fun σ1 e1 => ?_⟩
  have a4 : σ1.1 4 4 = nI B := by rw [e1]; exact h4
  rw [a4, nI_clamp (by omega)]
  refine ⟨vp_in_nI hB (by decide), fun σ2 e2 => ?_⟩
  have b4 : σ2.1 4 4 = nI B := by rw [e2, mI_at, if_neg (by omega)]; exact a4
  rw [b4, nI_clamp (by omega)]
  refine ⟨vp_in_nI hB (by decide), fun σ3 e3 => ?_⟩
  have c4 : σ3.1 4 4 = nI B := by rw [e3, mI_at, if_neg (by omega)]; exact b4
  have c5 : σ3.1 4 5 = nI P := by rw [e3, mI_at, if_neg (by omega), e2, mI_at, if_neg (by omega), e1]; exact h5
  rw [c4]
  refine put_spec (u := 1) (v := 1) (by unfold frLen; rw [if_pos rfl]; exact hB) (by decide) (by decide) (by decide) ?_
  generalize hσ4 : mL (mL σ3 (8 + 1) B (lN (cu 1 1))) (8 + 2) B (lN (cv 1 1)) = σ4
  intro σ5 e5 σ6 e6
  have d4 : σ4.1 = σ3.1 := by rw [← hσ4]; rfl
  rw [d4, c4, nI_1] at e5
  have d5 : σ5.1 4 5 = nI P := by rw [e5, mI_at, if_neg (by omega), d4]; exact c5
  rw [d5, nI_add] at e6
  have r1 : ∀ o i, σ6.1 o i = if o = 4 ∧ i = 5 then nI (P + M) else if o = 4 ∧ i = 4 then nI (B + 1) else if o = 7 ∧ i = B then -1 else if o = 6 ∧ i = B then nI M else σ.1 o i := fun o i => by rw [e6, mI_at, e5, mI_at, d4, e3, mI_at, e2, mI_at, e1]; rfl
  have r2 : ∀ o i, σ6.2 o i = if o = 10 ∧ i = B then lN (cv 1 1) else if o = 9 ∧ i = B then lN (cu 1 1) else if o = 5 ∧ i = B then lN m else σ.2 o i := fun o i => by rw [e6, mI_at2, e5, mI_at2, ← hσ4, mL_at, mL_at, e3, mI_at2, e2, mI_at2, e1, mL_at]
  refine hQ σ6 (fun o o4 o6 o7 => ?_) (fun o o5 o9 o10 => ?_) ?_ ?_ (fun b hb => ⟨?_, ?_, ?_, ?_, ?_⟩) ?_ ?_ ?_ ⟨?_, ?_⟩
  · funext i
    rw [r1, if_neg (by omega), if_neg (by omega), if_neg (by omega), if_neg (by omega)]
  · funext i
    rw [r2, if_neg (by omega), if_neg (by omega), if_neg (by omega)]
  · rw [r1, if_neg (by omega), if_pos ⟨rfl, rfl⟩]
  · rw [r1, if_pos ⟨rfl, rfl⟩]
  · rw [r1, if_neg (by omega), if_neg (by omega), if_neg (by omega), if_neg (by omega)]
  · rw [r1, if_neg (by omega), if_neg (by omega), if_neg (by omega), if_neg (by omega)]
  · rw [r2, if_neg (by omega), if_neg (by omega), if_neg (by omega)]
  · rw [r2, if_neg (by omega), if_neg (by omega), if_neg (by omega)]
  · rw [r2, if_neg (by omega), if_neg (by omega), if_neg (by omega)]
  · rw [r1, if_neg (by omega), if_neg (by omega), if_neg (by omega), if_pos ⟨rfl, rfl⟩]
  · rw [r1, if_neg (by omega), if_neg (by omega), if_pos ⟨rfl, rfl⟩]
  · rw [r2, if_neg (by omega), if_neg (by omega), if_pos ⟨rfl, rfl⟩]
  · rw [r2, if_neg (by omega), if_pos ⟨rfl, rfl⟩]
  · rw [r2, if_pos ⟨rfl, rfl⟩]
def lyI (τ0 : Mem) (P L m i : Nat) (τ : Mem) : Prop := τ.2 = τ0.2 ∧ (∀ o, o ≠ 3 → o ≠ 4 → τ.1 o = τ0.1 o) ∧ (∀ j, j < 7 * P → τ.1 3 j = τ0.1 3 j) ∧ (∀ p, p < P → τ.1 4 p = τ0.1 4 p) ∧ ∀ p, P ≤ p → p < i → τ.1 4 p = nI L ∧ ∀ j, j < L → τ.1 3 (7 * p + j) = nI (nb m j - 1)
theorem lay168 {Q : Int32 → Mem → Prop} {τ0 : Mem} {m M L : Nat} (hm : m < 2 ^ 64) (hL : L ≤ 7) (hL1 : ∀ j, j < L → 1 ≤ nb m j) (hPM : P + M ≤ 50) (h7 : τ0.1 0 7 = nI P) (hQ : ∀ τ, lyI τ0 P L m (P + M) τ → Q (nI (P + M)) (mI τ 0 7 (nI (P + M)))) : ∀ (t i : Nat) (τ : Mem), i + t = P + M → P ≤ i → lyI τ0 P L m i τ → wp_M_lay_168 Q (t + 1) (lN m) (nI M) (nI L) (nI i) τ := by
  intro t
  induction t with
  | zero =>
    intro i τ hi hPi h
    have : i = P + M := by omega
    subst this
    have e7 : τ.1 0 7 = nI P := by rw [h.2.1 0 (by decide) (by decide)]; exact h7
    refine ⟨fun _ τ1 e1 => ?_, fun q => ?_⟩
    · rw [e7, nI_add] at e1
      have : τ1.1 0 7 = nI (P + M) := by rw [e1, mI_at, if_pos ⟨rfl, rfl⟩]
      rw [this, e1]
      exact hQ τ h
    · rw [e7, nI_add] at q
      exact absurd (nI_le (Nat.le_refl _) (by omega)) q
  | succ t ih =>
    intro i τ hi hPi h
    have e7 : τ.1 0 7 = nI P := by rw [h.2.1 0 (by decide) (by decide)]; exact h7
    refine ⟨fun q => ?_, fun _ => ⟨vp_in_nI (by omega) (by decide), fun τ1 e1 => ⟨L + 1, ?_⟩⟩⟩
    · rw [e7, nI_add] at q
      exact absurd q (nI_ge (by omega) (by omega))
    rw [nI_clamp (by omega)] at e1
    have hin : ∀ (t2 j : Nat) (τ2 : Mem), j + t2 = L → τ2.2 = τ0.2 → (∀ o, o ≠ 3 → o ≠ 4 → τ2.1 o = τ0.1 o) → (∀ j, j < 7 * P → τ2.1 3 j = τ0.1 3 j) → (∀ p, p < P → τ2.1 4 p = τ0.1 4 p) → (∀ p, P ≤ p → p < i → τ2.1 4 p = nI L ∧ ∀ j, j < L → τ2.1 3 (7 * p + j) = nI (nb m j - 1)) → τ2.1 4 i = nI L → (∀ j', j' < j → τ2.1 3 (7 * i + j') = nI (nb m j' - 1)) → wp_M_lay_191 Q (wp_M_lay_168 Q (t + 1)) (t2 + 1) (lN m) (nI M) (nI L) (nI i) (nI j) τ2 := by
      intro t2
      induction t2 with
      | zero =>
        intro j τ2 hj b1 b2 b3 b4 b5 b6 b7
        have : j = L := by omega
        subst this
        refine ⟨fun _ v e => ?_, fun q => absurd (nI_le (Nat.le_refl _) (by omega)) q⟩
        rw [nI_1] at e
        subst e
        refine ih (i + 1) τ2 (by omega) (by omega) ⟨b1, b2, b3, b4, fun p h1 h2 => ?_⟩
        by_cases e : p = i
        · subst e
          exact ⟨b6, b7⟩
        · exact b5 p h1 (by omega)
      | succ t2 ih2 =>
        intro j τ2 hj b1 b2 b3 b4 b5 b6 b7
        have hj1 := hL1 j (by omega)
        refine ⟨fun q => absurd q (nI_ge (by omega) (by omega)), fun _ => rank_spec hm (by omega) ?_⟩
        rw [i7, nI_clamp (by omega), nI_m1 (by omega)]
        refine ⟨vp_in_nI (by omega) (by decide), fun τ3 e3 v e => ?_⟩
        rw [nI_1] at e
        subst e
        subst e3
        refine ih2 (j + 1) _ (by omega) b1 (fun o o3 o4 => ?_) (fun j' hj' => ?_) (fun p hp => ?_) (fun p h1 h2 => ⟨?_, fun j' hj' => ?_⟩) ?_ (fun j' hj' => ?_)
        · rw [(mI_ne o o3).1]; exact b2 o o3 o4
        · rw [mI_at, if_neg (by omega)]; exact b3 j' hj'
        · rw [mI_at, if_neg (by omega)]; exact b4 p hp
        · rw [mI_at, if_neg (by omega)]; exact (b5 p h1 h2).1
        · rw [mI_at, if_neg (by omega)]; exact (b5 p h1 h2).2 j' hj'
        · rw [mI_at, if_neg (by omega)]; exact b6
        · rw [mI_at]
          by_cases e : j' = j
          · subst e
            rw [if_pos ⟨rfl, rfl⟩]
          · rw [if_neg (by omega)]; exact b7 j' (by omega)
    obtain ⟨c1, c2, c3, c4, c5⟩ := h
    rw [nI_0']
    subst e1
    refine hin L 0 _ (by omega) c1 (fun o o3 o4 => ?_) (fun j hj => ?_) (fun p hp => ?_) (fun p h1 h2 => ⟨?_, fun j hj => ?_⟩) ?_ (fun j hj => absurd hj (by omega))
    · rw [(mI_ne o o4).1]; exact c2 o o3 o4
    · rw [mI_at, if_neg (by omega)]; exact c3 j hj
    · rw [mI_at, if_neg (by omega)]; exact c4 p hp
    · rw [mI_at, if_neg (by omega)]; exact (c5 p h1 h2).1
    · rw [mI_at, if_neg (by omega)]; exact (c5 p h1 h2).2 j hj
    · rw [mI_at, if_pos ⟨rfl, rfl⟩]
theorem sm_app {f : Nat → Nat} {a : Nat} : ∀ {b : Nat}, sm f (a + b) = sm f a + sm (fun i => f (a + i)) b
  | 0 => rfl
  | b + 1 => by
    show sm f (a + b) + f (a + b) = sm f a + (sm (fun i => f (a + i)) b + f (a + b))
    rw [sm_app (b := b), Nat.add_assoc]
theorem plI_lay {m M L : Nat} (h : plI n B ct rw' ln bo P) (hM : 1 ≤ M) (hPM : P + M ≤ 50) (hm : m < 2 ^ 64) (hg : gRow n m L) : plI n (B + 1) (va_up ct B M) (va_up rw' B m) (va_up ln B L) (fun p => if p < P then bo p else B) (P + M) := by
  obtain ⟨h1, h2, h3, h4, h5⟩ := h
  refine ⟨hPM, fun b hb => ?_, fun p hp => ?_, fun b hb => ?_, fun g => ?_⟩
  · by_cases e : b = B
    · subst e
      rw [va_up_self, va_up_self, va_up_self]
      exact ⟨hM, hm, hg⟩
    · rw [va_up_ne _ _ e, va_up_ne _ _ e, va_up_ne _ _ e]
      exact h2 b (by omega)
  · show (if p < P then bo p else B) < B + 1
    split
    · have := h3 p (by assumption)
      omega
    · omega
  · by_cases e : b = B
    · exact ⟨P, by omega, by rw [e]; exact if_neg (by omega)⟩
    · obtain ⟨p, hp, e2⟩ := h4 b (by omega)
      exact ⟨p, by omega, by rw [← e2]; exact if_pos hp⟩
  · rw [sm_app]
    show _ = sm (fun b => va_up ct B M b * g b) B + va_up ct B M B * g B
    rw [va_up_self]
    have e1 : sm (fun p => g (if p < P then bo p else B)) P = sm (fun b => va_up ct B M b * g b) B := by
      rw [sm_congr (g := fun p => g (bo p)) (fun p hp => by rw [if_pos hp]), h5 g]
      exact sm_congr (fun b hb => by rw [va_up_ne _ _ (by omega)])
    have e2 : sm (fun i => g (if P + i < P then bo (P + i) else B)) M = M * g B := by
      rw [sm_congr (g := fun _ => g B) (fun i _ => by rw [if_neg (by omega)]), sm_k, Nat.mul_comm]
    rw [e1, e2]
def layG (n P m : Nat) (x : Int32) : Prop := ∃ M L, x = nI M ∧ 1 ≤ M ∧ P + M ≤ 50 ∧ gRow n m L
/-- the reference's lay, up to whether it is good -/
theorem layM_spec {Q : Int32 → Mem → Prop} {m : Nat} {x : Int32} (hI : rlI n k el ex dr st) (hM : rlM τ n k el ex dr st) (h7 : τ.1 0 7 = nI P) (hP : P ≤ 50) (hm : m < 2 ^ 64) (hbad : ¬ layG n P m x → ∀ L : Nat, ((τ.1 0 15) < 0 → wp_M_lay_154 Q (lN m) x (nI L) 2 τ) ∧ (¬ (τ.1 0 15) < 0 → wp_M_lay_154 Q (lN m) x (nI L) 1 τ)) (hgood : ∀ M L, x = nI M → 1 ≤ M → P + M ≤ 50 → gRow n m L → ((τ.1 0 15) < 0 → wp_M_lay_154 Q (lN m) x (nI L) 0 τ) ∧ (¬ (τ.1 0 15) < 0 → wp_M_lay_154 Q (lN m) x (nI L) 1 τ)) : wp_M_lay Q (lN m) x τ := by
  have hn := hI.2.1
  have h28 : ∀ t0 : Int32, fl t0 (∃ M, x = nI M ∧ 1 ≤ M ∧ P + M ≤ 50) → wp_M_lay_28 Q (lN m) x (nI 0) t0 τ := fun t0 ht => ⟨17, by
    refine lay30 (g := ∃ M, x = nI M ∧ 1 ≤ M ∧ P + M ≤ 50) hm hM.1 hn (fun L x5 hL hp hz hf => ?_) 16 0 t0 (by omega) (fun j hj => absurd hj (by omega)) ?_
    · by_cases hg : layG n P m x
      · obtain ⟨M, L', e, hM1, hPM, hg'⟩ := hg
        have eL : L' = L := by
          rcases Nat.lt_trichotomy L' L with q | q | q
          · have h1 := hp L' q
            have h2 := hg'.2.2.2.1
            omega
          · exact q
          · have h1 := (hg'.2.2.1 L q).1
            rcases hz with z | z
            · have := hg'.2.1
              omega
            · omega
        subst eL
        obtain ⟨w1, w2⟩ := hgood M L' e hM1 hPM hg'
        refine ⟨fun q => ⟨fun q5 => ?_, fun _ => ⟨fun q0 => ?_, fun _ => w1 q⟩⟩, w2⟩
        · rcases hf with ⟨e5, -⟩ | ⟨-, hf⟩
          · rw [e5] at q5
            exact absurd q5 (by decide)
          · exact absurd ⟨⟨M, e, hM1, hPM⟩, hg'.2.1, fun j hj => (hg'.2.2.1 j hj).2, fun a b hab hb => hg'.2.2.2.2 a b hab hb⟩ hf
        · rw [nI_0', nI_leI (by omega) (by decide)] at q0
          have := hg'.1
          omega
      · obtain ⟨w1, w2⟩ := hbad hg L
        refine ⟨fun q => ⟨fun _ => w1 q, fun q5 => ⟨fun _ => w1 q, fun q0 => ?_⟩⟩, w2⟩
        rcases hf with ⟨-, ⟨M, e, hM1, hPM⟩, hPr⟩ | ⟨e5, -⟩
        · rw [nI_0', nI_leI (by omega) (by decide)] at q0
          refine absurd ⟨M, L, e, hM1, hPM, by omega, hPr.1, fun j hj => ⟨hp j hj, hPr.2.1 j hj⟩, ?_, hPr.2.2⟩ hg
          rcases hz with z | z
          · have := hPr.1
            omega
          · exact z
        · exact absurd e5 q5
    · rcases ht with ⟨e, hx⟩ | ⟨e, hx⟩
      · exact Or.inl ⟨e, hx, by omega, fun j hj => absurd hj (by omega), fun a b _ hb => absurd hb (by omega)⟩
      · exact Or.inr ⟨e, fun w => hx w.1⟩⟩
  have hno : ¬ (∃ M, x = nI M ∧ 1 ≤ M ∧ P + M ≤ 50) → wp_M_lay_27 Q (lN m) x 0 τ := fun w => h28 0 (Or.inr ⟨rfl, w⟩)
  refine ⟨fun q => hno (fun w => ?_), fun q => ?_⟩
  · obtain ⟨M, e, h1, h2⟩ := w
    rw [e, show (1 : Int32) = nI 1 by decide, nI_ltI (by omega) (by decide)] at q
    omega
  · have x0 : ¬ x < 0 := fun w => q (Int32.lt_trans w (by decide))
    obtain ⟨M, hM31, rfl⟩ := nI_of x0
    rw [show (1 : Int32) = nI 1 by decide, nI_ltI hM31 (by decide)] at q
    rw [h7, nI_l (by omega), nI_l hM31, lN_add, lg_cmp_gt, show (50 : Int64) = lN 50 by decide, pk_lLT (by decide) (by omega)]
    refine ⟨fun z => hno (fun w => ?_), fun z => h28 1 (Or.inl ⟨rfl, M, rfl, by omega, by omega⟩)⟩
    obtain ⟨M', e, h1, h2⟩ := w
    have := (nI_eq hM31 (by omega)).mp e
    omega
theorem lay_law {Q : Int32 → Mem → (Nat → Int64) → Prop} {ou : Nat → Int64} {m : Nat} {x : Int32} (hm : m < 2 ^ 64) (h : RR σ τ) (hQ : ∀ r σ' ou', (∀ QM : Int32 → Mem → Prop, (∀ b τ', RR σ' τ' → τ'.1 0 0 = r → (r = 0 → ou' 0 = Int32.toInt64 b) → QM b τ') → wp_M_lay QM (lN m) x τ) → Q r σ' ou') : wp_L_lay Q ou (lN m) x σ := by
  have h' := h
  have hsay : ∀ (QM : Int32 → Mem → Prop) (v : Int32) (L : Nat), ¬ v = 0 → QM 0 (mI τ 0 0 v) → wp_M_lay_154 QM (lN m) x (nI L) v τ := fun QM v L hv hq => says_spec (fun q => absurd q hv) (fun _ => ⟨fun _ => hq, fun q => absurd rfl q⟩)
  rcases h with ⟨n, k, el, ex, dr, st, B, ct, rw', ln, bo, P, h1, h2, h3⟩ | ⟨n, k, el, ex, dr, st, B, ct, rw', ln, bo, P, s, ov, wb, pl, vb, de, ke, to, dn, wn, h1, h2, h3⟩
  · have hI := h1.1
    have hpI := h1.2.1
    have hn := hI.2.1
    have hP := hpI.1
    have hBP := plI_B hpI
    obtain ⟨hX, hpX, hx3, hx4, hx5, hx7, hxb⟩ := h2
    have h15 : τ.1 0 15 < 0 := by rw [h3.2.2.1]; decide
    have hbad : ¬ layG n P m x → wp_C_lay_43 (fun r σ1 => Q 0 σ1 (vp_updL ou 0 r.toInt64)) (fun X σ1 => (X = xIS ∧ Q 1 σ1 ou) ∨ (X = xIA ∧ Q 2 σ1 ou)) σ := fun hg => Or.inr ⟨rfl, hQ 2 σ ou (fun QM hM => layM_spec hI h3.1 h3.2.1.1 hP hm (fun _ L => ⟨fun _ => hsay QM 2 L (by decide) (hM 0 _ (RR_says h') (by rw [mI_at, if_pos ⟨rfl, rfl⟩]) (fun q => absurd q (by decide))), fun q => absurd h15 q⟩) (fun M L e h1 h2 h3 => absurd ⟨M, L, e, h1, h2, h3⟩ hg))⟩
    have h27 : ¬ layG n P m x → wp_C_lay_27 (fun r σ1 => Q 0 σ1 (vp_updL ou 0 r.toInt64)) (fun X σ1 => (X = xIS ∧ Q 1 σ1 ou) ∨ (X = xIA ∧ Q 2 σ1 ou)) (lN m) x σ := fun hg => ⟨fun _ => hbad hg, fun q => absurd rfl q⟩
    refine ⟨fun _ => ⟨Or.inl rfl, fun _ => ⟨fun q => h27 (fun w => ?_), fun q => ?_⟩, fun q => absurd rfl q⟩, fun q => absurd hx4 q⟩
    · obtain ⟨M, L, e, g1, g2, -⟩ := w
      rw [e, show (1 : Int32) = nI 1 by decide, nI_ltI (by omega) (by decide)] at q
      omega
    have x0 : ¬ x < 0 := fun w => q (Int32.lt_trans w (by decide))
    obtain ⟨M, hM31, rfl⟩ := nI_of x0
    rw [show (1 : Int32) = nI 1 by decide, nI_ltI hM31 (by decide)] at q
    rw [hpX.2.1, show (50 : Int32) = nI 50 by decide, pk_sub hP, nI_ltI (by omega) hM31]
    refine ⟨fun z => h27 (fun w => ?_), fun z => ⟨fun w => absurd w (by decide), fun _ => ranking_spec hm hX.1 hn (fun L hg => ⟨fun w => absurd w (by decide), fun _ => ?_⟩) (fun hno => ⟨fun _ => hbad (fun w => ?_), fun w => absurd rfl w⟩)⟩⟩
    · obtain ⟨M', L, e, g1, g2, -⟩ := w
      have := (nI_eq hM31 (by omega)).mp e
      omega
    · refine putX_spec hpX (by omega) (fun σ' a1 a2 a3 a4 a5 a6 a7 a8 a9 => ?_)
      have hsX : suX σ' n k el ex dr st (B + 1) (va_up ct B M) (va_up rw' B m) (P + M) := by
        refine ⟨?_, ⟨a3, a4, fun b hb => ?_, fun b hb => ?_⟩, ?_, ?_, ?_, ?_, fun b hb => ?_⟩
        · unfold rlX
          rw [a1 1 (by decide) (by decide) (by decide), a1 2 (by decide) (by decide) (by decide), a1 3 (by decide) (by decide) (by decide)]
          exact hX
        · by_cases e : b = B
          · rw [e, va_up_self]; exact a6
          · rw [va_up_ne _ _ e, (a5 b e).1]; exact hpX.2.2.1 b (by omega)
        · by_cases e : b = B
          · rw [e, va_up_self]; exact a8
          · rw [va_up_ne _ _ e, (a5 b e).2.2.1]; exact hpX.2.2.2 b (by omega)
        · rw [a1 0 (by decide) (by decide) (by decide)]; exact hx3
        · rw [a1 0 (by decide) (by decide) (by decide)]; exact hx4
        · rw [a1 0 (by decide) (by decide) (by decide)]; exact hx5
        · rw [a2 0 (by decide) (by decide) (by decide)]; exact hx7
        · by_cases e : b = B
          · rw [e]; exact ⟨a7, a9⟩
          · have hq := hxb b (by omega)
            exact ⟨by rw [(a5 b e).2.1]; exact hq.1, isF_f hq.2 (a5 b e).2.2.2.1 (a5 b e).2.2.2.2⟩
      rw [a4]
      refine hQ 0 σ' _ (fun QM hM => layM_spec hI h3.1 h3.2.1.1 hP hm (fun hb _ => absurd ⟨M, L, rfl, by omega, by omega, hg⟩ hb) (fun M' L' e g1 g2 g3 => ⟨fun _ => says_spec (fun _ => ⟨fun w => absurd w (by decide), fun _ v ev => ?_⟩) (fun w => absurd rfl w), fun w => absurd h15 w⟩))
      have eM := (nI_eq hM31 (by omega)).mp e
      subst eM
      have hm3 := suM_says (v := 0) h3
      obtain ⟨hrM, ⟨p1, p2, p3⟩, q15, q19, q8⟩ := hm3
      rw [p1] at ev
      subst ev
      refine ⟨M + 1, lay168 hm g3.2.1 (fun j hj => (g3.2.2.1 j hj).1) g2 p1 (fun τ2 hl => ?_) M P _ (by omega) (by omega) ⟨rfl, fun _ _ _ => rfl, fun _ _ => rfl, fun _ _ => rfl, fun p h1 h2 => absurd h1 (by omega)⟩⟩
      obtain ⟨l1, l2, l3, l4, l5⟩ := hl
      have y1 : ∀ o i, o ≠ 3 → o ≠ 4 → ¬ (o = 0 ∧ i = 7) → (mI τ2 0 7 (nI (P + M))).1 o i = (mI τ 0 0 0).1 o i := fun o i o3 o4 q => by rw [mI_at, if_neg q, l2 o o3 o4]
      have y3 : ∀ o i, o = 3 ∨ o = 4 → (mI τ2 0 7 (nI (P + M))).1 o i = τ2.1 o i := fun o i q => by rw [mI_at, if_neg (by omega)]
      refine hM _ _ (Or.inl ⟨n, k, el, ex, dr, st, B + 1, va_up ct B M, va_up rw' B m, va_up ln B L', (fun p => if p < P then bo p else B), P + M, ⟨hI, plI_lay hpI g1 g2 hm g3, h1.2.2⟩, hsX, ⟨?_, ?_, ?_, ?_, fun d hd => ?_, fun d hd => ?_⟩, ⟨?_, fun p hp => ?_, fun p hp j hj => ?_⟩, ?_, ?_, fun d hd => ?_⟩) (by rw [y1 _ _ (by decide) (by decide) (by omega), mI_at, if_pos ⟨rfl, rfl⟩]) (fun _ => by rw [pk_uLs])
      · rw [y1 _ _ (by decide) (by decide) (by omega)]; exact hrM.1
      · rw [y1 _ _ (by decide) (by decide) (by omega)]; exact hrM.2.1
      · rw [y1 _ _ (by decide) (by decide) (by omega)]; exact hrM.2.2.1
      · rw [y1 _ _ (by decide) (by decide) (by omega)]; exact hrM.2.2.2.1
      · rw [y1 _ _ (by decide) (by decide) (by omega)]; exact hrM.2.2.2.2.1 d hd
      · rw [y1 _ _ (by decide) (by decide) (by omega)]; exact hrM.2.2.2.2.2 d hd
      · rw [mI_at, if_pos ⟨rfl, rfl⟩]
      · rw [y3 _ _ (Or.inr rfl)]
        by_cases e : p < P
        · have hbp := hpI.2.2.1 p e
          simp only [if_pos e]
          rw [l4 p e, va_up_ne _ _ (by omega)]
          exact p2 p e
        · simp only [if_neg e]
          rw [va_up_self]
          exact (l5 p (by omega) hp).1
      · rw [y3 _ _ (Or.inl rfl)]
        by_cases e : p < P
        · have hbp := hpI.2.2.1 p e
          simp only [if_pos e] at hj ⊢
          rw [va_up_ne _ _ (by omega)] at hj
          have hg7 := (hpI.2.1 _ hbp).2.2.2.1
          rw [l3 _ (by omega), va_up_ne _ _ (by omega)]
          exact p3 p e j hj
        · simp only [if_neg e] at hj ⊢
          rw [va_up_self] at hj ⊢
          exact (l5 p (by omega) hp).2 j hj
      · rw [y1 _ _ (by decide) (by decide) (by omega)]; exact q15
      · rw [y1 _ _ (by decide) (by decide) (by omega)]; exact q19
      · rw [y1 _ _ (by decide) (by decide) (by omega)]; exact q8 d hd
    · obtain ⟨M', L, e, g1, g2, g3⟩ := w
      exact hno L g3
  · have hs := s13 h1.1
    have h15 : ¬ τ.1 0 15 < 0 := by rw [h3.2.2.1]; exact nI_pos (by omega)
    have hend : ∀ (QM : Int32 → Mem → Prop) (L : Nat), (∀ b τ', RR σ τ' → τ'.1 0 0 = 1 → ((1 : Int32) = 0 → ou 0 = Int32.toInt64 b) → QM b τ') → wp_M_lay_154 QM (lN m) x (nI L) 1 τ := fun QM L hM => hsay QM 1 L (by decide) (hM 0 _ (RR_says h') (by rw [mI_at, if_pos ⟨rfl, rfl⟩]) (fun q => absurd q (by decide)))
    refine ⟨fun q => ?_, fun _ => ⟨Or.inr rfl, fun q => absurd q (by decide), fun _ => Or.inl ⟨rfl, hQ 1 σ ou (fun QM hM => layM_spec h1.1.1 h3.1 h3.2.1.1 h1.1.2.1.1 hm (fun _ L => ⟨fun q => absurd q h15, fun _ => hend QM L hM⟩) (fun M L _ _ _ _ => ⟨fun q => absurd q h15, fun _ => hend QM L hM⟩))⟩⟩⟩
    rw [h2.2.2.2.1] at q
    exact absurd q (m1_ne (by omega))
end LY
