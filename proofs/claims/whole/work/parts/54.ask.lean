/-! the calls that ask; open and step with their refusals -/
section AS
variable {n k el ex : Nat} {dr : Nat → Nat} {st : Nat → Int} {B : Nat} {ct rw' ln bo : Nat → Nat} {P s : Nat} {σ τ : Mem}
theorem open_LL {Q : Int32 → Mem → (Nat → Int64) → Prop} {ou : Nat → Int64} (h : RR σ τ) (hQ : ∀ r σ' ou', (∀ QM : Int32 → Mem → Prop, (∀ b τ', RR σ' τ' → τ'.1 0 0 = r → (r = 0 → ou' 0 = Int32.toInt64 b) → QM b τ') → wp_M_open QM τ) → Q r σ' ou') : wp_L_open Q ou σ := by
  have h' := h
  have hsay : ∀ QM : Int32 → Mem → Prop, (∀ b τ', RR σ τ' → τ'.1 0 0 = 1 → ((1 : Int32) = 0 → ou 0 = Int32.toInt64 b) → QM b τ') → wp_M_open_15 QM τ := fun QM hM => says_spec (fun q => absurd q (by decide)) (fun _ => ⟨fun _ => hM 0 _ (RR_says h') (by rw [mI_at, if_pos ⟨rfl, rfl⟩]) (fun q => absurd q (by decide)), fun q => absurd rfl q⟩)
  rcases h with ⟨n, k, el, ex, dr, st, B, ct, rw', ln, bo, P, h1, h2, h3⟩ | ⟨n, k, el, ex, dr, st, B, ct, rw', ln, bo, P, s, ov, wb, pl, vb, de, ke, to, dn, wn, h1, h2, h3⟩
  · have hP := h1.2.1.1
    by_cases hP0 : P = 0
    · have h45 : σ.1 4 5 = 0 := by rw [h2.2.1.2.1, hP0]; rfl
      have h07 : τ.1 0 7 = 0 := by rw [h3.2.1.1, hP0]; rfl
      refine ⟨fun _ => ⟨Or.inl rfl, fun _ => ⟨fun _ => ⟨rfl, hQ 1 σ ou (fun QM hM => ⟨fun _ => hsay QM hM, fun _ => ⟨fun _ => hsay QM hM, fun q => absurd h07 q⟩⟩)⟩, fun q => absurd h45 q⟩, fun q => absurd rfl q⟩, fun q => absurd h2.2.2.2.1 q⟩
    · exact open_law h1 h2 h3 (by omega) (fun r σ' hm => hQ 0 σ' _ (fun QM hM => hm QM (fun τ' hb h00 => hM r τ' (Or.inr hb) h00 (fun _ => by rw [pk_uLs]))))
  · have hs := s13 h1.1
    refine ⟨fun q => ?_, fun _ => ⟨Or.inr rfl, fun q => absurd q (by decide), fun _ => ⟨rfl, hQ 1 σ ou (fun QM hM => ⟨fun _ => hsay QM hM, fun q => ?_⟩)⟩⟩⟩
    · rw [h2.2.2.2.1] at q
      exact absurd q (m1_ne (by omega))
    · rw [h3.2.2.1] at q
      exact absurd (nI_pos' (by omega)) q
theorem step_LL {Q : Int32 → Mem → (Nat → Int64) → Prop} {ou : Nat → Int64} (h : RR σ τ) (hQ : ∀ r σ' ou', (∀ QM : Int32 → Mem → Prop, (∀ b τ', RR σ' τ' → τ'.1 0 0 = r → (r = 0 → ou' 0 = Int32.toInt64 b) → QM b τ') → wp_M_step QM τ) → Q r σ' ou') : wp_L_step Q ou σ := by
  have h' := h
  have hsay : ∀ QM : Int32 → Mem → Prop, (∀ b τ', RR σ τ' → τ'.1 0 0 = 1 → ((1 : Int32) = 0 → ou 0 = Int32.toInt64 b) → QM b τ') → wp_M_step_15 QM τ := fun QM hM => says_spec (fun q => absurd q (by decide)) (fun _ => ⟨fun _ => hM 0 _ (RR_says h') (by rw [mI_at, if_pos ⟨rfl, rfl⟩]) (fun q => absurd q (by decide)), fun q => absurd rfl q⟩)
  rcases h with ⟨n, k, el, ex, dr, st, B, ct, rw', ln, bo, P, h1, h2, h3⟩ | ⟨n, k, el, ex, dr, st, B, ct, rw', ln, bo, P, s, ov, wb, pl, vb, de, ke, to, dn, wn, h1, h2, h3⟩
  · refine ⟨fun _ => ⟨Or.inl rfl, fun _ => ⟨rfl, hQ 1 σ ou (fun QM hM => ⟨fun _ => hsay QM hM, fun q => ?_⟩)⟩, fun q => absurd rfl q⟩, fun q => absurd h2.2.2.2.1 q⟩
    rw [h3.2.2.1] at q
    exact absurd (by decide) q
  · have hs := s13 h1.1
    cases ov with
    | false => exact step_law h1 h2 h3 (fun r σ' hm => hQ 0 σ' _ (fun QM hM => hm QM (fun τ' hb h00 => hM r τ' (Or.inr hb) h00 (fun _ => by rw [pk_uLs]))))
    | true =>
      have h05 : ¬ σ.1 0 5 = 0 := by rw [h2.2.2.2.2.1]; decide
      have h19 : ¬ τ.1 0 19 = 0 := by rw [h3.2.2.2.1]; decide
      refine ⟨fun q => ?_, fun _ => ⟨Or.inr rfl, fun q => absurd q (by decide), fun _ => ⟨fun q => absurd q h05, fun _ => ⟨rfl, hQ 1 σ ou (fun QM hM => ⟨fun _ => hsay QM hM, fun _ => ⟨fun q => absurd q h19, fun _ => hsay QM hM⟩⟩)⟩⟩⟩⟩
      rw [h2.2.2.2.1] at q
      exact absurd q (m1_ne (by omega))
theorem over_law {Q : Int32 → Mem → Prop} (h : RR σ τ) (hQ : ∀ r, (∀ QM : Int32 → Mem → Prop, (∀ τ', RR σ τ' → QM r τ') → wp_M_over QM τ) → Q r σ) : wp_C_over Q σ := by
  have h' := h
  have hv : ∃ v : Int32, (v = 0 ∨ v = 1) ∧ σ.1 0 5 = v ∧ τ.1 0 19 = v := by
    rcases h with ⟨n, k, el, ex, dr, st, B, ct, rw', ln, bo, P, h1, h2, h3⟩ | ⟨n, k, el, ex, dr, st, B, ct, rw', ln, bo, P, s, ov, wb, pl, vb, de, ke, to, dn, wn, h1, h2, h3⟩
    · exact ⟨0, Or.inl rfl, h2.2.2.2.2.1, h3.2.2.2.1⟩
    · refine ⟨ovI ov, ?_, h2.2.2.2.2.1, h3.2.2.2.1⟩
      cases ov
      · exact Or.inl rfl
      · exact Or.inr rfl
  obtain ⟨v, hv, e1, e2⟩ := hv
  unfold wp_C_over
  rw [e1]
  refine ⟨hv, hQ v (fun QM hM τ1 et => ?_)⟩
  have : τ1.1 0 19 = v := by rw [et, mI_at, if_neg (by omega)]; exact e2
  rw [this]
  refine ⟨hv, hM τ1 ?_⟩
  rw [et]
  exact RR_says h'
theorem RR_base (h : RR σ τ) : ∃ n k el ex dr st P, base σ τ n k el ex dr st P := by
  rcases h with ⟨n, k, el, ex, dr, st, B, ct, rw', ln, bo, P, h1, h2, h3⟩ | ⟨n, k, el, ex, dr, st, B, ct, rw', ln, bo, P, s, ov, wb, pl, vb, de, ke, to, dn, wn, h1, h2, h3⟩
  · exact ⟨n, k, el, ex, dr, st, P, base_s h1 h2 h3⟩
  · exact ⟨n, k, el, ex, dr, st, P, base_b h1 h2 h3⟩
theorem RR_4 (h : RR σ τ) : σ.1 0 4 = τ.1 0 15 := by
  rcases h with ⟨n, k, el, ex, dr, st, B, ct, rw', ln, bo, P, h1, h2, h3⟩ | ⟨n, k, el, ex, dr, st, B, ct, rw', ln, bo, P, s, ov, wb, pl, vb, de, ke, to, dn, wn, h1, h2, h3⟩
  · rw [h2.2.2.2.1, h3.2.2.1]
  · rw [h2.2.2.2.1, h3.2.2.1]
theorem state_law {Q : Int32 → Mem → Prop} {a : Int32} (h : RR σ τ) (hQ : ∀ r, (∀ QM : Int32 → Mem → Prop, (∀ τ', RR σ τ' → QM r τ') → wp_M_state QM a τ) → Q r σ) : wp_C_state Q a σ := by
  have h4 := RR_4 h
  obtain ⟨n, k, el, ex, dr, st, P, hI, hX, hM, h3, h5, h7, hP⟩ := RR_base h
  have hM' := rlM_says (v := 0) hM
  have hy : ∀ i, i ≠ 0 → (mI τ 0 0 0).1 0 i = τ.1 0 i := fun i hi => by rw [mI_at, if_neg (by omega)]
  have hR := RR_says (v := 0) h
  have hd3 : ∀ QM : Int32 → Mem → Prop, (∀ τ', RR σ τ' → QM (Int64.toInt32 (σ.2 0 7)) τ') → (0 ≤ ((mI τ 0 0 0).1 0 15) → (wp_M_common (fun r96 σ96 => (¬ (Int64.toInt32 r96) = 0) ∧ (wp_M_state_101 QM ((((mI τ 0 0 0).1 0 2) + (1 : Int32)) / (Int64.toInt32 r96)) σ96)) (Int32.toInt64 ((mI τ 0 0 0).1 0 7)) (Int32.toInt64 (((mI τ 0 0 0).1 0 2) + (1 : Int32))) (mI τ 0 0 0))) ∧ (¬ 0 ≤ ((mI τ 0 0 0).1 0 15) → (wp_M_state_101 QM (0 : Int32) (mI τ 0 0 0))) := fun QM hm => by
    rw [hy 15 (by decide), hy 2 (by decide), hy 7 (by decide)]
    rcases h with ⟨n, k, el, ex, dr, st, B, ct, rw', ln, bo, P, g1, g2, g3⟩ | ⟨n, k, el, ex, dr, st, B, ct, rw', ln, bo, P, s, ov, wb, pl, vb, de, ke, to, dn, wn, g1, g2, g3⟩
    · rw [g3.2.2.1]
      refine ⟨fun q => absurd q (by decide), fun _ => ?_⟩
      have := hm _ hR
      rw [g2.2.2.2.2.2.1] at this
      exact this
    · have hs := s13 g1.1
      have hk4 := g1.1.1.2.2.2.1
      have hP1 := g1.1.2.2.1
      have hP50 := g1.1.2.1.1
      rw [g3.2.2.1, k1 g3.1.2.1 hk4, g3.2.1.1, nI_l (by omega), g3.1.2.1, nI_1]
      refine ⟨fun _ => common_spec (by omega) (by omega) ?_, fun q => absurd (nI_pos' (by omega)) q⟩
      have hgp : 0 < Nat.gcd P (k + 1) := Nat.gcd_pos_of_pos_left _ hP1
      have hgl : Nat.gcd P (k + 1) ≤ P := Nat.le_of_dvd hP1 (Nat.gcd_dvd_left _ _)
      rw [lN_i, pk_div (by omega) hgp (by omega)]
      refine ⟨nI_ne0 hgp (by omega), ?_⟩
      have := hm _ hR
      rw [g2.2.2.2.2.2.1.2, lN_i] at this
      exact this
  have hd7 : ∀ QM : Int32 → Mem → Prop, (∀ τ', RR σ τ' → QM (nI (cnz st n)) τ') → wp_M_continuing (fun r118 σ118 => QM r118 σ118) (mI τ 0 0 0) := fun QM hm => contM_spec hI hM' (hm _ hR)
  by_cases a0 : a = 0
  · refine ⟨fun _ => hQ _ (fun QM hm τ1 et => ⟨fun _ => ?_, fun q => absurd a0 q⟩), fun q => absurd a0 q⟩
    rw [et, hy 1 (by decide), hM.1]
    have := hm _ hR
    rw [hX.1] at this
    exact this
  refine ⟨fun q => absurd q a0, fun _ => ?_⟩
  by_cases a1 : a = 1
  · refine ⟨fun _ => hQ _ (fun QM hm τ1 et => ⟨fun q => absurd q a0, fun _ => ⟨fun _ => ?_, fun q => absurd a1 q⟩⟩), fun q => absurd a1 q⟩
    rw [et, hy 2 (by decide), hM.2.1]
    have := hm _ hR
    rw [h3] at this
    exact this
  refine ⟨fun q => absurd q a1, fun _ => ?_⟩
  by_cases a2 : a = 2
  · refine ⟨fun _ => hQ _ (fun QM hm τ1 et => ⟨fun q => absurd q a0, fun _ => ⟨fun q => absurd q a1, fun _ => ⟨fun _ => ?_, fun q => absurd a2 q⟩⟩⟩), fun q => absurd a2 q⟩
    rw [et, hy 7 (by decide), h7]
    have := hm _ hR
    rw [h5] at this
    exact this
  refine ⟨fun q => absurd q a2, fun _ => ?_⟩
  by_cases a3 : a = 3
  · refine ⟨fun _ => hQ _ (fun QM hm τ1 et => ⟨fun q => absurd q a0, fun _ => ⟨fun q => absurd q a1, fun _ => ⟨fun q => absurd q a2, fun _ => ⟨fun _ => ?_, fun q => absurd a3 q⟩⟩⟩⟩), fun q => absurd a3 q⟩
    rw [et]
    exact hd3 QM hm
  refine ⟨fun q => absurd q a3, fun _ => ?_⟩
  by_cases a4 : a = 4
  · refine ⟨fun _ => hQ _ (fun QM hm τ1 et => ⟨fun q => absurd q a0, fun _ => ⟨fun q => absurd q a1, fun _ => ⟨fun q => absurd q a2, fun _ => ⟨fun q => absurd q a3, fun _ => ⟨fun _ => ?_, fun q => absurd a4 q⟩⟩⟩⟩⟩), fun q => absurd a4 q⟩
    rw [et, hy 15 (by decide)]
    have := hm _ hR
    rw [h4] at this
    exact this
  refine ⟨fun q => absurd q a4, fun _ => ?_⟩
  by_cases a5 : a = 5
  · refine ⟨fun _ => hQ _ (fun QM hm τ1 et => ⟨fun q => absurd q a0, fun _ => ⟨fun q => absurd q a1, fun _ => ⟨fun q => absurd q a2, fun _ => ⟨fun q => absurd q a3, fun _ => ⟨fun q => absurd q a4, fun _ => ⟨fun _ => ?_, fun q => absurd a5 q⟩⟩⟩⟩⟩⟩), fun q => absurd a5 q⟩
    rw [et, hy 5 (by decide), hM.2.2.1]
    have := hm _ hR
    rw [hX.2.1] at this
    exact this
  refine ⟨fun q => absurd q a5, fun _ => ?_⟩
  by_cases a6 : a = 6
  · refine ⟨fun _ => hQ _ (fun QM hm τ1 et => ⟨fun q => absurd q a0, fun _ => ⟨fun q => absurd q a1, fun _ => ⟨fun q => absurd q a2, fun _ => ⟨fun q => absurd q a3, fun _ => ⟨fun q => absurd q a4, fun _ => ⟨fun q => absurd q a5, fun _ => ⟨fun _ => ?_, fun q => absurd a6 q⟩⟩⟩⟩⟩⟩⟩), fun q => absurd a6 q⟩
    rw [et, hy 6 (by decide), hM.2.2.2.1]
    have := hm _ hR
    rw [hX.2.2.1] at this
    exact this
  refine ⟨fun q => absurd q a6, fun _ => ?_⟩
  by_cases a7 : a = 7
  · refine ⟨fun _ => contX_spec hI hX (hQ _ (fun QM hm τ1 et => ⟨fun q => absurd q a0, fun _ => ⟨fun q => absurd q a1, fun _ => ⟨fun q => absurd q a2, fun _ => ⟨fun q => absurd q a3, fun _ => ⟨fun q => absurd q a4, fun _ => ⟨fun q => absurd q a5, fun _ => ⟨fun q => absurd q a6, fun _ => ⟨fun _ => ?_, fun q => absurd a7 q⟩⟩⟩⟩⟩⟩⟩⟩)), fun q => absurd a7 q⟩
    rw [et]
    exact hd7 QM hm
  refine ⟨fun q => absurd q a7, fun _ => hQ _ (fun QM hm τ1 et => ⟨fun q => absurd q a0, fun _ => ⟨fun q => absurd q a1, fun _ => ⟨fun q => absurd q a2, fun _ => ⟨fun q => absurd q a3, fun _ => ⟨fun q => absurd q a4, fun _ => ⟨fun q => absurd q a5, fun _ => ⟨fun q => absurd q a6, fun _ => ⟨fun q => absurd q a7, fun _ => ?_⟩⟩⟩⟩⟩⟩⟩⟩)⟩
  rw [et]
  exact hm _ hR
theorem status_law {Q : Int32 → Mem → (Nat → Int64) → Prop} {ou : Nat → Int64} {a : Int32} (h : RR σ τ) (hQ : ∀ r σ' ou', (∀ QM : Int32 → Mem → Prop, (∀ b τ', RR σ' τ' → τ'.1 0 0 = r → (r = 0 → ou' 0 = Int32.toInt64 b) → QM b τ') → wp_M_status QM a τ) → Q r σ' ou') : wp_L_status Q ou a σ := by
  obtain ⟨n, k, el, ex, dr, st, P, hI, hX, hM, h3, h5, h7, hP⟩ := RR_base h
  have hn := hI.2.1
  refine has_spec hX.1 (by omega) (fun c hc e => ⟨fun q => absurd q (by decide), fun _ => ?_⟩) (fun hno => ⟨fun _ => ⟨rfl, hQ 1 σ ou (fun QM hm => isCand_spec hM.1 (by omega) (fun c hc e => absurd e (hno c hc)) (fun _ => ⟨fun _ => says_spec (fun q => absurd q (by decide)) (fun _ => ⟨fun _ => hm 0 _ (RR_says h) (by rw [mI_at, if_pos ⟨rfl, rfl⟩]) (fun q => absurd q (by decide)), fun q => absurd rfl q⟩), fun q => absurd rfl q⟩))⟩, fun q => absurd rfl q⟩)
  subst e
  refine ⟨vp_in_nI (by omega) (by decide), ?_⟩
  rw [nI_clamp (by omega), hX.2.2.2.2 c (by omega)]
  refine hQ 0 σ _ (fun QM hm => isCand_spec hM.1 (by omega) (fun c2 hc2 e2 => ⟨fun q => absurd q (by decide), fun _ => says_spec (fun _ => ⟨fun q => absurd q (by decide), fun _ => ⟨vp_in_nI (by omega) (by decide), ?_⟩⟩) (fun q => absurd rfl q)⟩) (fun hno => absurd rfl (hno c hc)))
  rw [nI_clamp (by omega), mI_at, if_neg (by omega), hM.2.2.2.2.2 c (by omega)]
  exact hm _ _ (RR_says h) (by rw [mI_at, if_pos ⟨rfl, rfl⟩]) (fun _ => by rw [pk_uLs])
theorem colM_spec {Q : Int32 → Mem → Prop} {x : Int32} (hM : τ.1 0 1 = nI n) (hn : n ≤ 12) (h1 : ∀ c, c ≤ n → x = nI c → Q (nI (cM n c)) τ) (h0 : (∀ c, c ≤ n → x ≠ nI c) → Q (-1) τ) : wp_M_columnOf Q x τ := by
  unfold wp_M_columnOf
  rw [hM]
  refine ⟨fun e => ?_, fun e => isCand_spec hM (by omega) (fun c hc ec => ⟨fun q => absurd q (by decide), fun _ => ?_⟩) (fun hno => ⟨fun _ => h0 (fun c hc ec => ?_), fun q => absurd rfl q⟩)⟩
  · have := h1 n (Nat.le_refl _) e
    rw [show cM n n = 12 from if_pos rfl] at this
    exact this
  · have := h1 c (by omega) ec
    rw [cM_lt hc, ← ec] at this
    exact this
  · by_cases z : c = n
    · rw [z] at ec
      exact e ec
    · exact hno c (by omega) ec
end AS
