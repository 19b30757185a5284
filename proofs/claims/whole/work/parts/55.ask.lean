/-! total, papers, moved -/
section AS
variable {n k el ex : Nat} {dr : Nat → Nat} {st : Nat → Int} {B : Nat} {ct rw' ln bo : Nat → Nat} {P s : Nat} {σ τ : Mem}
theorem m1_lt {x : Int32} (h : ¬ x < 0) : (-1 : Int32) < x := by
  obtain ⟨j, hj, rfl⟩ := nI_of h
  exact Int32.lt_of_lt_of_le (by decide) (nI_pos' hj)
theorem unkX_s {Q : Mem → Prop} {E : String → Mem → Prop} {x1 x2 : Int32} (h4 : σ.1 0 4 = -1) (hE : E xIB σ) : wp_C_refuseUnknown Q E x1 x2 σ :=
  ⟨fun _ => hE, fun q => ⟨fun _ => hE, fun q2 => absurd (by rw [h4]; exact m1_lt q) q2⟩⟩
theorem unkX_b {Q : Mem → Prop} {E : String → Mem → Prop} {x1 x2 : Int32} (h4 : σ.1 0 4 = nI s) (hs : s < 13) (h2 : σ.1 1 2 = nI n) (hn : n ≤ 12) (h1 : ∀ s' c, x1 = nI s' → x2 = nI c → s' ≤ s → c ≤ n → Q σ) (h0 : (¬ ∃ s' c, x1 = nI s' ∧ x2 = nI c ∧ s' ≤ s ∧ c ≤ n) → E xIB σ) : wp_C_refuseUnknown Q E x1 x2 σ := by
  refine ⟨fun q => h0 (fun w => ?_), fun q => ?_⟩
  · obtain ⟨s', c, e, -, hs', -⟩ := w
    rw [e] at q
    exact absurd q (nI_pos (by omega))
  · obtain ⟨j, hj, rfl⟩ := nI_of q
    rw [h4, nI_ltI (by omega) hj]
    refine ⟨fun z => h0 (fun w => ?_), fun z => hasN_spec h2 (by omega) (fun c hc e => ⟨fun w => absurd w (by decide), fun _ => h1 j c rfl e (by omega) hc⟩) (fun hno => ⟨fun _ => h0 (fun w => ?_), fun w => absurd rfl w⟩)⟩
    · obtain ⟨s', c, e, -, hs', -⟩ := w
      have := (nI_eq hj (by omega)).mp e
      omega
    · obtain ⟨s', c, -, e, -, hc⟩ := w
      exact hno c hc e
theorem total_law {Q : Int32 → Mem → (Nat → Int64) → Prop} {ou : Nat → Int64} {x1 x2 x3 : Int32} (h : RR σ τ) (hQ : ∀ r σ' ou', (∀ QM : Int64 → Mem → Prop, (∀ b τ', RR σ' τ' → τ'.1 0 0 = r → (r = 0 → ou' 0 = b) → QM b τ') → wp_M_total QM x1 x2 x3 τ) → Q r σ' ou') : wp_L_total Q ou x1 x2 x3 σ := by
  have h' := h
  have hsay : ∀ QM : Int64 → Mem → Prop, (∀ b τ', RR σ τ' → τ'.1 0 0 = 1 → ((1 : Int32) = 0 → ou 0 = b) → QM b τ') → wp_M_total_25 QM x1 x2 x3 τ := fun QM hM => says_spec (fun q => absurd q (by decide)) (fun _ => ⟨fun _ => hM 0 _ (RR_says h') (by rw [mI_at, if_pos ⟨rfl, rfl⟩]) (fun q => absurd q (by decide)), fun q => absurd rfl q⟩)
  rcases h with ⟨n, k, el, ex, dr, st, B, ct, rw', ln, bo, P, h1, h2, h3⟩ | ⟨n, k, el, ex, dr, st, B, ct, rw', ln, bo, P, s, ov, wb, pl, vb, de, ke, to, dn, wn, h1, h2, h3⟩
  · refine unkX_s h2.2.2.2.1 ⟨rfl, hQ 1 σ ou (fun QM hM => ⟨fun _ => hsay QM hM, fun q => ⟨fun _ => hsay QM hM, fun q2 => absurd ?_ q2⟩⟩)⟩
    rw [h3.2.2.1]
    exact m1_lt q
  · have hs := s13 h1.1
    have hn := h1.1.1.2.1
    have hM1 := h3.1.1
    refine unkX_b h2.2.2.2.1 hs h2.1.1 hn (fun s' c e1 e2 hs' hc => ?_) (fun hno => ⟨rfl, hQ 1 σ ou (fun QM hM => ⟨fun _ => hsay QM hM, fun q => ?_⟩)⟩)
    · subst e1
      subst e2
      obtain ⟨d0, d63, t63⟩ := h1.2.2.2.1 s' hs'
      have hF := h2.2.2.2.2.2.2.2.2.1 s' hs' c hc
      have hh3 := bgM_says (v := 0) h3
      have h12 := cM_le hc hn
      have hgp : 0 < Nat.gcd (dn s') (to s' c) := Nat.gcd_pos_of_pos_left _ d0
      have hgl : Nat.gcd (dn s') (to s' c) ≤ dn s' := Nat.le_of_dvd d0 (Nat.gcd_dvd_left _ _)
      rw [nI_clamp (by omega), nI_clamp (by omega), fr13, hF.1, hF.2]
      have hrun : ∀ (QM : Int64 → Mem → Prop), (∀ τ', RR σ τ' → τ'.1 0 0 = 0 → QM (if x3 = 0 then lN (cu (to s' c) (dn s')) else lN (cv (to s' c) (dn s'))) τ') → wp_M_total QM (nI s') (nI c) x3 τ := fun QM hM => by
        refine ⟨fun q => absurd q (nI_pos (by omega)), fun _ => ?_⟩
        rw [h3.2.2.1, nI_ltI (by omega) (by omega)]
        refine ⟨fun q => absurd q (by omega), fun _ => colM_spec hM1 hn (fun c2 hc2 e => ?_) (fun hno => absurd rfl (hno c hc))⟩
        have := (nI_eq (by omega) (by omega)).mp e
        subst this
        refine ⟨fun q => absurd q (nI_pos (by omega)), fun _ => says_spec (fun _ => ⟨fun q => absurd q (by decide), fun _ => colM_spec hh3.1.1 hn (fun c2 hc2 e => ?_) (fun hno => absurd rfl (hno c hc))⟩) (fun q => absurd rfl q)⟩
        have := (nI_eq (by omega) (by omega)).mp e
        subst this
        refine at_spec hh3.2.2.2.2.2.2.2.1 hs hs' hn hc ⟨vp_in_nI (by omega) (by decide), ?_⟩
        rw [nI_clamp (by omega), hh3.2.2.2.2.2.2.2.2.1 s' hs']
        refine common_spec d63 (t63 c hc) ⟨fun q => ⟨lN_ne hgp (by omega), ?_⟩, fun q => ⟨vp_in_nI (by omega) (by decide), lN_ne hgp (by omega), ?_⟩⟩
        · rw [pk_lDiv (t63 c hc) hgp (by omega), Nat.gcd_comm]
          have := hM _ (RR_says h') (by rw [mI_at, if_pos ⟨rfl, rfl⟩])
          rw [if_pos q] at this
          exact this
        · rw [hh3.2.2.2.2.2.2.2.2.1 s' hs', pk_lDiv d63 hgp (by omega), Nat.gcd_comm]
          have := hM _ (RR_says h') (by rw [mI_at, if_pos ⟨rfl, rfl⟩])
          rw [if_neg q] at this
          exact this
      refine ⟨vp_in_nI (by omega) (by decide), fun q => ⟨vp_in_nI (by omega) (by decide), hQ 0 σ _ (fun QM hM => hrun QM (fun τ' hr h0 => hM _ τ' hr h0 (fun _ => ?_)))⟩, fun q => ⟨vp_in_nI (by omega) (by decide), hQ 0 σ _ (fun QM hM => hrun QM (fun τ' hr h0 => hM _ τ' hr h0 (fun _ => ?_)))⟩⟩
      · rw [pk_uLs, if_pos q]
      · rw [pk_uLs, if_neg q]
    · obtain ⟨j, hj, rfl⟩ := nI_of q
      rw [h3.2.2.1, nI_ltI (by omega) hj]
      exact ⟨fun _ => hsay QM hM, fun z => colM_spec hM1 hn (fun c hc e => absurd ⟨j, c, rfl, e, by omega, hc⟩ hno) (fun _ => ⟨fun _ => hsay QM hM, fun w => absurd (by decide) w⟩)⟩
theorem moved_law {Q : Int32 → Mem → (Nat → Int64) → Prop} {ou : Nat → Int64} {x1 x2 : Int32} (h : RR σ τ) (hQ : ∀ r σ' ou', (∀ QM : Int32 → Mem → Prop, (∀ b τ', RR σ' τ' → τ'.1 0 0 = r → (r = 0 → ou' 0 = Int32.toInt64 b) → QM b τ') → wp_M_moved QM x1 x2 τ) → Q r σ' ou') : wp_L_moved Q ou x1 x2 σ := by
  have h' := h
  have hsay : ∀ QM : Int32 → Mem → Prop, (∀ b τ', RR σ τ' → τ'.1 0 0 = 1 → ((1 : Int32) = 0 → ou 0 = Int32.toInt64 b) → QM b τ') → wp_M_moved_25 QM x1 x2 τ := fun QM hM => says_spec (fun q => absurd q (by decide)) (fun _ => ⟨fun _ => hM 0 _ (RR_says h') (by rw [mI_at, if_pos ⟨rfl, rfl⟩]) (fun q => absurd q (by decide)), fun q => absurd rfl q⟩)
  rcases h with ⟨n, k, el, ex, dr, st, B, ct, rw', ln, bo, P, h1, h2, h3⟩ | ⟨n, k, el, ex, dr, st, B, ct, rw', ln, bo, P, s, ov, wb, pl, vb, de, ke, to, dn, wn, h1, h2, h3⟩
  · refine unkX_s h2.2.2.2.1 ⟨rfl, hQ 1 σ ou (fun QM hM => ⟨fun _ => hsay QM hM, fun q => ⟨fun _ => hsay QM hM, fun q2 => absurd ?_ q2⟩⟩)⟩
    rw [h3.2.2.1]
    exact m1_lt q
  · have hs := s13 h1.1
    have hn := h1.1.1.2.1
    have hM1 := h3.1.1
    refine unkX_b h2.2.2.2.1 hs h2.1.1 hn (fun s' c e1 e2 hs' hc => ?_) (fun hno => ⟨rfl, hQ 1 σ ou (fun QM hM => ⟨fun _ => hsay QM hM, fun q => ?_⟩)⟩)
    · subst e1
      subst e2
      have hw := h2.2.2.2.2.2.2.2.2.2 s' hs' c hc
      have hh3 := bgM_says (v := 0) h3
      have h12 := cM_le hc hn
      rw [nI_clamp (by omega), nI_clamp (by omega), hw]
      refine ⟨vp_in_nI (by omega) (by decide), vp_in_nI (by omega) (by decide), hQ 0 σ _ (fun QM hM => ⟨fun q => absurd q (nI_pos (by omega)), fun _ => ?_⟩)⟩
      rw [h3.2.2.1, nI_ltI (by omega) (by omega)]
      refine ⟨fun q => absurd q (by omega), fun _ => colM_spec hM1 hn (fun c2 hc2 e => ?_) (fun hno => absurd rfl (hno c hc))⟩
      have := (nI_eq (by omega) (by omega)).mp e
      subst this
      refine ⟨fun q => absurd q (nI_pos (by omega)), fun _ => says_spec (fun _ => ⟨fun q => absurd q (by decide), fun _ => colM_spec hh3.1.1 hn (fun c2 hc2 e => ?_) (fun hno => absurd rfl (hno c hc))⟩) (fun q => absurd rfl q)⟩
      have := (nI_eq (by omega) (by omega)).mp e
      subst this
      rw [i13, nI_clamp (by omega), hh3.2.2.2.2.2.2.2.2.2 s' hs' c hc]
      exact ⟨vp_in_nI (by omega) (by decide), hM _ _ (RR_says h') (by rw [mI_at, if_pos ⟨rfl, rfl⟩]) (fun _ => by rw [pk_uLs])⟩
    · obtain ⟨j, hj, rfl⟩ := nI_of q
      rw [h3.2.2.1, nI_ltI (by omega) hj]
      exact ⟨fun _ => hsay QM hM, fun z => colM_spec hM1 hn (fun c hc e => absurd ⟨j, c, rfl, e, by omega, hc⟩ hno) (fun _ => ⟨fun _ => hsay QM hM, fun w => absurd (by decide) w⟩)⟩
theorem lyX_go {Q : Int32 → Mem → Prop} {x : Int32} {wf : Nat → Bool} (hpX : plX σ B ct rw' P) (hB : B ≤ 50) (hf : ∀ b, b < B → (σ.1 7 b = x ↔ wf b = true)) (hQ : Q (nI (sm (fun b => if wf b = true then ct b else 0) B)) σ) : ∀ (t i : Nat), i + t = B → wp_P_lyingWith_4 Q (t + 1) x (nI (sm (fun b => if wf b = true then ct b else 0) i)) (nI i) σ := by
  intro t
  induction t with
  | zero =>
    intro i hi
    have : i = B := by omega
    subst this
    refine ⟨fun _ => hQ, fun q => ?_⟩
    rw [hpX.1] at q
    exact absurd (nI_le (Nat.le_refl _) (by omega)) q
  | succ t ih =>
    intro i hi
    have hn := ih (i + 1) (by omega)
    refine ⟨fun q => ?_, fun _ => ⟨vp_in_nI (by omega) (by decide), ?_⟩⟩
    · rw [hpX.1] at q
      exact absurd q (nI_ge (by omega) (by omega))
    · rw [nI_clamp (by omega), hf i (by omega), hpX.2.2.1 i (by omega)]
      refine ⟨fun q => ⟨vp_in_nI (by omega) (by decide), fun v e v2 e2 => ?_⟩, fun q v2 e2 => ?_⟩
      · rw [nI_add] at e
        rw [nI_1] at e2
        subst e
        subst e2
        have e3 : sm (fun b => if wf b = true then ct b else 0) (i + 1) = sm (fun b => if wf b = true then ct b else 0) i + ct i := by
          show _ + (if wf i = true then ct i else 0) = _
          rw [if_pos q]
        rw [e3] at hn
        exact hn
      · rw [nI_1] at e2
        subst e2
        have e3 : sm (fun b => if wf b = true then ct b else 0) (i + 1) = sm (fun b => if wf b = true then ct b else 0) i := by
          show _ + (if wf i = true then ct i else 0) = _
          rw [if_neg q, Nat.add_zero]
        rw [e3] at hn
        exact hn
theorem paM_go {Q : Int32 → Mem → Prop} {c : Nat} {wb : Nat → Nat} (hn : n ≤ 12) (hc : c ≤ n) (h1 : τ.1 0 1 = nI n) (h7 : τ.1 0 7 = nI P) (hP : P ≤ 50) (h6 : ∀ p, p < P → τ.1 6 p = nI (cM n (wb p)) ∧ wb p ≤ n) (hQ : Q (nI (sm (fun p => if wb p = c then 1 else 0) P)) τ) : ∀ (t i : Nat), i + t = P → wp_M_papers_33 Q (t + 1) (nI c) (nI (sm (fun p => if wb p = c then 1 else 0) i)) (nI i) τ := by
  have h12 := cM_le hc hn
  intro t
  induction t with
  | zero =>
    intro i hi
    have : i = P := by omega
    subst this
    refine ⟨fun _ => hQ, fun q => ?_⟩
    rw [h7] at q
    exact absurd (nI_le (Nat.le_refl _) (by omega)) q
  | succ t ih =>
    intro i hi
    have hnx := ih (i + 1) (by omega)
    have hw := h6 i (by omega)
    have hw12 := cM_le hw.2 hn
    refine ⟨fun q => ?_, fun _ => ⟨vp_in_nI (by omega) (by decide), colM_spec h1 hn (fun c2 hc2 e => ?_) (fun hno => absurd rfl (hno c hc))⟩⟩
    · rw [h7] at q
      exact absurd q (nI_ge (by omega) (by omega))
    · have := (nI_eq (by omega) (by omega)).mp e
      subst this
      rw [nI_clamp (by omega), hw.1, nI_eq (by omega) (by omega), cM_inj hw.2 hc hn]
      refine ⟨fun q v e v2 e2 => ?_, fun q v e v2 e2 => ?_⟩
      · rw [nI_1] at e e2
        subst e
        subst e2
        have e3 : sm (fun p => if wb p = c then 1 else 0) (i + 1) = sm (fun p => if wb p = c then 1 else 0) i + 1 := by
          show _ + (if wb i = c then 1 else 0) = _
          rw [if_pos q]
        rw [e3] at hnx
        exact hnx
      · rw [show (0 : Int32) = nI 0 by decide, nI_add] at e
        rw [nI_1] at e2
        subst e
        subst e2
        have e3 : sm (fun p => if wb p = c then 1 else 0) (i + 1) = sm (fun p => if wb p = c then 1 else 0) i + 0 := by
          show _ + (if wb i = c then 1 else 0) = _
          rw [if_neg q]
        rw [e3] at hnx
        exact hnx
theorem papers_law {Q : Int32 → Mem → (Nat → Int64) → Prop} {ou : Nat → Int64} {x : Int32} (h : RR σ τ) (hQ : ∀ r σ' ou', (∀ QM : Int32 → Mem → Prop, (∀ b τ', RR σ' τ' → τ'.1 0 0 = r → (r = 0 → ou' 0 = Int32.toInt64 b) → QM b τ') → wp_M_papers QM x τ) → Q r σ' ou') : wp_L_papers Q ou x σ := by
  have h' := h
  obtain ⟨n, k, el, ex, dr, st, P, hI, hX, hM, h3, h5, h7, hP⟩ := RR_base h
  have hn := hI.2.1
  have hbad : (∀ c, c ≤ n → x ≠ nI c) → Q 1 σ ou := fun hno => hQ 1 σ ou (fun QM hm => colM_spec hM.1 hn (fun c hc e => absurd e (hno c hc)) (fun _ => ⟨fun _ => says_spec (fun q => absurd q (by decide)) (fun _ => ⟨fun _ => hm 0 _ (RR_says h') (by rw [mI_at, if_pos ⟨rfl, rfl⟩]) (fun q => absurd q (by decide)), fun q => absurd rfl q⟩), fun q => absurd (by decide) q⟩))
  refine hasN_spec hX.1 (by omega) (fun c hc e => ⟨fun q => absurd q (by decide), fun _ => ?_⟩) (fun hno => ⟨fun _ => ⟨rfl, hbad hno⟩, fun q => absurd rfl q⟩)
  subst e
  clear hbad
  have hrun : ∀ (N : Nat), (∀ QM : Int32 → Mem → Prop, QM (nI N) (mI τ 0 0 0) → (0 ≤ ((mI τ 0 0 0).1 0 15) → (∃ k33 : Nat, wp_M_papers_33 QM k33 (nI c) (0 : Int32) (0 : Int32) (mI τ 0 0 0))) ∧ (¬ 0 ≤ ((mI τ 0 0 0).1 0 15) → (wp_M_papers_27 QM (mI τ 0 0 0)))) → Q 0 σ (vp_updL ou 0 (nI N).toInt64) := fun N hN => hQ 0 σ _ (fun QM hm => colM_spec hM.1 hn (fun c2 hc2 e => by
    have h12 := cM_le hc2 hn
    exact ⟨fun q => absurd q (nI_pos (by omega)), fun _ => says_spec (fun _ => ⟨fun q => absurd q (by decide), fun _ => hN QM (hm _ _ (RR_says h') (by rw [mI_at, if_pos ⟨rfl, rfl⟩]) (fun _ => by rw [pk_uLs]))⟩) (fun q => absurd rfl q)⟩) (fun hno => absurd rfl (hno c hc)))
  rcases h with ⟨n', k', el', ex', dr', st', B, ct, rw', ln, bo, P', g1, g2, g3⟩ | ⟨n', k', el', ex', dr', st', B, ct, rw', ln, bo, P', s, ov, wb, pl, vb, de, ke, to, dn, wn, g1, g2, g3⟩
  · have hB := plI_B g1.2.1
    have hP' := g1.2.1.1
    refine ⟨B + 1, ?_⟩
    rw [nI_0']
    refine lyX_go (wf := fun _ => false) g2.2.1 (by omega) (fun b hb => ?_) ?_ B 0 (by omega)
    · rw [(g2.2.2.2.2.2.2 b hb).1]
      exact ⟨fun q => absurd q.symm (m1_ne (by omega)), fun q => absurd q Bool.false_ne_true⟩
    · have e : sm (fun b => if (fun _ : Nat => false) b = true then ct b else 0) B = 0 := sm_zero (fun b _ => if_neg Bool.false_ne_true)
      rw [e]
      refine hrun 0 (fun QM hq => ?_)
      rw [mI_at, if_neg (by omega), g3.2.2.1]
      exact ⟨fun q => absurd q (by decide), fun _ => hq⟩
  · have hB := plI_B g1.1.2.1
    have hP' := g1.1.2.1.1
    have hs := s13 g1.1
    have en : n' = n := by
      have := g2.1.1
      rw [hX.1] at this
      have hn' := g1.1.1.2.1
      exact ((nI_eq (by omega) (by omega)).mp this).symm
    subst en
    have hwb := fun b hb => (g1.1.2.2.2.2.2.2.1 b hb).2.1
    refine ⟨B + 1, ?_⟩
    rw [nI_0']
    refine lyX_go (wf := fun b => decide (wb b = c)) g2.2.1 (by omega) (fun b hb => ?_) ?_ B 0 (by omega)
    · have := hwb b hb
      rw [g2.2.2.2.2.2.2.1 b hb, nI_eq (by omega) (by omega), decide_eq_true_iff]
    · have hg3 := bgM_says (v := 0) g3
      have e : sm (fun b => if (fun b => decide (wb b = c)) b = true then ct b else 0) B = sm (fun p => if wb (bo p) = c then 1 else 0) P' := by
        have := g1.1.2.1.2.2.2.2 (fun b => if wb b = c then 1 else 0)
        rw [this]
        refine sm_congr (fun b _ => ?_)
        show (if decide (wb b = c) = true then ct b else 0) = ct b * (if wb b = c then 1 else 0)
        by_cases z : wb b = c
        · rw [if_pos (decide_eq_true z), if_pos z, Nat.mul_one]
        · rw [if_neg (fun w => z (of_decide_eq_true w)), if_neg z, Nat.mul_zero]
      rw [e]
      refine hrun _ (fun QM hq => ?_)
      refine ⟨fun _ => ⟨P' + 1, ?_⟩, fun q => ?_⟩
      · rw [nI_0']
        exact paM_go (wb := fun p => wb (bo p)) hn hc hg3.1.1 hg3.2.1.1 hP' (fun p hp => ⟨(hg3.2.2.2.2.2.1 p hp).2.1, hwb _ (g1.1.2.1.2.2.1 p hp)⟩) hq P' 0 (by omega)
      · rw [hg3.2.2.1] at q
        exact absurd (nI_pos' (by omega)) q
end AS
