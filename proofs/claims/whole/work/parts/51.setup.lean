/-! the calls ahead of the count, on both sides: begin, draw, withdraw -/
def RR (σ τ : Mem) : Prop := Rs σ τ ∨ Rb σ τ
section SU
variable {n k el ex : Nat} {dr : Nat → Nat} {st : Nat → Int} {B : Nat} {ct rw' ln bo : Nat → Nat} {P s : Nat} {σ τ : Mem}
theorem rlM_says {v : Int32} (h : rlM τ n k el ex dr st) : rlM (mI τ 0 0 v) n k el ex dr st := by
  obtain ⟨x1, x2, x3, x4, x5, x6⟩ := h
  refine ⟨?_, ?_, ?_, ?_, fun c hc => ?_, fun c hc => ?_⟩
  · rw [mI_at, if_neg (by omega)]; exact x1
  · rw [mI_at, if_neg (by omega)]; exact x2
  · rw [mI_at, if_neg (by omega)]; exact x3
  · rw [mI_at, if_neg (by omega)]; exact x4
  · rw [mI_at, if_neg (by omega)]; exact x5 c hc
  · rw [mI_at, if_neg (by omega)]; exact x6 c hc
theorem plM_says {v : Int32} (h : plM τ rw' ln bo P) : plM (mI τ 0 0 v) rw' ln bo P := by
  refine ⟨?_, fun p hp => ?_, fun p hp j hj => ?_⟩
  · rw [mI_at, if_neg (by omega)]; exact h.1
  · rw [mI_at, if_neg (by omega)]; exact h.2.1 p hp
  · rw [mI_at, if_neg (by omega)]; exact h.2.2 p hp j hj
theorem suM_says {v : Int32} (h : suM τ n k el ex dr st rw' ln bo P) : suM (mI τ 0 0 v) n k el ex dr st rw' ln bo P := by
  obtain ⟨a1, a2, a3, a4, a5⟩ := h
  refine ⟨rlM_says a1, plM_says a2, ?_, ?_, fun c hc => ?_⟩
  · rw [mI_at, if_neg (by omega)]; exact a3
  · rw [mI_at, if_neg (by omega)]; exact a4
  · rw [mI_at, if_neg (by omega)]; exact a5 c hc
theorem RR_says {v : Int32} (h : RR σ τ) : RR σ (mI τ 0 0 v) := by
  rcases h with ⟨n, k, el, ex, dr, st, B, ct, rw', ln, bo, P, h1, h2, h3⟩ | ⟨n, k, el, ex, dr, st, B, ct, rw', ln, bo, P, s, ov, wb, pl, vb, de, ke, to, dn, wn, h1, h2, h3⟩
  · exact Or.inl ⟨n, k, el, ex, dr, st, B, ct, rw', ln, bo, P, h1, h2, suM_says h3⟩
  · exact Or.inr ⟨n, k, el, ex, dr, st, B, ct, rw', ln, bo, P, s, ov, wb, pl, vb, de, ke, to, dn, wn, h1, h2, bgM_says h3⟩
theorem rlI_0 (h1 : 2 ≤ n) (h2 : n ≤ 12) (h3 : 1 ≤ k) (h4 : k ≤ 4) (h5 : k < n) : rlI n k 0 0 (fun c => c) (fun _ => 0) := by
  have : ∀ m, cnz (fun _ => 0) m = m := fun m => by
    induction m with
    | zero => rfl
    | succ m ih =>
      unfold cnz
      rw [ih]
      rfl
  exact ⟨h1, h2, h3, h4, h5, fun c hc => (by omega : c ≤ 999), fun c d _ _ e => e, fun c _ => (by omega : (-12 : Int) ≤ 0 ∧ (0 : Int) ≤ 12), by rw [this]; omega⟩
theorem suI_0 (h1 : 2 ≤ n) (h2 : n ≤ 12) (h3 : 1 ≤ k) (h4 : k ≤ 4) (h5 : k < n) : suI n k 0 0 (fun c => c) (fun _ => 0) 0 (fun _ => 0) (fun _ => 0) (fun _ => 0) (fun _ => 0) 0 :=
  ⟨rlI_0 h1 h2 h3 h4 h5, ⟨by omega, fun b hb => absurd hb (by omega), fun p hp => absurd hp (by omega), fun b hb => absurd hb (by omega), fun g => rfl⟩, rfl, sm_zero (fun c _ => rfl)⟩
theorem startX_su {Q : Mem → Prop} (h : ∀ σ', suX σ' n k 0 0 (fun c => c) (fun _ => 0) 0 (fun _ => 0) (fun _ => 0) 0 → Q σ') : wp_C_startAnew Q (nI n) (nI k) σ :=
  startX_spec (fun σ' a1 a2 a3 a4 a5 a6 a7 => h σ' ⟨a1, ⟨a2, a3, fun b hb => absurd hb (by omega), fun b hb => absurd hb (by omega)⟩, a4, a5, a6, a7, fun b hb => absurd hb (by omega)⟩)
theorem clearM_su {Q : Mem → Prop} (h : ∀ τ', τ'.1 0 0 = τ.1 0 0 → suM τ' n k 0 0 (fun c => c) (fun _ => 0) (fun _ => 0) (fun _ => 0) (fun _ => 0) 0 → Q τ') : wp_M_clear Q (nI n) (nI k) τ :=
  clearM_spec (fun τ' a0 a1 a2 a3 a4 a5 => h τ' a0 ⟨a1, ⟨a2, fun p hp => absurd hp (by omega), fun p hp => absurd hp (by omega)⟩, a3, a4, a5⟩)
theorem begin_law {Q : Int32 → Mem → Prop} {a b : Int32} (h : RR σ τ) (hQ : ∀ r σ', (∀ QM : Mem → Prop, (∀ τ', RR σ' τ' → τ'.1 0 0 = r → QM τ') → wp_M_begin QM a b τ) → Q r σ') : wp_L_begin Q a b σ := by
  by_cases hg : ¬ a < 2 ∧ ¬ 12 < a ∧ ¬ b < 1 ∧ ¬ 4 < b ∧ ¬ a ≤ b
  · obtain ⟨g1, g2, g3, g4, g5⟩ := hg
    have a0 : ¬ a < 0 := fun q => g1 (Int32.lt_trans q (by decide))
    have b0 : ¬ b < 0 := fun q => g3 (Int32.lt_trans q (by decide))
    obtain ⟨n, hn, rfl⟩ := nI_of a0
    obtain ⟨k, hk, rfl⟩ := nI_of b0
    have e1 := g1
    have e2 := g2
    have e3 := g3
    have e4 := g4
    have e5 := g5
    rw [show (2 : Int32) = nI 2 by decide, nI_ltI hn (by decide)] at e1
    rw [show (12 : Int32) = nI 12 by decide, nI_ltI (by decide) hn] at e2
    rw [show (1 : Int32) = nI 1 by decide, nI_ltI hk (by decide)] at e3
    rw [show (4 : Int32) = nI 4 by decide, nI_ltI (by decide) hk] at e4
    rw [nI_leI hn hk] at e5
    refine ⟨fun q => absurd q g1, fun _ => ⟨fun q => absurd q g2, fun _ => ⟨fun q => absurd q g3, fun _ => ⟨fun q => absurd q g4, fun _ => ⟨fun q => absurd q g5, fun _ => ⟨fun q => absurd q (by decide), fun _ => ⟨fun q => absurd q (by decide), fun _ => startX_su (fun σ' hs => hQ 0 σ' (fun QM hM => ?_))⟩⟩⟩⟩⟩⟩⟩
    refine ⟨fun q => absurd q g1, fun _ => ⟨fun q => absurd q g2, fun _ => ⟨fun q => absurd q g3, fun _ => ⟨fun q => absurd q g4, fun _ => ⟨fun q => absurd q g5, fun _ => says_spec (fun _ => ⟨fun q => absurd q (by decide), fun _ => clearM_su (fun τ' h0 hm => hM τ' (Or.inl ⟨n, k, 0, 0, _, _, 0, _, _, _, _, 0, suI_0 (by omega) (by omega) (by omega) (by omega) (by omega), hs, hm⟩) (by rw [h0, mI_at, if_pos ⟨rfl, rfl⟩]))⟩) (fun q => absurd rfl q)⟩⟩⟩⟩⟩
  · have hbad : Q 1 σ := hQ 1 σ (fun QM hM => by
      have h31 : wp_M_begin_31 QM a b τ := says_spec (fun q => absurd q (by decide)) (fun _ => ⟨fun _ => hM _ (RR_says h) (by rw [mI_at, if_pos ⟨rfl, rfl⟩]), fun q => absurd rfl q⟩)
      exact ⟨fun _ => h31, fun h1 => ⟨fun _ => h31, fun h2 => ⟨fun _ => h31, fun h3 => ⟨fun _ => h31, fun h4 => ⟨fun _ => h31, fun h5 => absurd ⟨h1, h2, h3, h4, h5⟩ hg⟩⟩⟩⟩⟩)
    have h48 : wp_C_begin_48 (fun σ1 => Q 0 σ1) (fun X σ1 => X = xIA ∧ Q 1 σ1) σ := ⟨rfl, hbad⟩
    have h36 : ∀ t : Int32, wp_C_begin_36 (fun σ1 => Q 0 σ1) (fun X σ1 => X = xIA ∧ Q 1 σ1) a b t σ := fun t => ⟨fun _ => h48, fun _ => ⟨fun _ => h48, fun q => absurd rfl q⟩⟩
    have h15 : wp_C_begin_15 (fun σ1 => Q 0 σ1) (fun X σ1 => X = xIA ∧ Q 1 σ1) a b σ := ⟨fun _ => h36 0, fun _ => ⟨fun _ => h36 0, fun _ => ⟨fun _ => h36 0, fun _ => ⟨fun _ => h48, fun q => absurd rfl q⟩⟩⟩⟩
    exact ⟨fun _ => h15, fun h1 => ⟨fun _ => h15, fun h2 => ⟨fun _ => h36 1, fun h3 => ⟨fun _ => h36 1, fun h4 => ⟨fun _ => h36 1, fun h5 => absurd ⟨h1, h2, h3, h4, h5⟩ hg⟩⟩⟩⟩⟩
/-- what both hold of the candidates, at any time -/
def base (σ τ : Mem) (n k el ex : Nat) (dr : Nat → Nat) (st : Nat → Int) (P : Nat) : Prop := rlI n k el ex dr st ∧ rlX σ n el ex dr st ∧ rlM τ n k el ex dr st ∧ σ.1 0 3 = nI k ∧ σ.1 4 5 = nI P ∧ τ.1 0 7 = nI P ∧ P ≤ 50
theorem base_s {el ex : Nat} (h1 : suI n k el ex dr st B ct rw' ln bo P) (h2 : suX σ n k el ex dr st B ct rw' P) (h3 : suM τ n k el ex dr st rw' ln bo P) : base σ τ n k el ex dr st P := ⟨h1.1, h2.1, h3.1, h2.2.2.1, h2.2.1.2.1, h3.2.1.1, h1.2.1.1⟩
theorem base_b {ov : Bool} {wb pl vb : Nat → Nat} {de : Nat} {ke : Nat → Bool} {to : Nat → Nat → Nat} {dn : Nat → Nat} {wn : Nat → Nat → Nat} (h1 : bgI n k el ex dr st B ct rw' ln bo P s ov wb pl vb de ke to dn) (h2 : bgX σ n k el ex dr st B ct rw' P s ov wb vb de to dn wn) (h3 : bgM τ n k el ex dr st rw' ln bo P s ov wb pl vb de ke to dn wn) : base σ τ n k el ex dr st P := ⟨h1.1.1, h2.1, h3.1, h2.2.2.1, h2.2.1.2.1, h3.2.1.1, h1.1.2.1.1⟩
theorem anX_go {Q : Int32 → Mem → Prop} {c : Nat} {b : Int32} (hI : rlI n k el ex dr st) (hX : rlX σ n el ex dr st) (hc : c < n) (h1 : (∃ d, d < n ∧ d ≠ c ∧ nI (dr d) = b) → Q 1 σ) (h0 : (∀ d, d < n → d ≠ c → nI (dr d) ≠ b) → Q 0 σ) : ∀ (t i : Nat), i + t = n → (∀ d, d < i → d ≠ c → nI (dr d) ≠ b) → wp_R_anotherHasDraw_2 Q (t + 1) (nI c) b (nI i) σ := by
  have hn := hI.2.1
  intro t
  induction t with
  | zero =>
    intro i hi hd
    have : i = n := by omega
    subst this
    refine ⟨fun _ => ⟨Or.inl rfl, h0 hd⟩, fun q => ?_⟩
    rw [hX.1] at q
    exact absurd (nI_le (Nat.le_refl _) (by omega)) q
  | succ t ih =>
    intro i hi hd
    have hnext : (i ≠ c → nI (dr i) ≠ b) → wp_R_anotherHasDraw_27 Q (wp_R_anotherHasDraw_2 Q (t + 1)) (nI c) b (nI i) σ := fun w v e => by
      rw [nI_1] at e
      subst e
      refine ih (i + 1) (by omega) (fun d hd1 hd2 => ?_)
      by_cases e : d = i
      · subst e
        exact w hd2
      · exact hd d (by omega) hd2
    refine ⟨fun q => ?_, fun _ => ?_⟩
    · rw [hX.1] at q
      exact absurd q (nI_ge (by omega) (by omega))
    · rw [nI_eq (by omega) (by omega), nI_clamp (by omega), hX.2.2.2.1 i (by omega)]
      exact ⟨fun e => hnext (fun w => absurd e w), fun e => ⟨vp_in_nI (by omega) (by decide), fun q => ⟨Or.inr rfl, h1 ⟨i, by omega, e, q⟩⟩, fun q => hnext (fun _ => q)⟩⟩
theorem drM_go {Q : Mem → Prop} {a b : Int32} {g : Prop} (hI : rlI n k el ex dr st) (hM : rlM τ n k el ex dr st) (hend : ∀ x3, fl x3 (g ∧ ∀ d, d < n → nI d = a ∨ nI (dr d) ≠ b) → ((τ.1 0 15) < 0 → ((x3 = 0 → (wp_M_draw_91 Q a b (2 : Int32) τ)) ∧ (¬ x3 = 0 → (wp_M_draw_91 Q a b (0 : Int32) τ)))) ∧ (¬ (τ.1 0 15) < 0 → (wp_M_draw_91 Q a b (1 : Int32) τ))) : ∀ (t i : Nat) (x3 : Int32), i + t = n → fl x3 (g ∧ ∀ d, d < i → nI d = a ∨ nI (dr d) ≠ b) → wp_M_draw_28 Q (t + 1) a b x3 (nI i) τ := by
  have hn := hI.2.1
  intro t
  induction t with
  | zero =>
    intro i x3 hi hf
    have : i = n := by omega
    subst this
    refine ⟨fun _ => hend x3 hf, fun q => ?_⟩
    rw [hM.1] at q
    exact absurd (nI_le (Nat.le_refl _) (by omega)) q
  | succ t ih =>
    intro i x3 hi hf
    have hnext : ∀ y, fl y (g ∧ ∀ d, d < i + 1 → nI d = a ∨ nI (dr d) ≠ b) → wp_M_draw_63 Q (wp_M_draw_28 Q (t + 1)) a b (nI i) y τ := fun y hy v e => by
      rw [nI_1] at e
      subst e
      exact ih (i + 1) y (by omega) hy
    have hno : ¬ (g ∧ ∀ d, d < i + 1 → nI d = a ∨ nI (dr d) ≠ b) → wp_M_draw_62 Q (wp_M_draw_28 Q (t + 1)) a b (nI i) τ := fun w => hnext 0 (Or.inr ⟨rfl, w⟩)
    refine ⟨fun q => ?_, fun _ => ⟨fun e => hno (fun w => ?_), fun e => ?_⟩⟩
    · rw [hM.1] at q
      exact absurd q (nI_ge (by omega) (by omega))
    · rcases hf with ⟨e1, -⟩ | ⟨-, hf⟩
      · rw [e1] at e
        exact absurd e (by decide)
      · exact hf ⟨w.1, fun d hd => w.2 d (by omega)⟩
    · have hf : g ∧ ∀ d, d < i → nI d = a ∨ nI (dr d) ≠ b := by
        rcases hf with ⟨-, hf⟩ | ⟨e1, -⟩
        · exact hf
        · exact absurd e1 e
      have hyes : (nI i = a ∨ nI (dr i) ≠ b) → wp_M_draw_58 Q (wp_M_draw_28 Q (t + 1)) a b (nI i) τ := fun w => hnext 1 (Or.inl ⟨rfl, hf.1, fun d hd => by
        by_cases e : d = i
        · subst e
          exact w
        · exact hf.2 d (by omega)⟩)
      refine ⟨fun q => hyes (Or.inl q), fun q => ⟨vp_in_nI (by omega) (by decide), ?_⟩⟩
      rw [nI_clamp (by omega), hM.2.2.2.2.1 i (by omega)]
      exact ⟨fun z => hno (fun w => (w.2 i (by omega)).elim q (fun y => y z)), fun z => hyes (Or.inr z)⟩
theorem drawM_spec {Q : Mem → Prop} {a b : Int32} (hI : rlI n k el ex dr st) (hM : rlM τ n k el ex dr st) (hend : ∀ x3, fl x3 (((∃ c, c < n ∧ a = nI c) ∧ ¬ b < 0 ∧ ¬ 999 < b) ∧ ∀ d, d < n → nI d = a ∨ nI (dr d) ≠ b) → ((τ.1 0 15) < 0 → ((x3 = 0 → (wp_M_draw_91 Q a b (2 : Int32) τ)) ∧ (¬ x3 = 0 → (wp_M_draw_91 Q a b (0 : Int32) τ)))) ∧ (¬ (τ.1 0 15) < 0 → (wp_M_draw_91 Q a b (1 : Int32) τ))) : wp_M_draw Q a b τ := by
  have hn := hI.2.1
  have h24 : ∀ x, fl x ((∃ c, c < n ∧ a = nI c) ∧ ¬ b < 0 ∧ ¬ 999 < b) → wp_M_draw_24 Q a b x τ := fun x hx => ⟨n + 1, by
    rw [nI_0']
    refine drM_go hI hM hend n 0 x (by omega) ?_
    rcases hx with ⟨e, hx⟩ | ⟨e, hx⟩
    · exact Or.inl ⟨e, hx, fun d hd => absurd hd (by omega)⟩
    · exact Or.inr ⟨e, fun w => hx w.1⟩⟩
  refine isCand_spec hM.1 (by omega) (fun c hc e => ⟨fun q => absurd q (by decide), fun _ => ⟨fun q => h24 0 (Or.inr ⟨rfl, fun w => w.2.1 q⟩), fun q => ⟨fun q2 => h24 0 (Or.inr ⟨rfl, fun w => w.2.2 q2⟩), fun q2 => h24 1 (Or.inl ⟨rfl, ⟨c, hc, e⟩, q, q2⟩)⟩⟩⟩) (fun hno => ⟨fun _ => h24 0 (Or.inr ⟨rfl, fun w => by
    obtain ⟨c, hc, e⟩ := w.1
    exact hno c hc e⟩), fun q => absurd rfl q⟩)
theorem draw_law {Q : Int32 → Mem → Prop} {a b : Int32} (h : RR σ τ) (hQ : ∀ r σ', (∀ QM : Mem → Prop, (∀ τ', RR σ' τ' → τ'.1 0 0 = r → QM τ') → wp_M_draw QM a b τ) → Q r σ') : wp_L_draw Q a b σ := by
  have h' := h
  have hsay : ∀ (QM : Mem → Prop) (v : Int32), ¬ v = 0 → QM (mI τ 0 0 v) → wp_M_draw_91 QM a b v τ := fun QM v hv hq => says_spec (fun q => absurd q hv) (fun _ => ⟨fun _ => hq, fun q => absurd rfl q⟩)
  rcases h with ⟨n, k, el, ex, dr, st, B, ct, rw', ln, bo, P, h1, h2, h3⟩ | ⟨n, k, el, ex, dr, st, B, ct, rw', ln, bo, P, s, ov, wb, pl, vb, de, ke, to, dn, wn, h1, h2, h3⟩
  · have hI := h1.1
    have hn := hI.2.1
    obtain ⟨hX, hpX, hx3, hx4, hx5, hx7, hxb⟩ := h2
    have h15 : τ.1 0 15 < 0 := by rw [h3.2.2.1]; decide
    have hbad : ¬ (((∃ c, c < n ∧ a = nI c) ∧ ¬ b < 0 ∧ ¬ 999 < b) ∧ ∀ d, d < n → nI d = a ∨ nI (dr d) ≠ b) → wp_C_draw_48 (fun σ1 => Q 0 σ1) (fun X σ1 => (X = xIS ∧ Q 1 σ1) ∨ (X = xIA ∧ Q 2 σ1)) σ := fun hg => Or.inr ⟨rfl, hQ 2 σ (fun QM hM => drawM_spec hI h3.1 (fun x3 hx => ⟨fun _ => ⟨fun _ => hsay QM 2 (by decide) (hM _ (RR_says h') (by rw [mI_at, if_pos ⟨rfl, rfl⟩])), fun q => by
      rcases hx with ⟨-, hx⟩ | ⟨e, -⟩
      · exact absurd hx hg
      · exact absurd e q⟩, fun q => absurd h15 q⟩))⟩
    have h20 : ∀ t0 : Int32, fl t0 (¬ b < 0 ∧ ¬ 999 < b) → wp_C_draw_20 (fun σ1 => Q 0 σ1) (fun X σ1 => (X = xIS ∧ Q 1 σ1) ∨ (X = xIA ∧ Q 2 σ1)) a b t0 σ := fun t0 ht => has_spec hX.1 (by omega) (fun c hc e => ⟨fun q => absurd q (by decide), fun _ => ⟨fun q => hbad (fun w => by
        rcases ht with ⟨e1, -⟩ | ⟨-, hx⟩
        · rw [e1] at q
          exact absurd q (by decide)
        · exact hx w.1.2), fun q => by
        subst e
        have hb : ¬ b < 0 ∧ ¬ 999 < b := by
          rcases ht with ⟨-, hx⟩ | ⟨e1, -⟩
          · exact hx
          · exact absurd e1 q
        refine ⟨n + 1, ?_⟩
        rw [nI_0']
        refine anX_go hI hX hc (fun w => ⟨fun q => absurd q (by decide), fun _ => hbad (fun z => ?_)⟩) (fun w => ⟨fun _ => ⟨vp_in_nI (by omega) (by decide), fun σ' es => ?_⟩, fun q => absurd rfl q⟩) n 0 (by omega) (fun d hd => absurd hd (by omega))
        · obtain ⟨d, hd, hdc, e⟩ := w
          rcases z.2 d hd with y | y
          · exact hdc ((nI_eq (by omega) (by omega)).mp y)
          · exact y e
        · rw [nI_clamp (by omega)] at es
          obtain ⟨m, hm, rfl⟩ := nI_of hb.1
          have hm9 : m ≤ 999 := by
            have := hb.2
            rw [show (999 : Int32) = nI 999 by decide, nI_ltI (by decide) hm] at this
            omega
          have hdis : ∀ d, d < n → d ≠ c → dr d ≠ m := fun d hd hdc e => w d hd hdc (by rw [e])
          obtain ⟨i1, i2, i3, i4, i5, i6, i7, i8, i9⟩ := hI
          have hI' : rlI n k el ex (va_up dr c m) st := by
            refine ⟨i1, i2, i3, i4, i5, fun d hd => ?_, fun d e hd he hde => ?_, i8, i9⟩
            · by_cases z : d = c
              · subst z
                rw [va_up_self]
                exact hm9
              · rw [va_up_ne _ _ z]
                exact i6 d hd
            · by_cases z : d = c
              · by_cases y : e = c
                · omega
                · rw [z, va_up_self, va_up_ne _ _ y] at hde
                  exact absurd hde.symm (hdis e he y)
              · by_cases y : e = c
                · rw [y, va_up_self, va_up_ne _ _ z] at hde
                  exact absurd hde (hdis d hd z)
                · rw [va_up_ne _ _ z, va_up_ne _ _ y] at hde
                  exact i7 d e hd he hde
          have hsX : suX σ' n k el ex (va_up dr c m) st B ct rw' P := by
            have z1 : ∀ o i, ¬ (o = 2 ∧ i = c) → σ'.1 o i = σ.1 o i := fun o i q => by rw [es, mI_at, if_neg q]
            have z2 : σ'.2 = σ.2 := by rw [es]; rfl
            refine ⟨⟨?_, ?_, ?_, fun d hd => ?_, fun d hd => ?_⟩, ⟨?_, ?_, fun b hb => ?_, fun b hb => ?_⟩, ?_, ?_, ?_, ?_, fun b hb => ⟨?_, ?_⟩⟩
            · rw [z1 _ _ (by omega)]; exact hX.1
            · rw [z1 _ _ (by omega)]; exact hX.2.1
            · rw [z1 _ _ (by omega)]; exact hX.2.2.1
            · by_cases z : d = c
              · subst z
                rw [es, mI_at, if_pos ⟨rfl, rfl⟩, va_up_self]
              · rw [z1 _ _ (by omega), va_up_ne _ _ z]; exact hX.2.2.2.1 d hd
            · rw [z1 _ _ (by omega)]; exact hX.2.2.2.2 d hd
            · rw [z1 _ _ (by omega)]; exact hpX.1
            · rw [z1 _ _ (by omega)]; exact hpX.2.1
            · rw [z1 _ _ (by omega)]; exact hpX.2.2.1 b hb
            · rw [z2]; exact hpX.2.2.2 b hb
            · rw [z1 _ _ (by omega)]; exact hx3
            · rw [z1 _ _ (by omega)]; exact hx4
            · rw [z1 _ _ (by omega)]; exact hx5
            · rw [z2]; exact hx7
            · rw [z1 _ _ (by omega)]; exact (hxb b hb).1
            · exact isF_f (hxb b hb).2 (by rw [z2]) (by rw [z2])
          refine hQ 0 σ' (fun QM hM => drawM_spec h1.1 h3.1 (fun x3 hx => ⟨fun _ => ⟨fun q0 => ?_, fun _ => says_spec (fun _ => ⟨fun q => absurd q (by decide), fun _ => ⟨vp_in_nI (by omega) (by decide), fun τ2 e2 => ?_⟩⟩) (fun q => absurd rfl q)⟩, fun q => absurd h15 q⟩))
          · rcases hx with ⟨e, -⟩ | ⟨-, hx⟩
            · rw [e] at q0
              exact absurd q0 (by decide)
            · refine absurd ⟨⟨⟨c, hc, rfl⟩, hb⟩, fun d hd => ?_⟩ hx
              by_cases z : d = c
              · exact Or.inl (by rw [z])
              · exact Or.inr (w d hd z)
          · rw [nI_clamp (by omega)] at e2
            have hm3 := suM_says (v := 0) h3
            obtain ⟨⟨m1, m2, m3, m4, m5, m6⟩, ⟨p1, p2, p3⟩, q15, q19, q8⟩ := hm3
            have z1 : ∀ o i, ¬ (o = 1 ∧ i = c) → τ2.1 o i = (mI τ 0 0 0).1 o i := fun o i q => by rw [e2, mI_at, if_neg q]
            refine hM τ2 (Or.inl ⟨n, k, el, ex, va_up dr c m, st, B, ct, rw', ln, bo, P, ⟨hI', h1.2⟩, hsX, ⟨?_, ?_, ?_, ?_, fun d hd => ?_, fun d hd => ?_⟩, ⟨?_, fun p hp => ?_, fun p hp j hj => ?_⟩, ?_, ?_, fun d hd => ?_⟩) (by rw [z1 _ _ (by omega), mI_at, if_pos ⟨rfl, rfl⟩])
            · rw [z1 _ _ (by omega)]; exact m1
            · rw [z1 _ _ (by omega)]; exact m2
            · rw [z1 _ _ (by omega)]; exact m3
            · rw [z1 _ _ (by omega)]; exact m4
            · by_cases z : d = c
              · subst z
                rw [e2, mI_at, if_pos ⟨rfl, rfl⟩, va_up_self]
              · rw [z1 _ _ (by omega), va_up_ne _ _ z]; exact m5 d hd
            · rw [z1 _ _ (by omega)]; exact m6 d hd
            · rw [z1 _ _ (by omega)]; exact p1
            · rw [z1 _ _ (by omega)]; exact p2 p hp
            · rw [z1 _ _ (by omega)]; exact p3 p hp j hj
            · rw [z1 _ _ (by omega)]; exact q15
            · rw [z1 _ _ (by omega)]; exact q19
            · rw [z1 _ _ (by omega)]; exact q8 d hd⟩⟩) (fun hno => ⟨fun _ => hbad (fun w => by
          obtain ⟨c, hc, e⟩ := w.1.1
          exact hno c hc e), fun q => absurd rfl q⟩)
    refine ⟨fun _ => ⟨Or.inl rfl, fun _ => ⟨fun q => h20 0 (Or.inr ⟨rfl, fun w => w.1 q⟩), fun q => ⟨fun q2 => h20 0 (Or.inr ⟨rfl, fun w => w.2 q2⟩), fun q2 => h20 1 (Or.inl ⟨rfl, q, q2⟩)⟩⟩, fun q => absurd rfl q⟩, fun q => absurd hx4 q⟩
  · have hs := s13 h1.1
    have h15 : ¬ τ.1 0 15 < 0 := by rw [h3.2.2.1]; exact nI_pos (by omega)
    refine ⟨fun q => ?_, fun _ => ⟨Or.inr rfl, fun q => absurd q (by decide), fun _ => Or.inl ⟨rfl, hQ 1 σ (fun QM hM => drawM_spec h1.1.1 h3.1 (fun x3 hx => ⟨fun q => absurd q h15, fun _ => hsay QM 1 (by decide) (hM _ (RR_says h') (by rw [mI_at, if_pos ⟨rfl, rfl⟩]))⟩))⟩⟩⟩
    rw [h2.2.2.2.1] at q
    exact absurd q (m1_ne (by omega))
end SU
