/-! the reference's methods on candidates; begin, draw, withdraw on both sides -/
theorem says_spec {Q : Int32 → Mem → Prop} {x : Int32} {τ : Mem} (h1 : x = 0 → Q 1 (mI τ 0 0 x)) (h0 : x ≠ 0 → Q 0 (mI τ 0 0 x)) : wp_M_says Q x τ := by
  intro τ1 e1
  subst e1
  exact ⟨fun h => ⟨Or.inr rfl, h1 h⟩, fun h => ⟨Or.inl rfl, h0 h⟩⟩
theorem isCand_spec {Q : Int32 → Mem → Prop} {x : Int32} {τ : Mem} {n : Nat} (hn : τ.1 0 1 = nI n) (hl : n < 2 ^ 31) (h1 : ∀ c, c < n → x = nI c → Q 1 τ) (h0 : (∀ c, c < n → x ≠ nI c) → Q 0 τ) : wp_M_isCandidate Q x τ := by
  refine ⟨fun hx => ⟨Or.inl rfl, h0 (fun c hc e => nI_pos (n := c) (by omega) (e ▸ hx))⟩, fun hx => ?_⟩
  obtain ⟨j, hj, rfl⟩ := nI_of hx
  rw [hn, nI_leI hl hj]
  exact ⟨fun h => ⟨Or.inl rfl, h0 (fun c hc e => by have := (nI_eq hj (by omega)).mp e; omega)⟩, fun h => ⟨Or.inr rfl, h1 j (by omega) rfl⟩⟩
theorem contM_go {Q : Int32 → Mem → Prop} {τ : Mem} {n k el ex : Nat} {dr : Nat → Nat} {st : Nat → Int} (hI : rlI n k el ex dr st) (hM : rlM τ n k el ex dr st) (h : Q (nI (cnz st n)) τ) : ∀ (m i : Nat), i + m = n → wp_M_continuing_4 Q (m + 1) (nI (cnz st i)) (nI i) τ := by
  have hn12 := hI.2.1
  intro m
  induction m with
  | zero =>
    intro i hi
    have : i = n := by omega
    subst this
    refine ⟨fun _ => h, fun h' => ?_⟩
    rw [hM.1] at h'
    exact absurd (nI_le (Nat.le_refl i) (by omega)) h'
  | succ m ih =>
    intro i hi
    have hs := hI.2.2.2.2.2.2.2.1 i (by omega)
    refine ⟨fun h' => ?_, fun _ => ⟨vp_in_nI (by omega) (by decide), ?_⟩⟩
    · rw [hM.1] at h'
      exact absurd h' (nI_ge (by omega) (by omega))
    · rw [nI_clamp (by omega), hM.2.2.2.2.2 i (by omega), sI_eq0 (by omega) (by omega)]
      refine ⟨fun h0 v1 e1 v2 e2 => ?_, fun h0 v1 e1 v2 e2 => ?_⟩
      · rw [show (1 : Int32) = nI 1 by decide, nI_add] at e1
        rw [nI_1] at e2
        subst e1 e2
        have e : cnz st (i + 1) = cnz st i + 1 := by simp [cnz, h0]
        rw [← e]
        exact ih (i + 1) (by omega)
      · rw [show (0 : Int32) = nI 0 by decide, nI_add] at e1
        rw [nI_1] at e2
        subst e1 e2
        have e : cnz st (i + 1) = cnz st i + 0 := by simp [cnz, h0]
        rw [← e]
        exact ih (i + 1) (by omega)
theorem contM_spec {Q : Int32 → Mem → Prop} {τ : Mem} {n k el ex : Nat} {dr : Nat → Nat} {st : Nat → Int} (hI : rlI n k el ex dr st) (hM : rlM τ n k el ex dr st) (h : Q (nI (cnz st n)) τ) : wp_M_continuing Q τ :=
  ⟨n + 1, by have := contM_go hI hM h n 0 (by omega); rw [nI_0']; exact this⟩
theorem exclM_spec {Q : Mem → Prop} {c : Nat} {τ : Mem} {ex : Nat} (he : τ.1 0 6 = nI ex) (hx : ex ≤ 900) (hc : c < 12) (h : Q (mI (mI τ 0 6 (nI (ex + 1))) 2 c (sI (-((ex + 1 : Nat) : Int))))) : wp_M_exclude Q (nI c) τ := by
  intro σ1 e1
  rw [he, show (1 : Int32) = nI 1 by decide, nI_add] at e1
  subst e1
  refine ⟨vp_in_nI hc (by decide), fun σ2 e2 => ?_⟩
  rw [nI_clamp (by omega), mI_at, if_pos ⟨rfl, rfl⟩, ← sI_neg (by omega)] at e2
  subst e2
  exact h
theorem electM_spec {Q : Mem → Prop} {c : Nat} {τ : Mem} {el : Nat} (he : τ.1 0 5 = nI el) (hc : c < 12) (h : Q (mI (mI τ 0 5 (nI (el + 1))) 2 c (nI (el + 1)))) : wp_M_elect Q (nI c) τ := by
  intro σ1 e1
  rw [he, show (1 : Int32) = nI 1 by decide, nI_add] at e1
  subst e1
  refine ⟨vp_in_nI hc (by decide), fun σ2 e2 => ?_⟩
  rw [nI_clamp (by omega), mI_at, if_pos ⟨rfl, rfl⟩] at e2
  subst e2
  exact h
theorem clearM_go {Q : Mem → Prop} : ∀ (m i : Nat) (τ : Mem), i + m = 12 → (∀ τ' : Mem, τ'.2 = τ.2 → τ'.1 0 0 = τ.1 0 0 → τ'.1 0 1 = τ.1 0 1 → τ'.1 0 2 = τ.1 0 2 → τ'.1 0 5 = 0 → τ'.1 0 6 = 0 → τ'.1 0 7 = 0 → τ'.1 0 15 = -1 → τ'.1 0 19 = 0 → (∀ c, c < i → τ'.1 1 c = τ.1 1 c ∧ τ'.1 2 c = τ.1 2 c ∧ τ'.1 8 c = τ.1 8 c) → (∀ c, i ≤ c → c < 12 → τ'.1 1 c = nI c ∧ τ'.1 2 c = 0 ∧ τ'.1 8 c = 0) → Q τ') → wp_M_clear_12 Q (m + 1) (nI i) τ := by
  intro m
  induction m with
  | zero =>
    intro i τ hi h
    have : i = 12 := by omega
    subst this
    refine ⟨fun _ τ1 e1 τ2 e2 τ3 e3 τ4 e4 => ⟨Or.inl rfl, fun τ5 e5 => ?_⟩, fun h => absurd (by decide) h⟩
    subst e5 e4 e3 e2 e1
    refine h _ rfl ?_ ?_ ?_ ?_ ?_ ?_ ?_ ?_ ?_ (fun c h1 h2 => absurd h1 (by omega))
    · simp [mI_at]
    · simp [mI_at]
    · simp [mI_at]
    · simp [mI_at]
    · simp [mI_at]
    · simp [mI_at]
    · simp [mI_at]
    · simp [mI_at]
    · intro c _
      simp [mI_at]
  | succ m ih =>
    intro i τ hi h
    refine ⟨fun h => absurd h (nI_ge (b := 12) (by omega) (by decide)), fun _ => ⟨vp_in_nI (by omega) (by decide), fun τ1 e1 => ⟨vp_in_nI (by omega) (by decide), fun τ2 e2 => ⟨vp_in_nI (by omega) (by decide), fun τ3 e3 v e4 => ?_⟩⟩⟩⟩
    rw [nI_clamp (by omega)] at e1 e2 e3
    rw [nI_1] at e4
    subst e4
    have hv : vp_nar .boolean (0 : Int32) = 0 := by decide
    rw [hv] at e3
    have hr : ∀ a b, τ3.1 a b = if a = 8 ∧ b = i then 0 else if a = 2 ∧ b = i then 0 else if a = 1 ∧ b = i then nI i else τ.1 a b := fun a b => by rw [e3, mI_at, e2, mI_at, e1, mI_at]
    refine ih (i + 1) τ3 (by omega) (fun τ' h0 h1 h2 h3 h4 h5 h6 h7 h8 h9 h10 => h τ' ?_ ?_ ?_ ?_ h4 h5 h6 h7 h8 ?_ ?_)
    · rw [h0, e3, e2, e1]; rfl
    · rw [h1, hr]; simp
    · rw [h2, hr]; simp
    · rw [h3, hr]; simp
    · intro c hc
      obtain ⟨q1, q2, q3⟩ := h9 c (by omega)
      rw [q1, q2, q3, hr, hr, hr]
      simp [show ¬ c = i by omega]
    · intro c hc hc2
      by_cases hci : c = i
      · subst hci
        obtain ⟨q1, q2, q3⟩ := h9 c (by omega)
        rw [q1, q2, q3, hr, hr, hr]
        simp
      · exact h10 c (by omega) hc2
theorem clearM_spec {Q : Mem → Prop} {n k : Nat} {τ : Mem} (h : ∀ τ' : Mem, τ'.1 0 0 = τ.1 0 0 → rlM τ' n k 0 0 (fun c => c) (fun _ => 0) → τ'.1 0 7 = nI 0 → τ'.1 0 15 = -1 → τ'.1 0 19 = 0 → (∀ c, c < 12 → τ'.1 8 c = 0) → Q τ') : wp_M_clear Q (nI n) (nI k) τ := by
  intro τ1 e1 τ2 e2
  refine ⟨13, ?_⟩
  rw [nI_0']
  refine clearM_go 12 0 τ2 (by omega) (fun τ' h0 h1 h2 h3 h4 h5 h6 h7 h8 _ h10 => h τ' ?_ ⟨?_, ?_, ?_, ?_, ?_, ?_⟩ ?_ h7 h8 (fun c hc => (h10 c (by omega) hc).2.2))
  · rw [h1, e2, mI_at, e1, mI_at]; simp
  · rw [h2, e2, mI_at, e1, mI_at]; simp
  · rw [h3, e2, mI_at]; simp
  · rw [h4]; decide
  · rw [h5]; decide
  · exact fun c hc => (h10 c (by omega) hc).1
  · intro c hc
    rw [(h10 c (by omega) hc).2.1]
    show (0 : Int32) = sI 0
    decide
  · rw [h6]; decide
