/-! who stands ahead, the first and the last, on both sides -/
def cM (n c : Nat) : Nat := if c = n then 12 else c
theorem cM_lt {n c : Nat} (h : c < n) : cM n c = c := if_neg (by omega)
theorem cM_le {n c : Nat} (h : c ≤ n) (hn : n ≤ 12) : cM n c ≤ 12 := by
  unfold cM
  split <;> omega
theorem cM_inj {n c d : Nat} (hc : c ≤ n) (hd : d ≤ n) (hn : n ≤ 12) : cM n c = cM n d ↔ c = d := by
  unfold cM
  split <;> split <;> omega
def tX (σ : Mem) (n s : Nat) (to : Nat → Nat → Nat) (dn : Nat → Nat) : Prop := ∀ s', s' ≤ s → ∀ c, c ≤ n → isF σ (12 + 5 * s' + 1) c (to s' c) (dn s')
def tM (τ : Mem) (n s : Nat) (to : Nat → Nat → Nat) : Prop := ∀ s', s' ≤ s → ∀ c, c ≤ n → τ.2 9 (13 * s' + cM n c) = lN (to s' c)
def tB (n s : Nat) (to : Nat → Nat → Nat) (dn : Nat → Nat) : Prop := ∀ s', s' ≤ s → 0 < dn s' ∧ dn s' < 2 ^ 63 ∧ ∀ c, c ≤ n → to s' c < 2 ^ 63
def oX (σ : Mem) (n k el ex : Nat) (dr : Nat → Nat) (st : Nat → Int) (s : Nat) (to : Nat → Nat → Nat) (dn : Nat → Nat) : Prop := rlI n k el ex dr st ∧ rlX σ n el ex dr st ∧ σ.1 0 4 = nI s ∧ s < 13 ∧ tX σ n s to dn ∧ tB n s to dn
def oM (τ : Mem) (n k el ex : Nat) (dr : Nat → Nat) (st : Nat → Int) (s : Nat) (to : Nat → Nat → Nat) (dn : Nat → Nat) : Prop := rlI n k el ex dr st ∧ rlM τ n k el ex dr st ∧ τ.1 0 15 = nI s ∧ s < 13 ∧ tM τ n s to ∧ tB n s to dn
theorem i13 (a b : Nat) : (13 : Int32) * nI a + nI b = nI (13 * a + b) := by rw [show (13 : Int32) = nI 13 by decide, pk_mul, nI_add]
theorem fr13 (s : Nat) : frLen (12 + 5 * s + 1) = 13 := by
  unfold frLen
  exact if_neg (by omega)
section SC
variable {σ τ : Mem} {n k el ex : Nat} {dr : Nat → Nat} {st : Nat → Int} {s : Nat} {to : Nat → Nat → Nat} {dn : Nat → Nat}
theorem aheadX_go {Q : Int32 → Mem → Prop} {a b : Nat} (h : oX σ n k el ex dr st s to dn) (ha : a < n) (hb : b < n) (h1 : ahd to dr (s + 1) a b → Q 1 σ) (h0 : ¬ ahd to dr (s + 1) a b → Q 0 σ) : ∀ m, m ≤ s + 1 → (ahd to dr (s + 1) a b ↔ ahd to dr m a b) → wp_C_isAhead_5 Q (m + 1) (nI a) (nI b) (nI m + (-1)) σ := by
  obtain ⟨hI, hX, h4, hs, ht, hB⟩ := h
  have hn := hI.2.1
  intro m
  induction m with
  | zero =>
    intro _ he
    refine ⟨fun _ => ⟨vp_in_nI (by omega) (by decide), vp_in_nI (by omega) (by decide), ?_⟩, fun h => absurd (by decide) h⟩
    have d1 := hI.2.2.2.2.2.1 a (by omega)
    have d2 := hI.2.2.2.2.2.1 b (by omega)
    rw [nI_clamp (by omega), nI_clamp (by omega), hX.2.2.2.1 a (by omega), hX.2.2.2.1 b (by omega), nI_leI (by omega) (by omega)]
    refine ⟨fun q => ⟨Or.inl rfl, h0 (fun q2 => ?_)⟩, fun q => ⟨Or.inr rfl, h1 (he.mpr ?_)⟩⟩
    · have : dr a < dr b := he.mp q2
      omega
    · show dr a < dr b
      omega
  | succ m ih =>
    intro hm he
    rw [pk_m1]
    have hb' := hB m (by omega)
    refine ⟨fun h => absurd h (nI_pos (by omega)), fun _ => ⟨vp_in_nI (by omega) (by decide), ?_⟩⟩
    rw [nI_clamp (by omega), nI_clamp (by omega), fr13]
    refine ⟨vp_in_nI (by omega) (by decide), vp_in_nI (by omega) (by decide), cmp_spec (a := to m a) (b := to m b) (d := dn m) (by rw [fr13]; omega) (hb'.2.2 a (by omega)) (hb'.2.2 b (by omega)) hb'.1 hb'.2.1 (ht m (by omega) a (by omega)) (ht m (by omega) b (by omega)).1 (ht m (by omega) b (by omega)).2 (fun r e1 e2 => ⟨fun q v e => ?_, fun q => ⟨fun q2 => ⟨Or.inl rfl, h0 (fun q3 => ?_)⟩, fun q2 => ⟨Or.inr rfl, h1 (he.mpr (Or.inl ?_))⟩⟩⟩)⟩
    · subst e
      refine ih (by omega) (he.trans ⟨fun w => ?_, fun w => Or.inr ⟨e1.mp q, w⟩⟩)
      rcases w with w | w
      · have := e1.mp q
        omega
      · exact w.2
    · have l := e2.mp q2
      have : ¬ to m a = to m b := fun w => q (e1.mpr w)
      rcases he.mp q3 with w | w
      · omega
      · exact this w.1
    · have : ¬ to m a ≤ to m b := fun w => q2 (e2.mpr w)
      omega
theorem aheadX_spec {Q : Int32 → Mem → Prop} {a b : Nat} (h : oX σ n k el ex dr st s to dn) (ha : a < n) (hb : b < n) (h1 : ahd to dr (s + 1) a b → Q 1 σ) (h0 : ¬ ahd to dr (s + 1) a b → Q 0 σ) : wp_C_isAhead Q (nI a) (nI b) σ := by
  intro v e
  rw [h.2.2.1, ← pk_m1] at e
  subst e
  exact ⟨s + 1 + 1, aheadX_go h ha hb h1 h0 (s + 1) (by omega) Iff.rfl⟩
theorem at_spec {Q : Int64 → Mem → Prop} {c m : Nat} (ht : tM τ n s to) (hs : s < 13) (hm : m ≤ s) (hn : n ≤ 12) (hc : c ≤ n) (h : Q (lN (to m c)) τ) : wp_M_at Q (nI m) (nI (cM n c)) τ := by
  have h12 := cM_le hc hn
  unfold wp_M_at
  rw [i13, nI_clamp (by omega), ht m hm c hc]
  exact ⟨vp_in_nI (by omega) (by decide), h⟩
theorem at_spec' {Q : Int64 → Mem → Prop} {c m : Nat} (ht : tM τ n s to) (hs : s < 13) (hm : m ≤ s) (hn : n ≤ 12) (hc : c < n) (h : Q (lN (to m c)) τ) : wp_M_at Q (nI m) (nI c) τ := by
  have := at_spec ht hs hm hn (Nat.le_of_lt hc) h
  rwa [cM_lt hc] at this
theorem aheadM_go {Q : Int32 → Mem → Prop} {a b : Nat} (h : oM τ n k el ex dr st s to dn) (ha : a < n) (hb : b < n) (h1 : ahd to dr (s + 1) a b → Q 1 τ) (h0 : ¬ ahd to dr (s + 1) a b → Q 0 τ) : ∀ m, m ≤ s + 1 → (ahd to dr (s + 1) a b ↔ ahd to dr m a b) → wp_M_isAhead_5 Q (m + 1) (nI a) (nI b) (nI m + (-1)) τ := by
  obtain ⟨hI, hM, h4, hs, ht, hB⟩ := h
  have hn := hI.2.1
  intro m
  induction m with
  | zero =>
    intro _ he
    refine ⟨fun _ => ⟨vp_in_nI (by omega) (by decide), vp_in_nI (by omega) (by decide), ?_⟩, fun h => absurd (by decide) h⟩
    have d1 := hI.2.2.2.2.2.1 a (by omega)
    have d2 := hI.2.2.2.2.2.1 b (by omega)
    rw [nI_clamp (by omega), nI_clamp (by omega), hM.2.2.2.2.1 a (by omega), hM.2.2.2.2.1 b (by omega), nI_leI (by omega) (by omega)]
    refine ⟨fun q => ⟨Or.inl rfl, h0 (fun q2 => ?_)⟩, fun q => ⟨Or.inr rfl, h1 (he.mpr ?_)⟩⟩
    · have : dr a < dr b := he.mp q2
      omega
    · show dr a < dr b
      omega
  | succ m ih =>
    intro hm he
    rw [pk_m1]
    have hb' := hB m (by omega)
    have la := hb'.2.2 a (by omega)
    have lb := hb'.2.2 b (by omega)
    refine ⟨fun h => absurd h (nI_pos (by omega)), fun _ => at_spec' ht hs (by omega) hn ha (at_spec' ht hs (by omega) hn hb ⟨fun q v e => ?_, fun q => at_spec' ht hs (by omega) hn ha (at_spec' ht hs (by omega) hn hb ?_)⟩)⟩
    · subst e
      rw [lg_cmp_eq, pk_lEQ la lb] at q
      refine ih (by omega) (he.trans ⟨fun w => ?_, fun w => Or.inr ⟨q, w⟩⟩)
      rcases w with w | w
      · omega
      · exact w.2
    · rw [lg_cmp_eq, pk_lEQ la lb] at q
      rw [lg_cmp_le, pk_lLE la lb]
      refine ⟨fun q2 => ⟨Or.inl rfl, h0 (fun q3 => ?_)⟩, fun q2 => ⟨Or.inr rfl, h1 (he.mpr (Or.inl (by omega)))⟩⟩
      rcases he.mp q3 with w | w
      · omega
      · exact q w.1
theorem aheadM_spec {Q : Int32 → Mem → Prop} {a b : Nat} (h : oM τ n k el ex dr st s to dn) (ha : a < n) (hb : b < n) (h1 : ahd to dr (s + 1) a b → Q 1 τ) (h0 : ¬ ahd to dr (s + 1) a b → Q 0 τ) : wp_M_isAhead Q (nI a) (nI b) τ := by
  intro v e
  rw [h.2.2.1, ← pk_m1] at e
  subst e
  exact ⟨s + 1 + 1, aheadM_go h ha hb h1 h0 (s + 1) (by omega) Iff.rfl⟩
theorem dr_ne (hI : rlI n k el ex dr st) {a b : Nat} (ha : a < n) (hb : b < n) (h : a ≠ b) : dr a ≠ dr b := fun e => h (hI.2.2.2.2.2.2.1 a b ha hb e)
theorem foreX_go {Q : Int32 → Mem → Prop} {x1 : Int32} {f : Nat → Prop} (h : oX σ n k el ex dr st s to dn) (hx : (x1 = 0 ∧ ∀ c, f c ↔ st c = 0) ∨ (x1 = 1 ∧ ∀ c, f c ↔ 0 < st c)) (hQ : ∀ x, bi to dr (s + 1) n f x → Q x σ) : ∀ (t i : Nat) (x : Int32), i + t = n → bi to dr (s + 1) i f x → wp_C_foremost_4 Q (t + 1) x1 x (nI i) σ := by
  have hI := h.1
  have hX := h.2.1
  have hn := hI.2.1
  intro t
  induction t with
  | zero =>
    intro i x hi hb
    have : i = n := by omega
    subst this
    refine ⟨fun _ => hQ x hb, fun h' => ?_⟩
    rw [hX.1] at h'
    exact absurd (nI_le (Nat.le_refl i) (by omega)) h'
  | succ t ih =>
    intro i x hi hb
    have h61 : ∀ y, bi to dr (s + 1) (i + 1) f y → wp_C_foremost_61 Q (wp_C_foremost_4 Q (t + 1)) x1 y (nI i) σ := fun y hy v e => by
      rw [nI_1] at e
      subst e
      exact ih (i + 1) y (by omega) hy
    have h38 : ∀ r : Int32, (r = 1 ∧ f i) ∨ (r = 0 ∧ ¬ f i) → wp_C_foremost_38 Q (wp_C_foremost_4 Q (t + 1)) x1 x (nI i) r σ := fun r hr => by
      rcases hr with ⟨rfl, hf⟩ | ⟨rfl, hf⟩
      · refine ⟨fun q => absurd q (by decide), fun _ => ⟨fun q => ?_, fun q => ?_⟩⟩
        · subst q
          exact h61 _ (bi_new hb (by omega) hf)
        · rcases hb with ⟨e, -⟩ | ⟨b, e, hb⟩
          · exact absurd e q
          · subst e
            have hbi := hb.1
            refine aheadX_spec h (by omega) (by omega) (fun ha => ⟨fun q => absurd q (by decide), fun _ => h61 _ (bi_take hb hf ha)⟩) (fun ha => ⟨fun _ => h61 _ (bi_keep hb (dr_ne hI (by omega) (by omega) (by omega)) ha), fun q => absurd rfl q⟩)
      · exact ⟨fun _ => h61 _ (bi_skip hb hf), fun q => absurd rfl q⟩
    refine ⟨fun h' => ?_, fun _ => ?_⟩
    · rw [hX.1] at h'
      exact absurd h' (nI_ge (by omega) (by omega))
    · rcases hx with ⟨e, hf⟩ | ⟨e, hf⟩
      · subst e
        refine ⟨fun _ => isCont_spec hI hX (by omega) (fun q => h38 1 (Or.inl ⟨rfl, (hf i).mpr q⟩)) (fun q => h38 0 (Or.inr ⟨rfl, fun w => q ((hf i).mp w)⟩)), fun q => absurd rfl q⟩
      · subst e
        refine ⟨fun q => absurd q (by decide), fun _ => isEl_spec hI hX (by omega) (fun q => h38 1 (Or.inl ⟨rfl, (hf i).mpr q⟩)) (fun q => h38 0 (Or.inr ⟨rfl, fun w => q ((hf i).mp w)⟩))⟩
theorem foreX_spec {Q : Int32 → Mem → Prop} {x1 : Int32} {f : Nat → Prop} (h : oX σ n k el ex dr st s to dn) (hx : (x1 = 0 ∧ ∀ c, f c ↔ st c = 0) ∨ (x1 = 1 ∧ ∀ c, f c ↔ 0 < st c)) (hQ : ∀ x, bi to dr (s + 1) n f x → Q x σ) : wp_C_foremost Q x1 σ :=
  ⟨n + 1, by rw [nI_0']; exact foreX_go h hx hQ n 0 (-1) (by omega) (Or.inl ⟨rfl, fun c hc => absurd hc (by omega)⟩)⟩
theorem hindX_go {Q : Int32 → Mem → Prop} {f : Nat → Prop} (h : oX σ n k el ex dr st s to dn) (hf : ∀ c, f c ↔ st c = 0) (hQ : ∀ x, wi to dr (s + 1) n f x → Q x σ) : ∀ (t i : Nat) (x : Int32), i + t = n → wi to dr (s + 1) i f x → wp_C_hindmost_4 Q (t + 1) x (nI i) σ := by
  have hI := h.1
  have hX := h.2.1
  have hn := hI.2.1
  intro t
  induction t with
  | zero =>
    intro i x hi hb
    have : i = n := by omega
    subst this
    refine ⟨fun _ => hQ x hb, fun h' => ?_⟩
    rw [hX.1] at h'
    exact absurd (nI_le (Nat.le_refl i) (by omega)) h'
  | succ t ih =>
    intro i x hi hb
    have h42 : ∀ y, wi to dr (s + 1) (i + 1) f y → wp_C_hindmost_42 Q (wp_C_hindmost_4 Q (t + 1)) y (nI i) σ := fun y hy v e => by
      rw [nI_1] at e
      subst e
      exact ih (i + 1) y (by omega) hy
    refine ⟨fun h' => ?_, fun _ => isCont_spec hI hX (by omega) (fun q => ⟨fun w => absurd w (by decide), fun _ => ⟨fun w => ?_, fun w => ?_⟩⟩) (fun q => ⟨fun _ => h42 _ (wi_skip hb (fun w => q ((hf i).mp w))), fun w => absurd rfl w⟩)⟩
    · rw [hX.1] at h'
      exact absurd h' (nI_ge (by omega) (by omega))
    · subst w
      exact h42 _ (wi_new hb (by omega) ((hf i).mpr q))
    · rcases hb with ⟨e, -⟩ | ⟨b, e, hb⟩
      · exact absurd e w
      · subst e
        have hbi := hb.1
        exact aheadX_spec h (by omega) (by omega) (fun ha => ⟨fun q => absurd q (by decide), fun _ => h42 _ (wi_take hb ((hf i).mpr q) ha)⟩) (fun ha => ⟨fun _ => h42 _ (wi_keep hb (dr_ne hI (by omega) (by omega) (by omega)) ha), fun q => absurd rfl q⟩)
theorem hindX_spec {Q : Int32 → Mem → Prop} {f : Nat → Prop} (h : oX σ n k el ex dr st s to dn) (hf : ∀ c, f c ↔ st c = 0) (hQ : ∀ x, wi to dr (s + 1) n f x → Q x σ) : wp_C_hindmost Q σ :=
  ⟨n + 1, by rw [nI_0']; exact hindX_go h hf hQ n 0 (-1) (by omega) (Or.inl ⟨rfl, fun c hc => absurd hc (by omega)⟩)⟩
theorem lastM_go {Q : Int32 → Mem → Prop} {f : Nat → Prop} (h : oM τ n k el ex dr st s to dn) (hf : ∀ c, f c ↔ st c = 0) (hQ : ∀ x, wi to dr (s + 1) n f x → Q x τ) : ∀ (t i : Nat) (x : Int32), i + t = n → wi to dr (s + 1) i f x → wp_M_last_4 Q (t + 1) x (nI i) τ := by
  have hI := h.1
  have hM := h.2.1
  have hn := hI.2.1
  intro t
  induction t with
  | zero =>
    intro i x hi hb
    have : i = n := by omega
    subst this
    refine ⟨fun _ => hQ x hb, fun h' => ?_⟩
    rw [hM.1] at h'
    exact absurd (nI_le (Nat.le_refl i) (by omega)) h'
  | succ t ih =>
    intro i x hi hb
    have hsI := hI.2.2.2.2.2.2.2.1 i (by omega)
    have h36 : ∀ y, wi to dr (s + 1) (i + 1) f y → wp_M_last_36 Q (wp_M_last_4 Q (t + 1)) y (nI i) τ := fun y hy v e => by
      rw [nI_1] at e
      subst e
      exact ih (i + 1) y (by omega) hy
    refine ⟨fun h' => ?_, fun _ => ⟨vp_in_nI (by omega) (by decide), ?_⟩⟩
    · rw [hM.1] at h'
      exact absurd h' (nI_ge (by omega) (by omega))
    · rw [nI_clamp (by omega), hM.2.2.2.2.2 i (by omega), sI_eq0 (by omega) (by omega)]
      refine ⟨fun q => ⟨fun w => ?_, fun w => ?_⟩, fun q => h36 _ (wi_skip hb (fun w => q ((hf i).mp w)))⟩
      · rcases hb with ⟨e, hb⟩ | ⟨b, e, hb⟩
        · exact h36 _ (wi_new (Or.inl ⟨rfl, hb⟩) (by omega) ((hf i).mpr q))
        · subst e
          exact absurd w (nI_pos (by have := hb.1; omega))
      · rcases hb with ⟨e, -⟩ | ⟨b, e, hb⟩
        · subst e
          exact absurd (by decide) w
        · subst e
          have hbi := hb.1
          exact aheadM_spec h (by omega) (by omega) (fun ha => ⟨fun q => absurd q (by decide), fun _ => h36 _ (wi_take hb ((hf i).mpr q) ha)⟩) (fun ha => ⟨fun _ => h36 _ (wi_keep hb (dr_ne hI (by omega) (by omega) (by omega)) ha), fun q => absurd rfl q⟩)
theorem lastM_spec {Q : Int32 → Mem → Prop} {f : Nat → Prop} (h : oM τ n k el ex dr st s to dn) (hf : ∀ c, f c ↔ st c = 0) (hQ : ∀ x, wi to dr (s + 1) n f x → Q x τ) : wp_M_last Q τ :=
  ⟨n + 1, by rw [nI_0']; exact lastM_go h hf hQ n 0 (-1) (by omega) (Or.inl ⟨rfl, fun c hc => absurd hc (by omega)⟩)⟩
end SC
