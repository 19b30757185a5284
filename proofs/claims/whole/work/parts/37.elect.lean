/-! the quota; those elected behind a stage, on both sides -/
def qt (P k de : Nat) : Nat := P * (de / (k + 1))
def qX (σ : Mem) (P k : Nat) : Prop := σ.2 0 6 = lN (cu P (k + 1)) ∧ σ.2 0 7 = lN (cv P (k + 1))
theorem qt_canon {P k de : Nat} (h : (k + 1) ∣ de) (hd : 0 < de) : cu (qt P k de) de = cu P (k + 1) ∧ cv (qt P k de) de = cv P (k + 1) :=
  canon_eq hd (by omega) (by unfold qt; rw [Nat.mul_assoc, Nat.div_mul_cancel h])
section EL
variable {σ τ : Mem} {n k el ex : Nat} {dr : Nat → Nat} {st : Nat → Int} {s : Nat} {to : Nat → Nat → Nat} {dn : Nat → Nat} {P : Nat}
theorem aboveX_spec {Q : Int32 → Mem → Prop} {c : Nat} (h : oX σ n k el ex dr st s to dn) (hq : qX σ P k) (hK : (k + 1) ∣ dn s) (hqb : qt P k (dn s) < 2 ^ 63) (hc : c < n) (h1 : qt P k (dn s) < to s c → Q 1 σ) (h0 : ¬ qt P k (dn s) < to s c → Q 0 σ) : wp_C_isAboveQuota Q (nI c) σ := by
  obtain ⟨hI, hX, h4, hs, ht, hB⟩ := h
  have hn := hI.2.1
  have hb' := hB s (Nat.le_refl _)
  have hcn := qt_canon (P := P) hK hb'.1
  unfold wp_C_isAboveQuota
  rw [h4, nI_clamp (by omega)]
  refine ⟨vp_in_nI hs (by decide), cmp_spec (a := to s c) (b := qt P k (dn s)) (d := dn s) (by rw [fr13]; omega) (hb'.2.2 c (by omega)) hqb hb'.1 hb'.2.1 (ht s (Nat.le_refl _) c (by omega)) (by rw [hq.1, hcn.1]) (by rw [hq.2, hcn.2]) (fun r _ e2 => ⟨fun q => ⟨Or.inl rfl, h0 (fun w => ?_)⟩, fun q => ⟨Or.inr rfl, h1 ?_⟩⟩)⟩
  · have := e2.mp q
    omega
  · have : ¬ to s c ≤ qt P k (dn s) := fun w => q (e2.mpr w)
    omega
def mq (τ : Mem) (P k de : Nat) : Prop := τ.1 0 7 = nI P ∧ P ≤ 50 ∧ τ.2 0 14 = lN de ∧ de < 2 ^ 63 ∧ qt P k de < 2 ^ 63 ∧ k ≤ 4 ∧ τ.1 0 2 = nI k
theorem k1 {τ : Mem} {k : Nat} (h : τ.1 0 2 = nI k) (hk : k ≤ 4) : Int32.toInt64 (τ.1 0 2 + 1) = lN (k + 1) := by rw [h, nI_1, nI_l (by omega)]
theorem quotaM_spec {Q : Int64 → Mem → Prop} {de : Nat} (h : mq τ P k de) (hQ : Q (lN (qt P k de)) τ) : wp_M_quota Q τ := by
  obtain ⟨h7, hP, h14, hd, hq, hk, h2⟩ := h
  unfold wp_M_quota
  rw [k1 h2 hk, h7, nI_l (by omega), h14, pk_lDiv hd (by omega) (by omega), lN_mul]
  exact ⟨lN_ne (by omega) (by omega), hQ⟩
theorem firstM_go {Q : Int32 → Mem → Prop} {x1 x2 : Int32} {f g : Nat → Prop} (h : oM τ n k el ex dr st s to dn) (hq : mq τ P k (dn s)) (hx : (x1 = 1 ∧ ∀ c, g c ↔ st c = 0) ∨ (x1 = 0 ∧ ∀ c, g c ↔ 0 < st c)) (hy : (x2 = 0 ∧ ∀ c, f c ↔ g c) ∨ (x2 = 1 ∧ ∀ c, f c ↔ g c ∧ qt P k (dn s) < to s c)) (hQ : ∀ x, bi to dr (s + 1) n f x → Q x τ) : ∀ (t i : Nat) (x : Int32), i + t = n → bi to dr (s + 1) i f x → wp_M_first_5 Q (t + 1) x1 x2 x (nI i) τ := by
  have hI := h.1
  have hM := h.2.1
  have hn := hI.2.1
  have hb' := h.2.2.2.2.2 s (Nat.le_refl _)
  intro t
  induction t with
  | zero =>
    intro i x hi hb
    have : i = n := by omega
    subst this
    refine ⟨fun _ => hQ x hb, fun h' => ?_⟩
    rw [hM.1] at h'
    exact absurd (nI_le (Nat.le_refl i) (by omega)) h'
  | succ t ih =>
    intro i x hi hb
    have hsI := hI.2.2.2.2.2.2.2.1 i (by omega)
    have h92 : ∀ y, bi to dr (s + 1) (i + 1) f y → wp_M_first_92 Q (wp_M_first_5 Q (t + 1)) x1 x2 y (nI i) τ := fun y hy v e => by
      rw [nI_1] at e
      subst e
      exact ih (i + 1) y (by omega) hy
    have h68 : ∀ r : Int32, (r = 1 ∧ f i) ∨ (r = 0 ∧ ¬ f i) → wp_M_first_68 Q (wp_M_first_5 Q (t + 1)) x1 x2 x (nI i) r τ := fun r hr => by
      rcases hr with ⟨rfl, hf⟩ | ⟨rfl, hf⟩
      · refine ⟨fun q => absurd q (by decide), fun _ => ⟨fun q => ?_, fun q => ?_⟩⟩
        · rcases hb with ⟨e, hb⟩ | ⟨b, e, hb⟩
          · exact h92 _ (bi_new (Or.inl ⟨rfl, hb⟩) (by omega) hf)
          · subst e
            exact absurd q (nI_pos (by have := hb.1; omega))
        · rcases hb with ⟨e, -⟩ | ⟨b, e, hb⟩
          · subst e
            exact absurd (by decide) q
          · subst e
            have hbi := hb.1
            refine aheadM_spec h (by omega) (by omega) (fun ha => ⟨fun q => absurd q (by decide), fun _ => h92 _ (bi_take hb hf ha)⟩) (fun ha => ⟨fun _ => h92 _ (bi_keep hb (dr_ne hI (by omega) (by omega) (by omega)) ha), fun q => absurd rfl q⟩)
      · exact ⟨fun _ => h92 _ (bi_skip hb hf), fun q => absurd rfl q⟩
    have h41 : g i → wp_M_first_41 Q (wp_M_first_5 Q (t + 1)) x1 x2 x (nI i) τ := fun hg => by
      rcases hy with ⟨e, hf⟩ | ⟨e, hf⟩
      · subst e
        exact ⟨fun _ => h68 1 (Or.inl ⟨rfl, (hf i).mpr hg⟩), fun q => absurd rfl q⟩
      · subst e
        refine ⟨fun q => absurd q (by decide), fun _ => ?_⟩
        rw [h.2.2.1]
        refine at_spec' h.2.2.2.2.1 h.2.2.2.1 (Nat.le_refl _) hn (by omega) (quotaM_spec hq ?_)
        rw [lg_cmp_le, pk_lLE (hb'.2.2 i (by omega)) hq.2.2.2.2.1]
        exact ⟨fun q => h68 0 (Or.inr ⟨rfl, fun w => by have := ((hf i).mp w).2; omega⟩), fun q => h68 1 (Or.inl ⟨rfl, (hf i).mpr ⟨hg, by omega⟩⟩)⟩
    have h67 : ¬ g i → wp_M_first_67 Q (wp_M_first_5 Q (t + 1)) x1 x2 x (nI i) τ := fun hg => h68 0 (Or.inr ⟨rfl, fun w => hg (by
      rcases hy with ⟨e, hf⟩ | ⟨e, hf⟩
      · exact (hf i).mp w
      · exact ((hf i).mp w).1)⟩)
    refine ⟨fun h' => ?_, fun _ => ?_⟩
    · rw [hM.1] at h'
      exact absurd h' (nI_ge (by omega) (by omega))
    · rcases hx with ⟨e, hg⟩ | ⟨e, hg⟩
      · subst e
        refine ⟨fun q => absurd q (by decide), fun _ => ⟨vp_in_nI (by omega) (by decide), ?_⟩⟩
        rw [nI_clamp (by omega), hM.2.2.2.2.2 i (by omega), sI_eq0 (by omega) (by omega)]
        exact ⟨fun q => h41 ((hg i).mpr q), fun q => h67 (fun w => q ((hg i).mp w))⟩
      · subst e
        refine ⟨fun _ => ⟨vp_in_nI (by omega) (by decide), ?_⟩, fun q => absurd rfl q⟩
        rw [nI_clamp (by omega), hM.2.2.2.2.2 i (by omega), sI_le0 (by omega) (by omega)]
        exact ⟨fun q => h67 (fun w => by have := (hg i).mp w; omega), fun q => h41 ((hg i).mpr (by omega))⟩
theorem firstM_spec {Q : Int32 → Mem → Prop} {x1 x2 : Int32} {f g : Nat → Prop} (h : oM τ n k el ex dr st s to dn) (hq : mq τ P k (dn s)) (hx : (x1 = 1 ∧ ∀ c, g c ↔ st c = 0) ∨ (x1 = 0 ∧ ∀ c, g c ↔ 0 < st c)) (hy : (x2 = 0 ∧ ∀ c, f c ↔ g c) ∨ (x2 = 1 ∧ ∀ c, f c ↔ g c ∧ qt P k (dn s) < to s c)) (hQ : ∀ x, bi to dr (s + 1) n f x → Q x τ) : wp_M_first Q x1 x2 τ :=
  ⟨n + 1, by rw [nI_0']; exact firstM_go h hq hx hy hQ n 0 (-1) (by omega) (Or.inl ⟨rfl, fun c hc => absurd hc (by omega)⟩)⟩
end EL
/-- one after another, as long as there is one of those -/
def elc (to : Nat → Nat → Nat) (dr : Nat → Nat) (m n : Nat) (up : Nat → Prop) : Nat → (Nat → Int) → Nat → (Nat → Int) → Nat → Prop
  | 0, st, el, st', el' => st' = st ∧ el' = el ∧ ∀ c, c < n → ¬ (st c = 0 ∧ up c)
  | j + 1, st, el, st', el' => ∃ b, bst to dr m n (fun c => st c = 0 ∧ up c) b ∧ elc to dr m n up j (va_up st b ((el + 1 : Nat) : Int)) (el + 1) st' el'
theorem bi_ex {to : Nat → Nat → Nat} {dr : Nat → Nat} {m n : Nat} {f : Nat → Prop} (hn : n ≤ 12) (hd : ∀ c d, c < n → d < n → dr c = dr d → c = d) : ∀ i, i ≤ n → ∃ x, bi to dr m i f x := by
  intro i
  induction i with
  | zero => exact fun _ => ⟨-1, Or.inl ⟨rfl, fun c hc => absurd hc (by omega)⟩⟩
  | succ i ih =>
    intro hi
    obtain ⟨x, hx⟩ := ih (by omega)
    by_cases hf : f i
    · rcases hx with ⟨e, hx⟩ | ⟨b, e, hb⟩
      · exact ⟨_, bi_new (Or.inl ⟨rfl, hx⟩) (by omega) hf⟩
      · have hbi := hb.1
        by_cases ha : ahd to dr m i b
        · exact ⟨_, bi_take hb hf ha⟩
        · exact ⟨_, bi_keep hb (fun e => by have := hd i b (by omega) (by omega) e; omega) ha⟩
    · exact ⟨x, bi_skip hx hf⟩
theorem wi_ex {to : Nat → Nat → Nat} {dr : Nat → Nat} {m n : Nat} {f : Nat → Prop} (hn : n ≤ 12) (hd : ∀ c d, c < n → d < n → dr c = dr d → c = d) : ∀ i, i ≤ n → ∃ x, wi to dr m i f x := by
  intro i
  induction i with
  | zero => exact fun _ => ⟨-1, Or.inl ⟨rfl, fun c hc => absurd hc (by omega)⟩⟩
  | succ i ih =>
    intro hi
    obtain ⟨x, hx⟩ := ih (by omega)
    by_cases hf : f i
    · rcases hx with ⟨e, hx⟩ | ⟨b, e, hb⟩
      · exact ⟨_, wi_new (Or.inl ⟨rfl, hx⟩) (by omega) hf⟩
      · have hbi := hb.1
        by_cases ha : ahd to dr m b i
        · exact ⟨_, wi_take hb hf ha⟩
        · exact ⟨_, wi_keep hb (fun e => by have := hd b i (by omega) (by omega) e; omega) ha⟩
    · exact ⟨x, wi_skip hx hf⟩
theorem cnz_pos {st : Nat → Int} {c : Nat} : ∀ {n : Nat}, c < n → st c = 0 → 0 < cnz st n
  | 0, h, _ => absurd h (by omega)
  | n + 1, h, h0 => by
    unfold cnz
    by_cases e : c = n
    · subst e
      rw [if_pos h0]
      omega
    · have := cnz_pos (st := st) (c := c) (n := n) (by omega) h0
      omega
theorem cnz_zero {st : Nat → Int} : ∀ {n : Nat}, (∀ c, c < n → st c ≠ 0) → cnz st n = 0
  | 0, _ => rfl
  | n + 1, h => by
    unfold cnz
    rw [cnz_zero (n := n) (fun c hc => h c (by omega)), if_neg (h n (by omega))]
theorem elc_ex {to : Nat → Nat → Nat} {dr : Nat → Nat} {m n : Nat} {up : Nat → Prop} (hn : n ≤ 12) (hd : ∀ c d, c < n → d < n → dr c = dr d → c = d) : ∀ (N : Nat) (st : Nat → Int) (el : Nat), cnz st n ≤ N → ∃ j st' el', elc to dr m n up j st el st' el' := by
  intro N
  induction N with
  | zero =>
    intro st el h
    exact ⟨0, st, el, rfl, rfl, fun c hc q => absurd (cnz_pos hc q.1) (by omega)⟩
  | succ N ih =>
    intro st el h
    obtain ⟨x, hx⟩ := bi_ex (to := to) (m := m) (f := fun c => st c = 0 ∧ up c) hn hd n (Nat.le_refl _)
    rcases hx with ⟨-, hx⟩ | ⟨b, -, hb⟩
    · exact ⟨0, st, el, rfl, rfl, hx⟩
    · have hu := cnz_up (st := st) (c := b) (v := ((el + 1 : Nat) : Int)) (by omega) hb.2.1.1 n
      rw [if_pos hb.1] at hu
      obtain ⟨j, st', el', he⟩ := ih (va_up st b ((el + 1 : Nat) : Int)) (el + 1) (by omega)
      exact ⟨j + 1, st', el', b, hb, he⟩
theorem rlI_el {n k el ex : Nat} {dr : Nat → Nat} {st : Nat → Int} {b : Nat} (h : rlI n k el ex dr st) (hb : b < n) (h0 : st b = 0) : rlI n k (el + 1) ex dr (va_up st b ((el + 1 : Nat) : Int)) := by
  obtain ⟨a1, a2, a3, a4, a5, a6, a7, a8, a9⟩ := h
  have hu := cnz_up (st := st) (c := b) (v := ((el + 1 : Nat) : Int)) (by omega) h0 n
  rw [if_pos hb] at hu
  refine ⟨a1, a2, a3, a4, a5, a6, a7, fun c hc => ?_, by omega⟩
  by_cases e : c = b
  · subst e
    rw [va_up_self]
    omega
  · rw [va_up_ne _ _ e]
    exact a8 c hc
theorem elc_cnz {to : Nat → Nat → Nat} {dr : Nat → Nat} {m n : Nat} {up : Nat → Prop} : ∀ {j : Nat} {st : Nat → Int} {el : Nat} {st' : Nat → Int} {el' : Nat}, elc to dr m n up j st el st' el' → el' + cnz st' n = el + cnz st n ∧ el ≤ el'
  | 0, _, _, _, _, ⟨e1, e2, _⟩ => by subst e1; subst e2; exact ⟨rfl, Nat.le_refl _⟩
  | j + 1, st, el, st', el', ⟨b, hb, h⟩ => by
    have hu := cnz_up (st := st) (c := b) (v := ((el + 1 : Nat) : Int)) (by omega) hb.2.1.1 n
    rw [if_pos hb.1] at hu
    have := elc_cnz h
    omega
section EL2
variable {n k ex : Nat} {dr : Nat → Nat} {s : Nat} {to : Nat → Nat → Nat} {dn : Nat → Nat} {P : Nat} {st' : Nat → Int} {el' : Nat} {up : Nat → Prop}
def fE (σ σ' : Mem) : Prop := σ'.2 = σ.2 ∧ ∀ o, o ≠ 1 → o ≠ 3 → σ'.1 o = σ.1 o
theorem oX_el {σ : Mem} {el : Nat} {st : Nat → Int} {b : Nat} (h : oX σ n k el ex dr st s to dn) (hb : b < n) (h0 : st b = 0) : oX (mI (mI σ 1 3 (nI (el + 1))) 3 b (nI (el + 1))) n k (el + 1) ex dr (va_up st b ((el + 1 : Nat) : Int)) s to dn := by
  obtain ⟨hI, ⟨x1, x2, x3, x4, x5⟩, h4, hs, ht, hB⟩ := h
  refine ⟨rlI_el hI hb h0, ⟨?_, ?_, ?_, ?_, ?_⟩, ?_, hs, ht, hB⟩
  · simp [mI_at, x1]
  · simp [mI_at]
  · simp [mI_at, x3]
  · intro c hc
    simp [mI_at, x4 c hc]
  · intro c hc
    by_cases e : c = b
    · subst e
      rw [mI_at, if_pos ⟨rfl, rfl⟩, va_up_self]
      rfl
    · rw [mI_at, if_neg (by omega), mI_at, if_neg (by omega), va_up_ne _ _ e]
      exact x5 c hc
  · simp [mI_at, h4]
theorem electX_go {Q : Mem → Prop} {x1 : Int32} (hK : (k + 1) ∣ dn s) (hqb : qt P k (dn s) < 2 ^ 63) (hx : (x1 = 0 ∧ ∀ c, up c) ∨ (x1 = 1 ∧ ∀ c, c < n → (up c ↔ qt P k (dn s) < to s c))) : ∀ (j t el : Nat) (st : Nat → Int) (σ : Mem), oX σ n k el ex dr st s to dn → qX σ P k → elc to dr (s + 1) n up j st el st' el' → t + cnz st n ≤ n → (∀ σ', oX σ' n k el' ex dr st' s to dn → fE σ σ' → Q σ') → wp_C_electInOrder_2 Q (j + 1) x1 (nI t) σ := by
  intro j
  induction j with
  | zero =>
    intro t el st σ h hq he ht hQ
    obtain ⟨e1, e2, hno⟩ := he
    subst e1
    subst e2
    have hdone : Q σ := hQ σ h ⟨rfl, fun _ _ _ => rfl⟩
    refine ⟨fun _ => hdone, fun _ => foreX_spec (f := fun c => st' c = 0) h (Or.inl ⟨rfl, fun _ => Iff.rfl⟩) (fun x hx' => ⟨fun _ => hdone, fun hx1 => ?_⟩)⟩
    rcases hx' with ⟨e, -⟩ | ⟨b, e, hb⟩
    · exact absurd e hx1
    · subst e
      rcases hx with ⟨e, hu⟩ | ⟨e, hu⟩
      · exact absurd ⟨hb.2.1, hu b⟩ (hno b hb.1)
      · subst e
        exact ⟨fun q => absurd q (by decide), fun _ => aboveX_spec h hq hK hqb hb.1 (fun w => absurd ⟨hb.2.1, (hu b hb.1).mpr w⟩ (hno b hb.1)) (fun w => ⟨fun _ => hdone, fun q => absurd rfl q⟩)⟩
  | succ j ih =>
    intro t el st σ h hq he ht hQ
    obtain ⟨b, hb, he⟩ := he
    have hn := h.1.2.1
    have hu := cnz_up (st := st) (c := b) (v := ((el + 1 : Nat) : Int)) (by omega) hb.2.1.1 n
    rw [if_pos hb.1] at hu
    have hgo : wp_C_electInOrder_39 Q (wp_C_electInOrder_2 Q (j + 1)) x1 (nI t) (nI b) σ := electX_spec h.2.1.2.1 (by have := hb.1; omega) (fun v e => by
      rw [nI_1] at e
      subst e
      refine ih (t + 1) (el + 1) _ _ (oX_el h hb.1 hb.2.1.1) hq he (by omega) (fun σ' h1 h2 => hQ σ' h1 ⟨h2.1, fun o o1 o3 => ?_⟩)
      rw [h2.2 o o1 o3, (mI_ne o o3).1, (mI_ne o o1).1])
    refine ⟨fun q => ?_, fun _ => foreX_spec (f := fun c => st c = 0) h (Or.inl ⟨rfl, fun _ => Iff.rfl⟩) (fun x hx' => ⟨fun hx1 => ?_, fun hx1 => ?_⟩)⟩
    · rw [h.2.1.1, nI_leI (by omega) (by omega)] at q
      omega
    · rcases hx' with ⟨-, hx'⟩ | ⟨c, e, hc⟩
      · exact absurd hb.2.1.1 (hx' b hb.1)
      · subst e
        exact absurd hx1 (m1_ne (by have := hc.1; omega))
    · rcases hx' with ⟨e, -⟩ | ⟨c, e, hc⟩
      · exact absurd e hx1
      · subst e
        have hcu : up c := by
          rcases hx with ⟨-, hu⟩ | ⟨-, hu⟩
          · exact hu c
          · by_cases ecb : b = c
            · subst ecb
              exact hb.2.1.2
            · have h1 := ahd_le (hc.2.2 b hb.1 hb.2.1.1 ecb)
              have h2 := (hu b hb.1).mp hb.2.1.2
              exact (hu c hc.1).mpr (by omega)
        have ebc : b = c := bst_uniq hb ⟨hc.1, ⟨hc.2.1, hcu⟩, fun d hd hfd hne => hc.2.2 d hd hfd.1 hne⟩
        subst ebc
        rcases hx with ⟨e, hu⟩ | ⟨e, hu⟩
        · exact ⟨fun _ => hgo, fun q => absurd e q⟩
        · exact ⟨fun q => absurd (e ▸ q) (by decide), fun _ => aboveX_spec h hq hK hqb hb.1 (fun w => ⟨fun q => absurd q (by decide), fun _ => hgo⟩) (fun w => absurd ((hu b hb.1).mp hcu) w)⟩
theorem electIX_spec {Q : Mem → Prop} {x1 : Int32} {j el : Nat} {st : Nat → Int} {σ : Mem} (hK : (k + 1) ∣ dn s) (hqb : qt P k (dn s) < 2 ^ 63) (hx : (x1 = 0 ∧ ∀ c, up c) ∨ (x1 = 1 ∧ ∀ c, c < n → (up c ↔ qt P k (dn s) < to s c))) (h : oX σ n k el ex dr st s to dn) (hq : qX σ P k) (he : elc to dr (s + 1) n up j st el st' el') (hQ : ∀ σ', oX σ' n k el' ex dr st' s to dn → fE σ σ' → Q σ') : wp_C_electInOrder Q x1 σ :=
  ⟨j + 1, by rw [nI_0']; exact electX_go hK hqb hx j 0 el st σ h hq he (by have := cnz_le st n; omega) hQ⟩
end EL2
