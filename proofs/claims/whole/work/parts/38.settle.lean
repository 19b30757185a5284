/-! the end of a stage: settle, endStage -/
def ovI (ov : Bool) : Int32 := if ov then 1 else 0
def stl (to : Nat → Nat → Nat) (dr : Nat → Nat) (s n k q : Nat) (st : Nat → Int) (el : Nat) (st2 : Nat → Int) (el2 : Nat) (ov : Bool) : Prop := ∃ (j1 : Nat) (st1 : Nat → Int) (el1 : Nat), elc to dr (s + 1) n (fun c => q < to s c) j1 st el st1 el1 ∧ el1 ≤ k ∧ ((el1 + cnz st1 n ≤ k ∧ ov = true ∧ ∃ j2, elc to dr (s + 1) n (fun _ => True) j2 st1 el1 st2 el2) ∨ (k < el1 + cnz st1 n ∧ st2 = st1 ∧ el2 = el1 ∧ (ov = true ↔ el1 = k)))
theorem elc_none {to : Nat → Nat → Nat} {dr : Nat → Nat} {m n : Nat} {up : Nat → Prop} {j : Nat} {st st' : Nat → Int} {el el' : Nat} (h0 : cnz st n = 0) (h : elc to dr m n up j st el st' el') : st' = st ∧ el' = el := by
  cases j with
  | zero => exact ⟨h.1, h.2.1⟩
  | succ j =>
    obtain ⟨b, hb, -⟩ := h
    exact absurd (cnz_pos hb.1 hb.2.1.1) (by omega)
theorem elc_all {to : Nat → Nat → Nat} {dr : Nat → Nat} {m n : Nat} : ∀ {j : Nat} {st st' : Nat → Int} {el el' : Nat}, elc to dr m n (fun _ => True) j st el st' el' → cnz st' n = 0
  | 0, st, st', el, el', h => by
    rw [h.1]
    exact cnz_zero (fun c hc e => h.2.2 c hc ⟨e, trivial⟩)
  | j + 1, st, st', el, el', ⟨b, _, h⟩ => elc_all h
section ST
variable {n k ex : Nat} {dr : Nat → Nat} {s : Nat} {to : Nat → Nat → Nat} {dn : Nat → Nat} {P : Nat} {st' : Nat → Int} {el' : Nat}
def fS (σ σ' : Mem) : Prop := σ'.2 = σ.2 ∧ (∀ o, o ≠ 0 → o ≠ 1 → o ≠ 3 → σ'.1 o = σ.1 o) ∧ ∀ i, i ≠ 5 → σ'.1 0 i = σ.1 0 i
theorem oX_0 {σ : Mem} {el : Nat} {st : Nat → Int} {v : Int32} (h : oX σ n k el ex dr st s to dn) : oX (mI σ 0 5 v) n k el ex dr st s to dn := by
  obtain ⟨hI, ⟨x1, x2, x3, x4, x5⟩, h4, hs, ht, hB⟩ := h
  refine ⟨hI, ⟨?_, ?_, ?_, fun c hc => ?_, fun c hc => ?_⟩, ?_, hs, ht, hB⟩
  · simp [mI_at, x1]
  · simp [mI_at, x2]
  · simp [mI_at, x3]
  · simp [mI_at, x4 c hc]
  · simp [mI_at, x5 c hc]
  · simp [mI_at, h4]
theorem settleX_spec {Q : Mem → Prop} {el el2 : Nat} {st st2 : Nat → Int} {ov : Bool} {σ : Mem} (hK : (k + 1) ∣ dn s) (hqb : qt P k (dn s) < 2 ^ 63) (h : oX σ n k el ex dr st s to dn) (hq : qX σ P k) (h3 : σ.1 0 3 = nI k) (hst : stl to dr s n k (qt P k (dn s)) st el st2 el2 ov) (hQ : ∀ σ', oX σ' n k el2 ex dr st2 s to dn → fS σ σ' → σ'.1 0 5 = ovI ov → Q σ') : wp_C_settle Q σ := by
  obtain ⟨j1, st1, el1, he1, hle, hc⟩ := hst
  refine electIX_spec hK hqb (Or.inr ⟨rfl, fun _ _ => Iff.rfl⟩) h hq he1 (fun σ1 h1 f1 => ?_)
  have hn := h.1.2.1
  have hk := h.1.2.2.2.1
  have hsum := h1.1.2.2.2.2.2.2.2.2
  have h31 : σ1.1 0 3 = nI k := by rw [f1.2 0 (by decide) (by decide)]; exact h3
  have hend : ∀ (v : Int32) (σ' : Mem), (v = 0 ∨ v = 1) → v = ovI ov → oX σ' n k el2 ex dr st2 s to dn → fE σ1 σ' → wp_C_settle_76 Q v σ' := fun v σ' hv e ho hf => ⟨hv, fun σ2 e2 => by
    subst e2
    refine hQ _ (oX_0 ho) ⟨?_, fun o o0 o1 o3 => ?_, fun i hi => ?_⟩ (by rw [mI_at, if_pos ⟨rfl, rfl⟩, e])
    · show σ'.2 = σ.2
      rw [hf.1, f1.1]
    · rw [(mI_ne o o0).1, hf.2 o o1 o3, f1.2 o o1 o3]
    · rw [mI_at, if_neg (by omega), hf.2 0 (by decide) (by decide), f1.2 0 (by decide) (by decide)]⟩
  have h24 : ∀ t0 : Int32, (t0 = 1 ∧ el1 = k) ∨ (t0 = 0 ∧ el1 ≠ k) → wp_C_settle_24 Q t0 σ1 := fun t0 ht0 => by
    refine contX_spec h1.1 h1.2.1 ?_
    rw [h31, h1.2.1.2.1, nI_add, nI_ltI (by omega) (by omega)]
    refine ⟨fun hlt => ?_, fun hnl => ?_⟩
    · rcases hc with ⟨hc, -⟩ | ⟨-, e1, e2, hov⟩
      · omega
      · subst e1
        subst e2
        refine ⟨fun _ => ⟨fun ht => ?_, fun ht => ?_⟩, fun q => absurd rfl q⟩
        · subst ht
          refine ⟨fun _ => hend 0 σ1 (Or.inl rfl) ?_ h1 ⟨rfl, fun _ _ _ => rfl⟩, fun q => absurd rfl q⟩
          cases ov with
          | false => rfl
          | true =>
            rcases ht0 with ⟨e, -⟩ | ⟨-, e⟩
            · exact absurd e (by decide)
            · exact absurd (hov.mp rfl) e
        · refine hend 1 σ1 (Or.inr rfl) ?_ h1 ⟨rfl, fun _ _ _ => rfl⟩
          rcases ht0 with ⟨-, e⟩ | ⟨e, -⟩
          · rw [hov.mpr e]; rfl
          · exact absurd e ht
    · rcases hc with ⟨-, eov, j2, he2⟩ | ⟨hc, -⟩
      · refine ⟨fun q => absurd q (by decide), fun _ => electIX_spec hK hqb (Or.inl ⟨rfl, fun _ => trivial⟩) h1 ⟨by rw [f1.1]; exact hq.1, by rw [f1.1]; exact hq.2⟩ he2 (fun σ2 h2 f2 => ?_)⟩
        have : wp_C_settle_76 Q 1 σ2 := hend 1 σ2 (Or.inr rfl) (by rw [eov]; rfl) h2 f2
        exact ⟨fun _ => ⟨fun q => absurd q (by decide), fun _ => this⟩, fun _ => this⟩
      · omega
  refine ⟨fun q => h24 1 (Or.inl ⟨rfl, ?_⟩), fun q => h24 0 (Or.inr ⟨rfl, fun e => q ?_⟩)⟩
  · rw [h31, h1.2.1.2.1] at q
    exact (nI_eq (by omega) (by omega)).mp q
  · rw [h31, h1.2.1.2.1, e]
def gM (τ τ' : Mem) : Prop := τ'.2 = τ.2 ∧ (∀ o, o ≠ 0 → o ≠ 2 → τ'.1 o = τ.1 o) ∧ ∀ i, i ≠ 5 → τ'.1 0 i = τ.1 0 i
theorem gM_rf {τ : Mem} : gM τ τ := ⟨rfl, fun _ _ _ => rfl, fun _ _ => rfl⟩
theorem gM_tr {a b c : Mem} (h1 : gM a b) (h2 : gM b c) : gM a c := ⟨h2.1.trans h1.1, fun o o0 o2 => (h2.2.1 o o0 o2).trans (h1.2.1 o o0 o2), fun i hi => (h2.2.2 i hi).trans (h1.2.2 i hi)⟩
theorem mq_f {τ τ' : Mem} {de : Nat} (h : mq τ P k de) (f : gM τ τ') : mq τ' P k de := ⟨by rw [f.2.2 7 (by decide)]; exact h.1, h.2.1, by rw [f.1]; exact h.2.2.1, h.2.2.2.1, h.2.2.2.2.1, h.2.2.2.2.2.1, by rw [f.2.2 2 (by decide)]; exact h.2.2.2.2.2.2⟩
theorem oM_el {τ : Mem} {el : Nat} {st : Nat → Int} {b : Nat} (h : oM τ n k el ex dr st s to dn) (hb : b < n) (h0 : st b = 0) : oM (mI (mI τ 0 5 (nI (el + 1))) 2 b (nI (el + 1))) n k (el + 1) ex dr (va_up st b ((el + 1 : Nat) : Int)) s to dn := by
  obtain ⟨hI, ⟨x1, x2, x3, x4, x5, x6⟩, h4, hs, ht, hB⟩ := h
  refine ⟨rlI_el hI hb h0, ⟨?_, ?_, ?_, ?_, ?_, ?_⟩, ?_, hs, ht, hB⟩
  · simp [mI_at, x1]
  · simp [mI_at, x2]
  · simp [mI_at]
  · simp [mI_at, x4]
  · intro c hc
    simp [mI_at, x5 c hc]
  · intro c hc
    by_cases e : c = b
    · subst e
      rw [mI_at, if_pos ⟨rfl, rfl⟩, va_up_self]
      rfl
    · rw [mI_at, if_neg (by omega), mI_at, if_neg (by omega), va_up_ne _ _ e]
      exact x6 c hc
  · simp [mI_at, h4]
theorem gM_el {τ : Mem} {b : Nat} {v w : Int32} : gM τ (mI (mI τ 0 5 v) 2 b w) := ⟨rfl, fun o o0 o2 => by rw [(mI_ne o o2).1, (mI_ne o o0).1], fun i hi => by rw [mI_at, if_neg (by omega), mI_at, if_neg (by omega)]⟩
def rM75 (Q : Mem → Prop) (τ : Mem) : Prop := ((τ.1 0 2) ≤ (τ.1 0 5) → (wp_M_endStage_147 Q τ)) ∧ (¬ (τ.1 0 2) ≤ (τ.1 0 5) → (wp_M_continuing (fun r110 σ110 => ((σ110.1 0 2) < ((τ.1 0 5) + r110) → (wp_M_endStage_147 Q σ110)) ∧ (¬ (σ110.1 0 2) < ((τ.1 0 5) + r110) → (wp_M_first (fun r124 σ124 => ∃ k128 : Nat, wp_M_endStage_128 Q k128 r124 σ124) (1 : Int32) (0 : Int32) σ110))) τ))
theorem el75_go {Q : Mem → Prop} : ∀ (j el : Nat) (st : Nat → Int) (τ : Mem) (x : Int32), oM τ n k el ex dr st s to dn → mq τ P k (dn s) → elc to dr (s + 1) n (fun c => qt P k (dn s) < to s c) j st el st' el' → bi to dr (s + 1) n (fun c => st c = 0 ∧ qt P k (dn s) < to s c) x → (∀ τ', oM τ' n k el' ex dr st' s to dn → gM τ τ' → rM75 Q τ') → wp_M_endStage_75 Q (j + 1) x τ := by
  intro j
  induction j with
  | zero =>
    intro el st τ x h hq he hx hR
    obtain ⟨e1, e2, hno⟩ := he
    subst e1
    subst e2
    rcases hx with ⟨e, -⟩ | ⟨b, -, hb⟩
    · subst e
      exact ⟨fun _ => hR τ h gM_rf, fun q => absurd (by decide) q⟩
    · exact absurd hb.2.1 (hno b hb.1)
  | succ j ih =>
    intro el st τ x h hq he hx hR
    obtain ⟨b, hb, he⟩ := he
    have hn := h.1.2.1
    rcases hx with ⟨-, hx⟩ | ⟨c, e, hc⟩
    · exact absurd hb.2.1 (hx b hb.1)
    · subst e
      have ebc := bst_uniq hb hc
      subst ebc
      refine ⟨fun q => absurd q (nI_pos (by have := hb.1; omega)), fun _ => electM_spec h.2.1.2.2.1 (by have := hb.1; omega) ?_⟩
      have h1 := oM_el h hb.1 hb.2.1.1
      have q1 := mq_f hq (gM_el (τ := τ) (b := b) (v := nI (el + 1)) (w := nI (el + 1)))
      exact firstM_spec h1 q1 (Or.inl ⟨rfl, fun _ => Iff.rfl⟩) (Or.inr ⟨rfl, fun _ => Iff.rfl⟩) (fun x hx => ih (el + 1) _ _ x h1 q1 he hx (fun τ' h2 f2 => hR τ' h2 (gM_tr gM_el f2)))
theorem el128_go {Q : Mem → Prop} : ∀ (j el : Nat) (st : Nat → Int) (τ : Mem) (x : Int32), oM τ n k el ex dr st s to dn → mq τ P k (dn s) → elc to dr (s + 1) n (fun _ => True) j st el st' el' → bi to dr (s + 1) n (fun c => st c = 0 ∧ True) x → (∀ τ', oM τ' n k el' ex dr st' s to dn → gM τ τ' → wp_M_endStage_147 Q τ') → wp_M_endStage_128 Q (j + 1) x τ := by
  intro j
  induction j with
  | zero =>
    intro el st τ x h hq he hx hR
    obtain ⟨e1, e2, hno⟩ := he
    subst e1
    subst e2
    rcases hx with ⟨e, -⟩ | ⟨b, -, hb⟩
    · subst e
      exact ⟨fun _ => hR τ h gM_rf, fun q => absurd (by decide) q⟩
    · exact absurd hb.2.1 (hno b hb.1)
  | succ j ih =>
    intro el st τ x h hq he hx hR
    obtain ⟨b, hb, he⟩ := he
    have hn := h.1.2.1
    rcases hx with ⟨-, hx⟩ | ⟨c, e, hc⟩
    · exact absurd hb.2.1 (hx b hb.1)
    · subst e
      have ebc := bst_uniq hb hc
      subst ebc
      refine ⟨fun q => absurd q (nI_pos (by have := hb.1; omega)), fun _ => electM_spec h.2.1.2.2.1 (by have := hb.1; omega) ?_⟩
      have h1 := oM_el h hb.1 hb.2.1.1
      have q1 := mq_f hq (gM_el (τ := τ) (b := b) (v := nI (el + 1)) (w := nI (el + 1)))
      exact firstM_spec (g := fun c => va_up st b ((el + 1 : Nat) : Int) c = 0) h1 q1 (Or.inl ⟨rfl, fun _ => Iff.rfl⟩) (Or.inl ⟨rfl, fun _ => ⟨fun w => w.1, fun w => ⟨w, trivial⟩⟩⟩) (fun x hx => ih (el + 1) _ _ x h1 q1 he hx (fun τ' h2 f2 => hR τ' h2 (gM_tr gM_el f2)))
def fT (τ τ' : Mem) : Prop := τ'.2 = τ.2 ∧ (∀ o, o ≠ 0 → o ≠ 2 → τ'.1 o = τ.1 o) ∧ ∀ i, i ≠ 5 → i ≠ 19 → τ'.1 0 i = τ.1 0 i
theorem oM_0 {τ : Mem} {el : Nat} {st : Nat → Int} {v : Int32} (h : oM τ n k el ex dr st s to dn) : oM (mI τ 0 19 v) n k el ex dr st s to dn := by
  obtain ⟨hI, ⟨x1, x2, x3, x4, x5, x6⟩, h4, hs, ht, hB⟩ := h
  refine ⟨hI, ⟨?_, ?_, ?_, ?_, fun c hc => ?_, fun c hc => ?_⟩, ?_, hs, ht, hB⟩
  · simp [mI_at, x1]
  · simp [mI_at, x2]
  · simp [mI_at, x3]
  · simp [mI_at, x4]
  · simp [mI_at, x5 c hc]
  · simp [mI_at, x6 c hc]
  · simp [mI_at, h4]
theorem endM_spec {Q : Mem → Prop} {el el2 : Nat} {st st2 : Nat → Int} {ov : Bool} {τ : Mem} (h : oM τ n k el ex dr st s to dn) (hq : mq τ P k (dn s)) (hst : stl to dr s n k (qt P k (dn s)) st el st2 el2 ov) (hQ : ∀ τ', oM τ' n k el2 ex dr st2 s to dn → fT τ τ' → τ'.1 0 19 = ovI ov → Q τ') : wp_M_first (fun r71 σ71 => ∃ k75 : Nat, wp_M_endStage_75 Q k75 r71 σ71) (1 : Int32) (1 : Int32) τ := by
  obtain ⟨j1, st1, el1, he1, hle, hc⟩ := hst
  refine firstM_spec (g := fun c => st c = 0) h hq (Or.inl ⟨rfl, fun _ => Iff.rfl⟩) (Or.inr ⟨rfl, fun _ => Iff.rfl⟩) (fun x hx => ⟨j1 + 1, el75_go j1 el st τ x h hq he1 hx (fun τ1 h1 f1 => ?_)⟩)
  have hn := h.1.2.1
  have hk := h.1.2.2.2.1
  have hsum := h1.1.2.2.2.2.2.2.2.2
  have h147 : ∀ τ', oM τ' n k el2 ex dr st2 s to dn → gM τ1 τ' → (ov = true ↔ k ≤ el2 ∨ cnz st2 n = 0) → wp_M_endStage_147 Q τ' := fun τ' h2 f2 hov => by
    have hsum2 := h2.1.2.2.2.2.2.2.2.2
    have hend : ∀ v : Int32, (v = 0 ∨ v = 1) → v = ovI ov → wp_M_endStage_171 Q v τ' := fun v hv e => ⟨hv, fun τ2 e2 => by
      subst e2
      have ff := gM_tr f1 f2
      refine hQ _ (oM_0 h2) ⟨ff.1, fun o o0 o2 => ?_, fun i i5 i19 => ?_⟩ (by rw [mI_at, if_pos ⟨rfl, rfl⟩, e])
      · rw [(mI_ne o o0).1, ff.2.1 o o0 o2]
      · rw [mI_at, if_neg (by omega), ff.2.2 i i5]⟩
    unfold wp_M_endStage_147
    rw [h2.2.1.2.1, h2.2.1.2.2.1, nI_leI (by omega) (by omega)]
    refine ⟨fun q => hend 1 (Or.inr rfl) (by rw [hov.mpr (Or.inl q)]; rfl), fun q => contM_spec h2.1 h2.2.1 ⟨fun w => ?_, fun w => ?_⟩⟩
    · rw [nI_0', nI_eq (by omega) (by decide)] at w
      exact hend 1 (Or.inr rfl) (by rw [hov.mpr (Or.inr w)]; rfl)
    · rw [nI_0', nI_eq (by omega) (by decide)] at w
      refine hend 0 (Or.inl rfl) ?_
      cases ov with
      | false => rfl
      | true =>
        rcases hov.mp rfl with z | z
        · exact absurd z q
        · exact absurd z w
  unfold rM75
  rw [h1.2.1.2.1, h1.2.1.2.2.1, nI_leI (by omega) (by omega)]
  refine ⟨fun q => ?_, fun q => contM_spec h1.1 h1.2.1 ?_⟩
  · rcases hc with ⟨hc, eov, j2, he2⟩ | ⟨hc, e1, e2, hov⟩
    · obtain ⟨e1, e2⟩ := elc_none (by omega) he2
      subst e1
      subst e2
      exact h147 τ1 h1 gM_rf ⟨fun _ => Or.inl q, fun _ => eov⟩
    · subst e1
      subst e2
      exact h147 τ1 h1 gM_rf (hov.trans ⟨fun e => Or.inl (by omega), fun w => by omega⟩)
  · rw [h1.2.1.2.1, nI_add, nI_ltI (by omega) (by omega)]
    rcases hc with ⟨hc, eov, j2, he2⟩ | ⟨hc, e1, e2, hov⟩
    · refine ⟨fun w => absurd w (by omega), fun _ => ?_⟩
      have q1 := mq_f hq f1
      refine firstM_spec (g := fun c => st1 c = 0) (f := fun c => st1 c = 0 ∧ True) h1 q1 (Or.inl ⟨rfl, fun _ => Iff.rfl⟩) (Or.inl ⟨rfl, fun _ => ⟨fun w => w.1, fun w => ⟨w, trivial⟩⟩⟩) (fun x hx => ⟨j2 + 1, el128_go j2 el1 st1 τ1 x h1 q1 he2 hx (fun τ2 h2 f2 => h147 τ2 h2 f2 ⟨fun _ => Or.inr (elc_all he2), fun _ => eov⟩)⟩)
    · refine ⟨fun _ => ?_, fun w => absurd hc w⟩
      subst e1
      subst e2
      exact h147 τ1 h1 gM_rf (hov.trans ⟨fun e => Or.inl (by omega), fun w => by omega⟩)
end ST
