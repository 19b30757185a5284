/-! sums; the order of candidates -/
def sm (f : Nat → Nat) : Nat → Nat
  | 0 => 0
  | n + 1 => sm f n + f n
theorem sm_congr {f g : Nat → Nat} : ∀ {n : Nat}, (∀ i, i < n → f i = g i) → sm f n = sm g n
  | 0, _ => rfl
  | n + 1, h => by unfold sm; rw [sm_congr (n := n) (fun i hi => h i (by omega)), h n (by omega)]
theorem sm_add {f g : Nat → Nat} : ∀ {n : Nat}, sm (fun i => f i + g i) n = sm f n + sm g n
  | 0 => rfl
  | n + 1 => by unfold sm; rw [sm_add (n := n)]; omega
theorem sm_mul {f : Nat → Nat} {k : Nat} : ∀ {n : Nat}, sm (fun i => k * f i) n = k * sm f n
  | 0 => rfl
  | n + 1 => by unfold sm; rw [sm_mul (n := n), Nat.mul_add]
theorem sm_le {f g : Nat → Nat} : ∀ {n : Nat}, (∀ i, i < n → f i ≤ g i) → sm f n ≤ sm g n
  | 0, _ => Nat.le_refl _
  | n + 1, h => by unfold sm; exact Nat.add_le_add (sm_le (n := n) (fun i hi => h i (by omega))) (h n (by omega))
theorem sm_one {f : Nat → Nat} {i : Nat} : ∀ {n : Nat}, i < n → f i ≤ sm f n
  | 0, h => absurd h (by omega)
  | n + 1, h => by
    unfold sm
    by_cases hi : i = n
    · subst hi
      omega
    · have := sm_one (f := f) (n := n) (i := i) (by omega)
      omega
theorem sm_zero {f : Nat → Nat} : ∀ {n : Nat}, (∀ i, i < n → f i = 0) → sm f n = 0
  | 0, _ => rfl
  | n + 1, h => by unfold sm; rw [sm_zero (n := n) (fun i hi => h i (by omega)), h n (by omega)]
theorem sm_mono {f : Nat → Nat} {a b : Nat} (h : a ≤ b) : sm f a ≤ sm f b := by
  induction b with
  | zero => rw [show a = 0 by omega]; exact Nat.le_refl _
  | succ b ih =>
    by_cases e : a = b + 1
    · rw [e]; exact Nat.le_refl _
    · show sm f a ≤ sm f b + f b
      have := ih (by omega)
      omega
theorem sm_swap {f : Nat → Nat → Nat} {m : Nat} : ∀ {n : Nat}, sm (fun i => sm (fun j => f i j) m) n = sm (fun j => sm (fun i => f i j) n) m
  | 0 => by
    show 0 = sm (fun j => sm (fun i => f i j) 0) m
    exact (sm_zero (fun _ _ => rfl)).symm
  | n + 1 => by
    show sm (fun i => sm (fun j => f i j) m) n + sm (fun j => f n j) m = sm (fun j => sm (fun i => f i j) n + f n j) m
    rw [sm_add, sm_swap (n := n)]
theorem sm_ind {v w : Nat} : ∀ {n : Nat}, sm (fun i => if w = i then v else 0) n = if w < n then v else 0
  | 0 => rfl
  | n + 1 => by
    unfold sm
    rw [sm_ind (n := n)]
    by_cases h : w = n
    · subst h
      simp
    · by_cases h2 : w < n
      · simp [h, h2, show w < n + 1 by omega]
      · simp [h, h2, show ¬ w < n + 1 by omega]
/-- what of g falls to column c -/
def cs (wb g : Nat → Nat) (B c : Nat) : Nat := sm (fun b => if wb b = c then g b else 0) B
theorem cs_sum {wb g : Nat → Nat} {B n : Nat} : sm (fun c => cs wb g B c) n ≤ sm g B := by
  unfold cs
  rw [sm_swap (f := fun c b => if wb b = c then g b else 0)]
  refine sm_le (fun b _ => ?_)
  rw [sm_ind]
  split <;> omega
theorem cs_sum1 {wb g : Nat → Nat} {B n : Nat} (h : ∀ b, b < B → wb b ≤ n) : sm (fun c => cs wb g B c) (n + 1) = sm g B := by
  unfold cs
  rw [sm_swap (f := fun c b => if wb b = c then g b else 0)]
  refine sm_congr (fun b hb => ?_)
  rw [sm_ind, if_pos (by have := h b hb; omega)]
theorem cs_le {wb g : Nat → Nat} {B c : Nat} : cs wb g B c ≤ sm g B := sm_le (fun b _ => by split <;> omega)
theorem cs_mul {wb g : Nat → Nat} {B c k : Nat} : cs wb (fun b => k * g b) B c = k * cs wb g B c := by
  unfold cs
  rw [← sm_mul]
  exact sm_congr (fun b _ => by split <;> simp)
/-- ahead, over m stages and the draws -/
def ahd (to : Nat → Nat → Nat) (dr : Nat → Nat) : Nat → Nat → Nat → Prop
  | 0, a, b => dr a < dr b
  | m + 1, a, b => to m b < to m a ∨ (to m a = to m b ∧ ahd to dr m a b)
theorem ahd_tr {to : Nat → Nat → Nat} {dr : Nat → Nat} {a b c : Nat} : ∀ {m : Nat}, ahd to dr m a b → ahd to dr m b c → ahd to dr m a c
  | 0, h1, h2 => Nat.lt_trans h1 h2
  | m + 1, h1, h2 => by
    rcases h1 with h1 | ⟨e1, h1⟩
    · rcases h2 with h2 | ⟨e2, h2⟩
      · exact Or.inl (by omega)
      · exact Or.inl (by omega)
    · rcases h2 with h2 | ⟨e2, h2⟩
      · exact Or.inl (by omega)
      · exact Or.inr ⟨by omega, ahd_tr h1 h2⟩
theorem ahd_tot {to : Nat → Nat → Nat} {dr : Nat → Nat} {a b : Nat} (h : dr a ≠ dr b) : ∀ {m : Nat}, ¬ ahd to dr m a b → ahd to dr m b a
  | 0, h1 => by
    have : ¬ dr a < dr b := h1
    show dr b < dr a
    omega
  | m + 1, h1 => by
    by_cases e : to m a = to m b
    · exact Or.inr ⟨e.symm, ahd_tot h (fun q => h1 (Or.inr ⟨e, q⟩))⟩
    · refine Or.inl ?_
      have : ¬ to m b < to m a := fun q => h1 (Or.inl q)
      omega
theorem ahd_irr {to : Nat → Nat → Nat} {dr : Nat → Nat} {a : Nat} : ∀ {m : Nat}, ¬ ahd to dr m a a
  | 0 => fun h => Nat.lt_irrefl _ h
  | m + 1 => fun h => by
    rcases h with h | ⟨-, h⟩
    · omega
    · exact ahd_irr h
theorem ahd_le {to : Nat → Nat → Nat} {dr : Nat → Nat} {a b m : Nat} (h : ahd to dr (m + 1) a b) : to m b ≤ to m a := by
  rcases h with h | ⟨h, -⟩ <;> omega
def bst (to : Nat → Nat → Nat) (dr : Nat → Nat) (m n : Nat) (f : Nat → Prop) (b : Nat) : Prop := b < n ∧ f b ∧ ∀ c, c < n → f c → c ≠ b → ahd to dr m b c
def wst (to : Nat → Nat → Nat) (dr : Nat → Nat) (m n : Nat) (f : Nat → Prop) (b : Nat) : Prop := b < n ∧ f b ∧ ∀ c, c < n → f c → c ≠ b → ahd to dr m c b
def bi (to : Nat → Nat → Nat) (dr : Nat → Nat) (m i : Nat) (f : Nat → Prop) (x : Int32) : Prop := (x = -1 ∧ ∀ c, c < i → ¬ f c) ∨ ∃ b, x = nI b ∧ bst to dr m i f b
def wi (to : Nat → Nat → Nat) (dr : Nat → Nat) (m i : Nat) (f : Nat → Prop) (x : Int32) : Prop := (x = -1 ∧ ∀ c, c < i → ¬ f c) ∨ ∃ b, x = nI b ∧ wst to dr m i f b
theorem bst_uniq {to : Nat → Nat → Nat} {dr : Nat → Nat} {m n : Nat} {f : Nat → Prop} {a b : Nat} (h1 : bst to dr m n f a) (h2 : bst to dr m n f b) : a = b := by
  by_cases h : a = b
  · exact h
  · exact absurd (ahd_tr (h1.2.2 b h2.1 h2.2.1 (fun e => h e.symm)) (h2.2.2 a h1.1 h1.2.1 h)) ahd_irr
theorem wst_uniq {to : Nat → Nat → Nat} {dr : Nat → Nat} {m n : Nat} {f : Nat → Prop} {a b : Nat} (h1 : wst to dr m n f a) (h2 : wst to dr m n f b) : a = b := by
  by_cases h : a = b
  · exact h
  · exact absurd (ahd_tr (h1.2.2 b h2.1 h2.2.1 (fun e => h e.symm)) (h2.2.2 a h1.1 h1.2.1 h)) ahd_irr
theorem bi_skip {to : Nat → Nat → Nat} {dr : Nat → Nat} {m i : Nat} {f : Nat → Prop} {x : Int32} (h : bi to dr m i f x) (hf : ¬ f i) : bi to dr m (i + 1) f x := by
  rcases h with ⟨e, h⟩ | ⟨b, e, h1, h2, h3⟩
  · exact Or.inl ⟨e, fun c hc q => by
      by_cases hi : c = i
      · subst hi
        exact hf q
      · exact h c (by omega) q⟩
  · exact Or.inr ⟨b, e, by omega, h2, fun c hc q hn => by
      by_cases hi : c = i
      · subst hi
        exact absurd q hf
      · exact h3 c (by omega) q hn⟩
theorem bi_new {to : Nat → Nat → Nat} {dr : Nat → Nat} {m i : Nat} {f : Nat → Prop} (h : bi to dr m i f (-1)) (hi : i < 1000) (hf : f i) : bi to dr m (i + 1) f (nI i) := by
  rcases h with ⟨-, h⟩ | ⟨b, e, h1, -⟩
  · exact Or.inr ⟨i, rfl, by omega, hf, fun c hc q hn => absurd q (h c (by omega))⟩
  · exact absurd e.symm (m1_ne (by omega))
theorem bi_take {to : Nat → Nat → Nat} {dr : Nat → Nat} {m i b : Nat} {f : Nat → Prop} (h : bst to dr m i f b) (hf : f i) (ha : ahd to dr m i b) : bi to dr m (i + 1) f (nI i) :=
  Or.inr ⟨i, rfl, by omega, hf, fun c hc q hn => by
    by_cases hcb : c = b
    · subst hcb
      exact ha
    · exact ahd_tr ha (h.2.2 c (by omega) q hcb)⟩
theorem bi_keep {to : Nat → Nat → Nat} {dr : Nat → Nat} {m i b : Nat} {f : Nat → Prop} (h : bst to dr m i f b) (hd : dr i ≠ dr b) (ha : ¬ ahd to dr m i b) : bi to dr m (i + 1) f (nI b) :=
  Or.inr ⟨b, rfl, by have := h.1; omega, h.2.1, fun c hc q hn => by
    by_cases hci : c = i
    · subst hci
      exact ahd_tot hd ha
    · exact h.2.2 c (by omega) q hn⟩
theorem wi_skip {to : Nat → Nat → Nat} {dr : Nat → Nat} {m i : Nat} {f : Nat → Prop} {x : Int32} (h : wi to dr m i f x) (hf : ¬ f i) : wi to dr m (i + 1) f x := by
  rcases h with ⟨e, h⟩ | ⟨b, e, h1, h2, h3⟩
  · exact Or.inl ⟨e, fun c hc q => by
      by_cases hi : c = i
      · subst hi
        exact hf q
      · exact h c (by omega) q⟩
  · exact Or.inr ⟨b, e, by omega, h2, fun c hc q hn => by
      by_cases hi : c = i
      · subst hi
        exact absurd q hf
      · exact h3 c (by omega) q hn⟩
theorem wi_new {to : Nat → Nat → Nat} {dr : Nat → Nat} {m i : Nat} {f : Nat → Prop} (h : wi to dr m i f (-1)) (hi : i < 1000) (hf : f i) : wi to dr m (i + 1) f (nI i) := by
  rcases h with ⟨-, h⟩ | ⟨b, e, h1, -⟩
  · exact Or.inr ⟨i, rfl, by omega, hf, fun c hc q hn => absurd q (h c (by omega))⟩
  · exact absurd e.symm (m1_ne (by omega))
theorem wi_take {to : Nat → Nat → Nat} {dr : Nat → Nat} {m i b : Nat} {f : Nat → Prop} (h : wst to dr m i f b) (hf : f i) (ha : ahd to dr m b i) : wi to dr m (i + 1) f (nI i) :=
  Or.inr ⟨i, rfl, by omega, hf, fun c hc q hn => by
    by_cases hcb : c = b
    · subst hcb
      exact ha
    · exact ahd_tr (h.2.2 c (by omega) q hcb) ha⟩
theorem wi_keep {to : Nat → Nat → Nat} {dr : Nat → Nat} {m i b : Nat} {f : Nat → Prop} (h : wst to dr m i f b) (hd : dr b ≠ dr i) (ha : ¬ ahd to dr m b i) : wi to dr m (i + 1) f (nI b) :=
  Or.inr ⟨b, rfl, by have := h.1; omega, h.2.1, fun c hc q hn => by
    by_cases hci : c = i
    · subst hci
      exact ahd_tot hd ha
    · exact h.2.2 c (by omega) q hn⟩
