def QX0 : Mem → Prop := fun _ => True
def QM0 : Mem → Prop := fun _ => True
theorem sem_X : ∀ σ : Mem, wp_C_startAnew QX0 2 1 σ := sorry
theorem sem_M : wp_M_clear QM0 2 1 σM0 := sorry
theorem sem_law {xs : Nat → Int32} {L : Nat} (hL : L ≤ 2048) {σ τ : Mem} {ou : Nat → Int64} (h1 : QX0 σ) (h2 : QM0 τ) : ∃ n, n ≤ 1000 ∧ wp_law xs L n 0 σ τ ou := sorry
