/-! The objects of the class and of the reference, by number.
 class: 0 PreferenceCount, 1 Roll (2 draws, 3 standings), 4 Pile (5 rows, 6 counts, 7 holders, 8 values: 9 uppers, 10 lowers), 11 the row of stages;
 stage i: 12 + 5 i (+ 1 totals: + 2 uppers, + 3 lowers; + 4 arrivals). Reference: 0, and its rows 1 to 11. -/
abbrev tyl (cI cL cZ cS : ClassId) : List (ClassId × FieldType) := [(cI, .int), (cL, .long), (cZ, .boolean), (cS, .object "PreferenceCount$Stage")]
def fX (cI cL cS : ClassId) (ad : Nat → Nat) : WF := fun k r q =>
  if k < 12 then match k with
  | 0 => .inr (4, [.ref (ad 1), .ref (ad 4), .ref (ad 11), .int (r 3), .int (r 4), .int (r 5), .long (q 6), .long (q 7)])
  | 1 => .inr (2, [.ref (ad 2), .ref (ad 3), .int (r 2), .int (r 3), .int (r 4)])
  | 2 => .inl (cI, 12, .inl r)
  | 3 => .inl (cI, 12, .inl r)
  | 4 => .inr (1, [.ref (ad 5), .ref (ad 6), .ref (ad 7), .ref (ad 8), .int (r 4), .int (r 5)])
  | 5 => .inl (cL, 50, .inr (.inl q))
  | 6 => .inl (cI, 50, .inl r)
  | 7 => .inl (cI, 50, .inl r)
  | 8 => .inr (0, [.ref (ad 9), .ref (ad 10)])
  | 9 => .inl (cL, 50, .inr (.inl q))
  | 10 => .inl (cL, 50, .inr (.inl q))
  | _ => .inl (cS, 13, .inr (.inr (.inr (.inr (fun i => some (ad (12 + 5 * i)))))))
  else match (k - 12) % 5 with
  | 0 => .inr (3, [.ref (ad (k + 1)), .ref (ad (k + 4))])
  | 1 => .inr (0, [.ref (ad (k + 1)), .ref (ad (k + 2))])
  | 2 => .inl (cL, 13, .inr (.inl q))
  | 3 => .inl (cL, 13, .inr (.inl q))
  | _ => .inl (cI, 13, .inl r)
def fM (cI cL cZ : ClassId) (ad : Nat → Nat) : WF := fun k r q => match k with
  | 0 => .inr (5, [.int (r 0), .int (r 1), .int (r 2), .ref (ad 1), .ref (ad 2), .int (r 5), .int (r 6), .int (r 7), .ref (ad 3), .ref (ad 4), .ref (ad 5), .ref (ad 6), .ref (ad 7), .ref (ad 8), .long (q 14), .int (r 15), .ref (ad 9), .ref (ad 10), .ref (ad 11), .int (r 19)])
  | 1 => .inl (cI, 12, .inl r)
  | 2 => .inl (cI, 12, .inl r)
  | 3 => .inl (cI, 350, .inl r)
  | 4 => .inl (cI, 50, .inl r)
  | 5 => .inl (cI, 50, .inl r)
  | 6 => .inl (cI, 50, .inl r)
  | 7 => .inl (cL, 50, .inr (.inl q))
  | 8 => .inl (cZ, 12, .inl r)
  | 9 => .inl (cL, 260, .inr (.inl q))
  | 10 => .inl (cL, 20, .inr (.inl q))
  | _ => .inl (cI, 260, .inl r)
def isFr (o : Nat) : Prop := o = 8 ∨ (13 ≤ o ∧ o < 77 ∧ (o - 13) % 5 = 0)
def frLen (o : Nat) : Nat := if o = 8 then 50 else 13
def isSt (o : Nat) : Prop := 12 ≤ o ∧ o < 77 ∧ (o - 12) % 5 = 0
theorem fr_8 : isFr 8 := Or.inl rfl
theorem fr_lt {o : Nat} (h : isFr o) : o < 77 := by rcases h with rfl | h <;> omega
theorem fr_lt1 {o : Nat} (h : isFr o) : o + 1 < 77 := by rcases h with rfl | h <;> omega
theorem fr_lt2 {o : Nat} (h : isFr o) : o + 2 < 77 := by rcases h with rfl | h <;> omega
section
variable {cI cL cS : ClassId} {ad : Nat → Nat} {o : Nat}
theorem fr_cell (h : isFr o) (r : Nat → Int32) (q : Nat → Int64) : fX cI cL cS ad o r q = .inr (0, [.ref (ad (o + 1)), .ref (ad (o + 2))]) := by
  rcases h with rfl | ⟨h1, h2, h3⟩
  · rfl
  · have e : (o - 12) % 5 = 1 := by omega
    simp only [fX, e, if_neg (show ¬ o < 12 by omega)]
theorem fr_cell1 (h : isFr o) (r : Nat → Int32) (q : Nat → Int64) : fX cI cL cS ad (o + 1) r q = .inl (cL, frLen o, .inr (.inl q)) := by
  rcases h with rfl | ⟨h1, h2, h3⟩
  · rfl
  · have e : (o + 1 - 12) % 5 = 2 := by omega
    simp only [fX, e, if_neg (show ¬ o + 1 < 12 by omega), frLen, if_neg (show ¬ o = 8 by omega)]
theorem fr_cell2 (h : isFr o) (r : Nat → Int32) (q : Nat → Int64) : fX cI cL cS ad (o + 2) r q = .inl (cL, frLen o, .inr (.inl q)) := by
  rcases h with rfl | ⟨h1, h2, h3⟩
  · rfl
  · have e : (o + 2 - 12) % 5 = 3 := by omega
    simp only [fX, e, if_neg (show ¬ o + 2 < 12 by omega), frLen, if_neg (show ¬ o = 8 by omega)]
theorem st_lt (h : isSt o) : o < 77 := h.2.1
theorem st_lt4 (h : isSt o) : o + 4 < 77 := by obtain ⟨h1, h2, h3⟩ := h; omega
theorem st_fr (h : isSt o) : isFr (o + 1) := by obtain ⟨h1, h2, h3⟩ := h; exact Or.inr ⟨by omega, by omega, by omega⟩
theorem st_cell (h : isSt o) (r : Nat → Int32) (q : Nat → Int64) : fX cI cL cS ad o r q = .inr (3, [.ref (ad (o + 1)), .ref (ad (o + 4))]) := by
  obtain ⟨h1, h2, h3⟩ := h
  simp only [fX, h3, if_neg (show ¬ o < 12 by omega)]
theorem st_cell4 (h : isSt o) (r : Nat → Int32) (q : Nat → Int64) : fX cI cL cS ad (o + 4) r q = .inl (cI, 13, .inl r) := by
  obtain ⟨h1, h2, h3⟩ := h
  have e : (o + 4 - 12) % 5 = 4 := by omega
  simp only [fX, e, if_neg (show ¬ o + 4 < 12 by omega)]
theorem st_in {i : Int32} (h : vp_in i 13) : isSt (12 + 5 * i.toNatClampNeg) := by
  have hlt : i.toNatClampNeg < 13 := Nat.not_le.mp fun q => h (Or.inr q)
  exact ⟨by omega, by omega, by omega⟩
end
theorem nar_b {v : Int32} (h : v = 0 ∨ v = 1) : narrow .boolean (.int v) = .int v := by rcases h with rfl | rfl <;> decide
theorem fit_b {v : Int32} (h : v = 0 ∨ v = 1) : fits .boolean (.int v) = true := by rcases h with rfl | rfl <;> decide
theorem sw_ne {x k : Int32} {z : Int} (h : ¬ x = k) (hz : k.toInt = z) : x.toInt ≠ z := fun e => h (Int32.toInt_inj.mp (e.trans hz.symm))
theorem sw_out8 {x : Int32} (h0 : ¬ x = 0) (h1 : ¬ x = 1) (h2 : ¬ x = 2) (h3 : ¬ x = 3) (h4 : ¬ x = 4) (h5 : ¬ x = 5) (h6 : ¬ x = 6) (h7 : ¬ x = 7) : x.toInt < 0 ∨ 7 < x.toInt := by
  have a0 := sw_ne (z := 0) h0 (by decide)
  have a1 := sw_ne (z := 1) h1 (by decide)
  have a2 := sw_ne (z := 2) h2 (by decide)
  have a3 := sw_ne (z := 3) h3 (by decide)
  have a4 := sw_ne (z := 4) h4 (by decide)
  have a5 := sw_ne (z := 5) h5 (by decide)
  have a6 := sw_ne (z := 6) h6 (by decide)
  have a7 := sw_ne (z := 7) h7 (by decide)
  omega
