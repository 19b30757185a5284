def rm_A_fillI : Room := { frames := 0, cells := 0, slots := 0, locals := 0 }
set_option maxHeartbeats 4000000 in
set_option maxRecDepth 100000 in
theorem b_A_fillI_5 {p : Program} {l : Launch} {e : Env} {s : State} {m : MethodId} {args : Array Value} {below : List Frame} {meth : Method} {c : Code} {D : va_G} {cI cL cZ cS : ClassId} {ad : Nat → Nat} {wr : va_W} {A : Nat → Prop} {Q : Mem → Prop} {nn : Nat} {ff : WF} {a0 : Nat} {na0 : Nat} (C : wC TB "java/util/Arrays" c_A_fillI 4 none D cls (tyl cI cL cZ cS) A p s m args meth c) (hla0 : a0 < nn) (hca0 : ∀ r q, ff a0 r q = .inl (cI, na0, .inl r)) : ∀ (n : Nat) {σ : Mem} {H : Heap} {locs : List Loc} {ls : Array Slot} {x1 : Int32} {x2 : Int32} {x3 : Int32}, wp_A_fillI_5 Q a0 na0 n x1 x2 x3 σ → lv_has ls 4 [(0, .ref (ad a0)), (1, .int x1), (2, .int x2), (3, .int x3)] → va_P D cls (wW nn ff ad σ ++ wr) H → va_D A (wW nn ff ad σ ++ wr) → va_S A s.heap H locs → W p l e (headSpec (Cond.code y_A_fillI c_A_fillI 4 none :: TB) rm_A_fillI).room s m args below meth c H locs 0 0 (MQ below (va_Qv Q (wB D cls (tyl cI cL cZ cS) nn ff ad wr A) A) args s 0 0 A) (F0 m 5 ls []) := by
  have hx := C.1
  have hb := C.2.1
  have hts := C.2.2.2.2.1
  have hown := C.2.2.2.2.2.1
  have hml := C.2.2.2.2.2.2.1
  intro n
  induction n with
  | zero => intro σ H locs ls x1 x2 x3 h; exact h.elim
  | succ j5 ih =>
    intro σ H locs ls x1 x2 x3 h hl hP hD hS
    have hK5 := @ih
    have h : (x3 ≤ x2 → (Q σ)) ∧ (¬ x3 ≤ x2 → (vp_in x2 na0 ∧ (∀ σ13 : Mem, σ13 = mI σ a0 (Int32.toNatClampNeg x2) x1 → (∀ v14 : Int32, v14 = (x2 + 1) → ((wp_A_fillI_5 Q a0 na0 j5) x1 v14 x3 σ13))))) := h
    refine lv_iload_n hx hb d_A_fillI_5 rfl (lv_at hl 2 rfl) ?_
    refine lv_iload_n hx hb d_A_fillI_6 rfl (lv_at hl 3 rfl) ?_
    refine lv_icmp_ge hx hb d_A_fillI_7 rfl (fun hc7 => ?_) (fun hc7 => ?_)
    · have h := h.1 hc7
      exact r_vret C hP hD hS d_A_fillI_20 h
    · have h := h.2 hc7
      refine lv_aload_n hx hb d_A_fillI_10 rfl (lv_at hl 0 rfl) ?_
      refine lv_iload_n hx hb d_A_fillI_11 rfl (lv_at hl 2 rfl) ?_
      refine lv_iload_n hx hb d_A_fillI_12 rfl (lv_at hl 1 rfl) ?_
      obtain ⟨hi13, h⟩ := h
      refine r_iast C hP hD hS hla0 (hca0) rfl hi13 d_A_fillI_13 (fun σ13 e13 H locs hP hD hS => ?_)
      have h := h σ13 e13
      obtain ⟨v14, e14⟩ : ∃ z : Int32, z = (x2 + 1) := ⟨_, rfl⟩
      have h := h v14 e14
      refine lv_iinc (k := 2) (v := v14) (lv' := [(2, .int v14), (0, .ref (ad a0)), (1, .int x1), (3, .int x3)]) hx hb d_A_fillI_14 hl rfl (by rw [e14] <;> rfl) (by decide) rfl (fun ls hl => ?_)
      refine lv_goto hx hb d_A_fillI_17 rfl ?_
      exact hK5 h (lv_sub hl [1, 2, 0, 3] rfl) hP hD hS
set_option maxHeartbeats 4000000 in
set_option maxRecDepth 100000 in
theorem m_A_fillI {l : Launch} {D : va_G} {cI cL cZ cS : ClassId} {ad : Nat → Nat} {wr : va_W} {sz : Nat} {Q : Mem → Prop} {nn : Nat} {ff : WF} {a0 : Nat} {na0 : Nat} {x1 : Int32} {σ : Mem} (hla0 : a0 < nn) (hca0 : ∀ r q, ff a0 r q = .inl (cI, na0, .inl r)) (h : wp_A_fillI Q a0 na0 x1 σ) : Met l y_A_fillI (Cond.code y_A_fillI c_A_fillI 4 none :: TB) rm_A_fillI (wPc D cls (tyl cI cL cZ cS) nn ff ad wr sz σ [.ref (ad a0), .int x1]) (va_Qv Q (wB D cls (tyl cI cL cZ cS) nn ff ad wr (wA nn ff ad wr sz σ)) (wA nn ff ad wr sz σ)) 0 0 (wA nn ff ad wr sz σ) := by
  refine Met.ofW (cc := c_A_fillI) (maxL := 4) (ret := none) (by decide) rfl ?_
  intro p e s m args below meth c s₁ B hml hv
  obtain ⟨rfl, hsz, hP, hK, hD0, hN⟩ := hv
  subst hsz
  have hD : va_D (wA nn ff ad wr s.heap.size σ) (wW nn ff ad σ ++ wr) := hD0.self (sz := s.heap.size)
  have hA : ∀ q : Nat, s.heap.size ≤ q → (wA nn ff ad wr s.heap.size σ) q := fun q h => Or.inr h
  have hN : NX (wA nn ff ad wr s.heap.size σ) s s.heap := hN
  generalize (wA nn ff ad wr s.heap.size σ) = A at hD hA hN ⊢
  have C : wC TB "java/util/Arrays" c_A_fillI 4 none D cls (tyl cI cL cZ cS) A p s m ([.ref (ad a0), .int x1].toArray) meth c := ⟨B.exec, B.bytes, B.returns, B.notSynchronized, fun w hw => atoms_spec (ws := Cond.code y_A_fillI c_A_fillI 4 none :: TB) B.pre w (List.mem_cons_of_mem _ hw), findClass_of_methodNamed B.named, hml, hK, hN, hA⟩
  have hx := C.1
  have hb := C.2.1
  have hts := C.2.2.2.2.1
  have hown := C.2.2.2.2.2.1
  have hS : va_S A s.heap s.heap [] := va_S.rf
  have hl := lv_entry ([.ref (ad a0), .int x1]) (n := 4) (Nat.le_of_ble_eq_true rfl)
  rw [lg_entry_eq]
  generalize (lg_sl ([.ref (ad a0), .int x1]) ++ List.replicate (4 - (lg_sl ([.ref (ad a0), .int x1])).length) Slot.unset).toArray = ls at hl ⊢
  have hl : lv_has ls 4 [(0, .ref (ad a0)), (1, .int x1)] := hl
  have h : ∀ v4 : Int32, v4 = (Int32.ofNat na0) → (∃ k5 : Nat, wp_A_fillI_5 Q a0 na0 k5 x1 (0 : Int32) v4 σ) := h
  refine lv_iconst (v := 0) hx hb d_A_fillI_0 (by decide) ?_
  refine lv_istore_n (lv' := [(2, .int (0 : Int32)), (0, .ref (ad a0)), (1, .int x1)]) hx hb d_A_fillI_1 rfl hl (by decide) rfl (fun ls hl => ?_)
  refine lv_aload_n hx hb d_A_fillI_2 rfl (lv_at hl 1 rfl) ?_
  refine r_alen C hP hla0 (hca0 _ _) 0 rfl d_A_fillI_3 ?_
  refine lv_topi (fun v4 e4 => ?_)
  have h := h v4 e4
  refine lv_istore_n (lv' := [(3, .int v4), (2, .int (0 : Int32)), (0, .ref (ad a0)), (1, .int x1)]) hx hb d_A_fillI_4 rfl hl (by decide) rfl (fun ls hl => ?_)
  obtain ⟨n, h⟩ := h
  exact b_A_fillI_5 C hla0 hca0 n h (lv_sub hl [2, 3, 1, 0] rfl) hP hD hS
def rm_A_fillJ : Room := { frames := 0, cells := 0, slots := 0, locals := 0 }
set_option maxHeartbeats 4000000 in
set_option maxRecDepth 100000 in
theorem b_A_fillJ_6 {p : Program} {l : Launch} {e : Env} {s : State} {m : MethodId} {args : Array Value} {below : List Frame} {meth : Method} {c : Code} {D : va_G} {cI cL cZ cS : ClassId} {ad : Nat → Nat} {wr : va_W} {A : Nat → Prop} {Q : Mem → Prop} {nn : Nat} {ff : WF} {a0 : Nat} {na0 : Nat} (C : wC TB "java/util/Arrays" c_A_fillJ 5 none D cls (tyl cI cL cZ cS) A p s m args meth c) (hla0 : a0 < nn) (hca0 : ∀ r q, ff a0 r q = .inl (cL, na0, .inr (.inl q))) : ∀ (n : Nat) {σ : Mem} {H : Heap} {locs : List Loc} {ls : Array Slot} {y1 : Int64} {x3 : Int32} {x4 : Int32}, wp_A_fillJ_6 Q a0 na0 n y1 x3 x4 σ → lv_has ls 5 [(0, .ref (ad a0)), (1, .long y1), (3, .int x3), (4, .int x4)] → va_P D cls (wW nn ff ad σ ++ wr) H → va_D A (wW nn ff ad σ ++ wr) → va_S A s.heap H locs → W p l e (headSpec (Cond.code y_A_fillJ c_A_fillJ 5 none :: TB) rm_A_fillJ).room s m args below meth c H locs 0 0 (MQ below (va_Qv Q (wB D cls (tyl cI cL cZ cS) nn ff ad wr A) A) args s 0 0 A) (F0 m 6 ls []) := by
  have hx := C.1
  have hb := C.2.1
  have hts := C.2.2.2.2.1
  have hown := C.2.2.2.2.2.1
  have hml := C.2.2.2.2.2.2.1
  intro n
  induction n with
  | zero => intro σ H locs ls y1 x3 x4 h; exact h.elim
  | succ j6 ih =>
    intro σ H locs ls y1 x3 x4 h hl hP hD hS
    have hK6 := @ih
    have h : (x4 ≤ x3 → (Q σ)) ∧ (¬ x4 ≤ x3 → (vp_in x3 na0 ∧ (∀ σ15 : Mem, σ15 = mL σ a0 (Int32.toNatClampNeg x3) y1 → (∀ v16 : Int32, v16 = (x3 + 1) → ((wp_A_fillJ_6 Q a0 na0 j6) y1 v16 x4 σ15))))) := h
    refine lv_iload_n hx hb d_A_fillJ_6 rfl (lv_at hl 2 rfl) ?_
    refine lv_iload hx hb d_A_fillJ_7 (lv_at hl 3 rfl) ?_
    refine lv_icmp_ge hx hb d_A_fillJ_9 rfl (fun hc9 => ?_) (fun hc9 => ?_)
    · have h := h.1 hc9
      exact r_vret C hP hD hS d_A_fillJ_22 h
    · have h := h.2 hc9
      refine lv_aload_n hx hb d_A_fillJ_12 rfl (lv_at hl 0 rfl) ?_
      refine lv_iload_n hx hb d_A_fillJ_13 rfl (lv_at hl 2 rfl) ?_
      refine lv_lload_n hx hb d_A_fillJ_14 rfl (lv_at hl 1 rfl) ?_
      obtain ⟨hi15, h⟩ := h
      refine r_last C hP hD hS hla0 (hca0) rfl hi15 d_A_fillJ_15 (fun σ15 e15 H locs hP hD hS => ?_)
      have h := h σ15 e15
      obtain ⟨v16, e16⟩ : ∃ z : Int32, z = (x3 + 1) := ⟨_, rfl⟩
      have h := h v16 e16
      refine lv_iinc (k := 2) (v := v16) (lv' := [(3, .int v16), (0, .ref (ad a0)), (1, .long y1), (4, .int x4)]) hx hb d_A_fillJ_16 hl rfl (by rw [e16] <;> rfl) (by decide) rfl (fun ls hl => ?_)
      refine lv_goto hx hb d_A_fillJ_19 rfl ?_
      exact hK6 h (lv_sub hl [1, 2, 0, 3] rfl) hP hD hS
set_option maxHeartbeats 4000000 in
set_option maxRecDepth 100000 in
theorem m_A_fillJ {l : Launch} {D : va_G} {cI cL cZ cS : ClassId} {ad : Nat → Nat} {wr : va_W} {sz : Nat} {Q : Mem → Prop} {nn : Nat} {ff : WF} {a0 : Nat} {na0 : Nat} {y1 : Int64} {σ : Mem} (hla0 : a0 < nn) (hca0 : ∀ r q, ff a0 r q = .inl (cL, na0, .inr (.inl q))) (h : wp_A_fillJ Q a0 na0 y1 σ) : Met l y_A_fillJ (Cond.code y_A_fillJ c_A_fillJ 5 none :: TB) rm_A_fillJ (wPc D cls (tyl cI cL cZ cS) nn ff ad wr sz σ [.ref (ad a0), .long y1]) (va_Qv Q (wB D cls (tyl cI cL cZ cS) nn ff ad wr (wA nn ff ad wr sz σ)) (wA nn ff ad wr sz σ)) 0 0 (wA nn ff ad wr sz σ) := by
  refine Met.ofW (cc := c_A_fillJ) (maxL := 5) (ret := none) (by decide) rfl ?_
  intro p e s m args below meth c s₁ B hml hv
  obtain ⟨rfl, hsz, hP, hK, hD0, hN⟩ := hv
  subst hsz
  have hD : va_D (wA nn ff ad wr s.heap.size σ) (wW nn ff ad σ ++ wr) := hD0.self (sz := s.heap.size)
  have hA : ∀ q : Nat, s.heap.size ≤ q → (wA nn ff ad wr s.heap.size σ) q := fun q h => Or.inr h
  have hN : NX (wA nn ff ad wr s.heap.size σ) s s.heap := hN
  generalize (wA nn ff ad wr s.heap.size σ) = A at hD hA hN ⊢
  have C : wC TB "java/util/Arrays" c_A_fillJ 5 none D cls (tyl cI cL cZ cS) A p s m ([.ref (ad a0), .long y1].toArray) meth c := ⟨B.exec, B.bytes, B.returns, B.notSynchronized, fun w hw => atoms_spec (ws := Cond.code y_A_fillJ c_A_fillJ 5 none :: TB) B.pre w (List.mem_cons_of_mem _ hw), findClass_of_methodNamed B.named, hml, hK, hN, hA⟩
  have hx := C.1
  have hb := C.2.1
  have hts := C.2.2.2.2.1
  have hown := C.2.2.2.2.2.1
  have hS : va_S A s.heap s.heap [] := va_S.rf
  have hl := lv_entry ([.ref (ad a0), .long y1]) (n := 5) (Nat.le_of_ble_eq_true rfl)
  rw [lg_entry_eq]
  generalize (lg_sl ([.ref (ad a0), .long y1]) ++ List.replicate (5 - (lg_sl ([.ref (ad a0), .long y1])).length) Slot.unset).toArray = ls at hl ⊢
  have hl : lv_has ls 5 [(0, .ref (ad a0)), (1, .long y1)] := hl
  have h : ∀ v4 : Int32, v4 = (Int32.ofNat na0) → (∃ k6 : Nat, wp_A_fillJ_6 Q a0 na0 k6 y1 (0 : Int32) v4 σ) := h
  refine lv_iconst (v := 0) hx hb d_A_fillJ_0 (by decide) ?_
  refine lv_istore_n (lv' := [(3, .int (0 : Int32)), (0, .ref (ad a0)), (1, .long y1)]) hx hb d_A_fillJ_1 rfl hl (by decide) rfl (fun ls hl => ?_)
  refine lv_aload_n hx hb d_A_fillJ_2 rfl (lv_at hl 1 rfl) ?_
  refine r_alen C hP hla0 (hca0 _ _) 1 rfl d_A_fillJ_3 ?_
  refine lv_topi (fun v4 e4 => ?_)
  have h := h v4 e4
  refine lv_istore (lv' := [(4, .int v4), (3, .int (0 : Int32)), (0, .ref (ad a0)), (1, .long y1)]) hx hb d_A_fillJ_4 hl (by decide) rfl (fun ls hl => ?_)
  obtain ⟨n, h⟩ := h
  exact b_A_fillJ_6 C hla0 hca0 n h (lv_sub hl [2, 3, 1, 0] rfl) hP hD hS
def rm_G_compare : Room := { frames := 0, cells := 0, slots := 0, locals := 0 }
set_option maxHeartbeats 4000000 in
set_option maxRecDepth 100000 in
theorem b_G_compare_21 {p : Program} {l : Launch} {e : Env} {s : State} {m : MethodId} {args : Array Value} {below : List Frame} {meth : Method} {c : Code} {D : va_G} {cI cL cZ cS : ClassId} {ad : Nat → Nat} {wr : va_W} {A : Nat → Prop} {Q : Int32 → Mem → Prop} {t0 : Int32} {σ : Mem} {H : Heap} {locs : List Loc} {ls : Array Slot} (C : wC TB "java/lang/Long" c_G_compare 4 (some .int) D cls (tyl cI cL cZ cS) A p s m args meth c) (h : wp_G_compare_21 Q t0 σ) (hl : lv_has ls 4 []) (hP : va_P D cls (wW 77 (fX cI cL cS ad) ad σ ++ wr) H) (hD : va_D A (wW 77 (fX cI cL cS ad) ad σ ++ wr)) (hS : va_S A s.heap H locs) : W p l e (headSpec (Cond.code y_G_compare c_G_compare 4 (some .int) :: TB) rm_G_compare).room s m args below meth c H locs 0 0 (MQ below (va_Qi Q (wB D cls (tyl cI cL cZ cS) 77 (fX cI cL cS ad) ad wr A) A) args s 0 0 A) (F0 m 21 ls [.int t0]) := by
  have hx := C.1
  have hb := C.2.1
  have hts := C.2.2.2.2.1
  have hown := C.2.2.2.2.2.1
  have hml := C.2.2.2.2.2.2.1
  have h : Q t0 σ := h
  exact r_iret C hP hD hS d_G_compare_21 h
set_option maxHeartbeats 4000000 in
set_option maxRecDepth 100000 in
theorem m_G_compare {l : Launch} {D : va_G} {cI cL cZ cS : ClassId} {ad : Nat → Nat} {wr : va_W} {sz : Nat} {Q : Int32 → Mem → Prop} {y0 : Int64} {y2 : Int64} {σ : Mem} (h : wp_G_compare Q y0 y2 σ) : Met l y_G_compare (Cond.code y_G_compare c_G_compare 4 (some .int) :: TB) rm_G_compare (wPc D cls (tyl cI cL cZ cS) 77 (fX cI cL cS ad) ad wr sz σ [.long y0, .long y2]) (va_Qi Q (wB D cls (tyl cI cL cZ cS) 77 (fX cI cL cS ad) ad wr (wA 77 (fX cI cL cS ad) ad wr sz σ)) (wA 77 (fX cI cL cS ad) ad wr sz σ)) 0 0 (wA 77 (fX cI cL cS ad) ad wr sz σ) := by
  refine Met.ofW (cc := c_G_compare) (maxL := 4) (ret := (some .int)) (by decide) rfl ?_
  intro p e s m args below meth c s₁ B hml hv
  obtain ⟨rfl, hsz, hP, hK, hD0, hN⟩ := hv
  subst hsz
  have hD : va_D (wA 77 (fX cI cL cS ad) ad wr s.heap.size σ) (wW 77 (fX cI cL cS ad) ad σ ++ wr) := hD0.self (sz := s.heap.size)
  have hA : ∀ q : Nat, s.heap.size ≤ q → (wA 77 (fX cI cL cS ad) ad wr s.heap.size σ) q := fun q h => Or.inr h
  have hN : NX (wA 77 (fX cI cL cS ad) ad wr s.heap.size σ) s s.heap := hN
  generalize (wA 77 (fX cI cL cS ad) ad wr s.heap.size σ) = A at hD hA hN ⊢
  have C : wC TB "java/lang/Long" c_G_compare 4 (some .int) D cls (tyl cI cL cZ cS) A p s m ([.long y0, .long y2].toArray) meth c := ⟨B.exec, B.bytes, B.returns, B.notSynchronized, fun w hw => atoms_spec (ws := Cond.code y_G_compare c_G_compare 4 (some .int) :: TB) B.pre w (List.mem_cons_of_mem _ hw), findClass_of_methodNamed B.named, hml, hK, hN, hA⟩
  have hx := C.1
  have hb := C.2.1
  have hts := C.2.2.2.2.1
  have hown := C.2.2.2.2.2.1
  have hS : va_S A s.heap s.heap [] := va_S.rf
  have hl := lv_entry ([.long y0, .long y2]) (n := 4) (Nat.le_of_ble_eq_true rfl)
  rw [lg_entry_eq]
  generalize (lg_sl ([.long y0, .long y2]) ++ List.replicate (4 - (lg_sl ([.long y0, .long y2])).length) Slot.unset).toArray = ls at hl ⊢
  have hl : lv_has ls 4 [(0, .long y0), (2, .long y2)] := hl
  have h : (0 ≤ (lg_cmp y0 y2) → (((lg_cmp y0 y2) = 0 → (wp_G_compare_21 Q (0 : Int32) σ)) ∧ (¬ (lg_cmp y0 y2) = 0 → (wp_G_compare_21 Q (1 : Int32) σ)))) ∧ (¬ 0 ≤ (lg_cmp y0 y2) → (wp_G_compare_21 Q (-1 : Int32) σ)) := h
  refine lv_lload_n hx hb d_G_compare_0 rfl (lv_at hl 0 rfl) ?_
  refine lv_lload_n hx hb d_G_compare_1 rfl (lv_at hl 1 rfl) ?_
  refine W.lcmp hx hb d_G_compare_2 ?_
  refine lv_if_ge hx hb d_G_compare_3 rfl (fun hc3 => ?_) (fun hc3 => ?_)
  · have h := h.1 hc3
    refine lv_lload_n hx hb d_G_compare_10 rfl (lv_at hl 0 rfl) ?_
    refine lv_lload_n hx hb d_G_compare_11 rfl (lv_at hl 1 rfl) ?_
    refine W.lcmp hx hb d_G_compare_12 ?_
    refine lv_if_ne hx hb d_G_compare_13 rfl (fun hc13 => ?_) (fun hc13 => ?_)
    · have h := h.2 hc13
      refine lv_iconst (v := 1) hx hb d_G_compare_20 (by decide) ?_
      exact b_G_compare_21 C h (lv_sub hl [] rfl) hP hD hS
    · have h := h.1 hc13
      refine lv_iconst (v := 0) hx hb d_G_compare_16 (by decide) ?_
      refine lv_goto hx hb d_G_compare_17 rfl ?_
      exact b_G_compare_21 C h (lv_sub hl [] rfl) hP hD hS
  · have h := h.2 hc3
    refine lv_iconst (v := (-1)) hx hb d_G_compare_6 (by decide) ?_
    refine lv_goto hx hb d_G_compare_7 rfl ?_
    exact b_G_compare_21 C h (lv_sub hl [] rfl) hP hD hS
def rm_C_commonDivisor : Room := { frames := 0, cells := 0, slots := 0, locals := 0 }
set_option maxHeartbeats 4000000 in
set_option maxRecDepth 100000 in
theorem b_C_commonDivisor_57 {p : Program} {l : Launch} {e : Env} {s : State} {m : MethodId} {args : Array Value} {below : List Frame} {meth : Method} {c : Code} {D : va_G} {cI cL cZ cS : ClassId} {ad : Nat → Nat} {wr : va_W} {A : Nat → Prop} {Q : Int64 → Mem → Prop} {u0 : Int64} {σ : Mem} {H : Heap} {locs : List Loc} {ls : Array Slot} (C : wC TB "PreferenceCount" c_C_commonDivisor 11 (some .long) D cls (tyl cI cL cZ cS) A p s m args meth c) (h : wp_C_commonDivisor_57 Q u0 σ) (hl : lv_has ls 11 []) (hP : va_P D cls (wW 77 (fX cI cL cS ad) ad σ ++ wr) H) (hD : va_D A (wW 77 (fX cI cL cS ad) ad σ ++ wr)) (hS : va_S A s.heap H locs) : W p l e (headSpec (Cond.code y_C_commonDivisor c_C_commonDivisor 11 (some .long) :: TB) rm_C_commonDivisor).room s m args below meth c H locs 0 0 (MQ below (va_Ql Q (wB D cls (tyl cI cL cZ cS) 77 (fX cI cL cS ad) ad wr A) A) args s 0 0 A) (F0 m 57 ls [.long u0]) := by
  have hx := C.1
  have hb := C.2.1
  have hts := C.2.2.2.2.1
  have hown := C.2.2.2.2.2.1
  have hml := C.2.2.2.2.2.2.1
  have h : Q u0 σ := h
  exact r_lret C hP hD hS d_C_commonDivisor_57 h
set_option maxHeartbeats 4000000 in
set_option maxRecDepth 100000 in
theorem b_C_commonDivisor_44 {p : Program} {l : Launch} {e : Env} {s : State} {m : MethodId} {args : Array Value} {below : List Frame} {meth : Method} {c : Code} {D : va_G} {cI cL cZ cS : ClassId} {ad : Nat → Nat} {wr : va_W} {A : Nat → Prop} {Q : Int64 → Mem → Prop} {y4 : Int64} {σ : Mem} {H : Heap} {locs : List Loc} {ls : Array Slot} (C : wC TB "PreferenceCount" c_C_commonDivisor 11 (some .long) D cls (tyl cI cL cZ cS) A p s m args meth c) (h : wp_C_commonDivisor_44 Q y4 σ) (hl : lv_has ls 11 [(4, .long y4)]) (hP : va_P D cls (wW 77 (fX cI cL cS ad) ad σ ++ wr) H) (hD : va_D A (wW 77 (fX cI cL cS ad) ad σ ++ wr)) (hS : va_S A s.heap H locs) : W p l e (headSpec (Cond.code y_C_commonDivisor c_C_commonDivisor 11 (some .long) :: TB) rm_C_commonDivisor).room s m args below meth c H locs 0 0 (MQ below (va_Ql Q (wB D cls (tyl cI cL cZ cS) 77 (fX cI cL cS ad) ad wr A) A) args s 0 0 A) (F0 m 44 ls []) := by
  have hx := C.1
  have hb := C.2.1
  have hts := C.2.2.2.2.1
  have hown := C.2.2.2.2.2.1
  have hml := C.2.2.2.2.2.2.1
  have h : ((lg_cmp y4 (0 : Int64)) = 0 → (wp_C_commonDivisor_57 Q (1 : Int64) σ)) ∧ (¬ (lg_cmp y4 (0 : Int64)) = 0 → (wp_C_commonDivisor_57 Q y4 σ)) := h
  refine lv_lload hx hb d_C_commonDivisor_44 (lv_at hl 0 rfl) ?_
  refine lv_lconst (v := 0) hx hb d_C_commonDivisor_46 (by decide) ?_
  refine W.lcmp hx hb d_C_commonDivisor_47 ?_
  refine lv_if_ne hx hb d_C_commonDivisor_48 rfl (fun hc48 => ?_) (fun hc48 => ?_)
  · have h := h.2 hc48
    refine lv_lload hx hb d_C_commonDivisor_55 (lv_at hl 0 rfl) ?_
    exact b_C_commonDivisor_57 C h (lv_sub hl [] rfl) hP hD hS
  · have h := h.1 hc48
    refine lv_lconst (v := 1) hx hb d_C_commonDivisor_51 (by decide) ?_
    refine lv_goto hx hb d_C_commonDivisor_52 rfl ?_
    exact b_C_commonDivisor_57 C h (lv_sub hl [] rfl) hP hD hS
set_option maxHeartbeats 4000000 in
set_option maxRecDepth 100000 in
theorem b_C_commonDivisor_9 {p : Program} {l : Launch} {e : Env} {s : State} {m : MethodId} {args : Array Value} {below : List Frame} {meth : Method} {c : Code} {D : va_G} {cI cL cZ cS : ClassId} {ad : Nat → Nat} {wr : va_W} {A : Nat → Prop} {Q : Int64 → Mem → Prop} (C : wC TB "PreferenceCount" c_C_commonDivisor 11 (some .long) D cls (tyl cI cL cZ cS) A p s m args meth c) : ∀ (n : Nat) {σ : Mem} {H : Heap} {locs : List Loc} {ls : Array Slot} {y4 : Int64} {y6 : Int64} {x8 : Int32}, wp_C_commonDivisor_9 Q n y4 y6 x8 σ → lv_has ls 11 [(4, .long y4), (6, .long y6), (8, .int x8)] → va_P D cls (wW 77 (fX cI cL cS ad) ad σ ++ wr) H → va_D A (wW 77 (fX cI cL cS ad) ad σ ++ wr) → va_S A s.heap H locs → W p l e (headSpec (Cond.code y_C_commonDivisor c_C_commonDivisor 11 (some .long) :: TB) rm_C_commonDivisor).room s m args below meth c H locs 0 0 (MQ below (va_Ql Q (wB D cls (tyl cI cL cZ cS) 77 (fX cI cL cS ad) ad wr A) A) args s 0 0 A) (F0 m 9 ls []) := by
  have hx := C.1
  have hb := C.2.1
  have hts := C.2.2.2.2.1
  have hown := C.2.2.2.2.2.1
  have hml := C.2.2.2.2.2.2.1
  intro n
  induction n with
  | zero => intro σ H locs ls y4 y6 x8 h; exact h.elim
  | succ j9 ih =>
    intro σ H locs ls y4 y6 x8 h hl hP hD hS
    have hK9 := @ih
    have h : ((100 : Int32) ≤ x8 → (wp_C_commonDivisor_44 Q y4 σ)) ∧ (¬ (100 : Int32) ≤ x8 → (((lg_cmp y6 (0 : Int64)) = 0 → (wp_C_commonDivisor_44 Q y4 σ)) ∧ (¬ (lg_cmp y6 (0 : Int64)) = 0 → ((¬ y6 = 0) ∧ (∀ v28 : Int64, v28 = (y4 - y4 / y6 * y6) → (∀ v38 : Int32, v38 = (x8 + 1) → ((wp_C_commonDivisor_9 Q j9) y6 v28 v38 σ))))))) := h
    refine lv_iload hx hb d_C_commonDivisor_9 (lv_at hl 2 rfl) ?_
    refine lv_bipush (v := 100) hx hb d_C_commonDivisor_11 (by decide) ?_
    refine lv_icmp_ge hx hb d_C_commonDivisor_13 rfl (fun hc13 => ?_) (fun hc13 => ?_)
    · have h := h.1 hc13
      exact b_C_commonDivisor_44 C h (lv_sub hl [0] rfl) hP hD hS
    · have h := h.2 hc13
      refine lv_lload hx hb d_C_commonDivisor_16 (lv_at hl 1 rfl) ?_
      refine lv_lconst (v := 0) hx hb d_C_commonDivisor_18 (by decide) ?_
      refine W.lcmp hx hb d_C_commonDivisor_19 ?_
      refine lv_if_eq hx hb d_C_commonDivisor_20 rfl (fun hc20 => ?_) (fun hc20 => ?_)
      · have h := h.1 hc20
        exact b_C_commonDivisor_44 C h (lv_sub hl [0] rfl) hP hD hS
      · have h := h.2 hc20
        refine lv_lload hx hb d_C_commonDivisor_23 (lv_at hl 0 rfl) ?_
        refine lv_lload hx hb d_C_commonDivisor_25 (lv_at hl 1 rfl) ?_
        obtain ⟨hz27, h⟩ := h
        refine lv_lrem hx hb d_C_commonDivisor_27 hz27 ?_
        refine lv_topl (fun v28 e28 => ?_)
        have h := h v28 e28
        refine lv_lstore (lv' := [(9, .long v28), (4, .long y4), (6, .long y6), (8, .int x8)]) hx hb d_C_commonDivisor_28 hl (by decide) rfl (fun ls hl => ?_)
        refine lv_lload hx hb d_C_commonDivisor_30 (lv_at hl 2 rfl) ?_
        refine lv_lstore (lv' := [(4, .long y6), (9, .long v28), (6, .long y6), (8, .int x8)]) hx hb d_C_commonDivisor_32 hl (by decide) rfl (fun ls hl => ?_)
        refine lv_lload hx hb d_C_commonDivisor_34 (lv_at hl 1 rfl) ?_
        refine lv_lstore (lv' := [(6, .long v28), (4, .long y6), (9, .long v28), (8, .int x8)]) hx hb d_C_commonDivisor_36 hl (by decide) rfl (fun ls hl => ?_)
        obtain ⟨v38, e38⟩ : ∃ z : Int32, z = (x8 + 1) := ⟨_, rfl⟩
        have h := h v38 e38
        refine lv_iinc (k := 3) (v := v38) (lv' := [(8, .int v38), (6, .long v28), (4, .long y6), (9, .long v28)]) hx hb d_C_commonDivisor_38 hl rfl (by rw [e38] <;> rfl) (by decide) rfl (fun ls hl => ?_)
        refine lv_goto hx hb d_C_commonDivisor_41 rfl ?_
        exact hK9 h (lv_sub hl [2, 1, 0] rfl) hP hD hS
set_option maxHeartbeats 4000000 in
set_option maxRecDepth 100000 in
theorem m_C_commonDivisor {l : Launch} {D : va_G} {cI cL cZ cS : ClassId} {ad : Nat → Nat} {wr : va_W} {sz : Nat} {Q : Int64 → Mem → Prop} {y0 : Int64} {y2 : Int64} {σ : Mem} (h : wp_C_commonDivisor Q y0 y2 σ) : Met l y_C_commonDivisor (Cond.code y_C_commonDivisor c_C_commonDivisor 11 (some .long) :: TB) rm_C_commonDivisor (wPc D cls (tyl cI cL cZ cS) 77 (fX cI cL cS ad) ad wr sz σ [.long y0, .long y2]) (va_Ql Q (wB D cls (tyl cI cL cZ cS) 77 (fX cI cL cS ad) ad wr (wA 77 (fX cI cL cS ad) ad wr sz σ)) (wA 77 (fX cI cL cS ad) ad wr sz σ)) 0 0 (wA 77 (fX cI cL cS ad) ad wr sz σ) := by
  refine Met.ofW (cc := c_C_commonDivisor) (maxL := 11) (ret := (some .long)) (by decide) rfl ?_
  intro p e s m args below meth c s₁ B hml hv
  obtain ⟨rfl, hsz, hP, hK, hD0, hN⟩ := hv
  subst hsz
  have hD : va_D (wA 77 (fX cI cL cS ad) ad wr s.heap.size σ) (wW 77 (fX cI cL cS ad) ad σ ++ wr) := hD0.self (sz := s.heap.size)
  have hA : ∀ q : Nat, s.heap.size ≤ q → (wA 77 (fX cI cL cS ad) ad wr s.heap.size σ) q := fun q h => Or.inr h
  have hN : NX (wA 77 (fX cI cL cS ad) ad wr s.heap.size σ) s s.heap := hN
  generalize (wA 77 (fX cI cL cS ad) ad wr s.heap.size σ) = A at hD hA hN ⊢
  have C : wC TB "PreferenceCount" c_C_commonDivisor 11 (some .long) D cls (tyl cI cL cZ cS) A p s m ([.long y0, .long y2].toArray) meth c := ⟨B.exec, B.bytes, B.returns, B.notSynchronized, fun w hw => atoms_spec (ws := Cond.code y_C_commonDivisor c_C_commonDivisor 11 (some .long) :: TB) B.pre w (List.mem_cons_of_mem _ hw), findClass_of_methodNamed B.named, hml, hK, hN, hA⟩
  have hx := C.1
  have hb := C.2.1
  have hts := C.2.2.2.2.1
  have hown := C.2.2.2.2.2.1
  have hS : va_S A s.heap s.heap [] := va_S.rf
  have hl := lv_entry ([.long y0, .long y2]) (n := 11) (Nat.le_of_ble_eq_true rfl)
  rw [lg_entry_eq]
  generalize (lg_sl ([.long y0, .long y2]) ++ List.replicate (11 - (lg_sl ([.long y0, .long y2])).length) Slot.unset).toArray = ls at hl ⊢
  have hl : lv_has ls 11 [(0, .long y0), (2, .long y2)] := hl
  have h : ∃ k9 : Nat, wp_C_commonDivisor_9 Q k9 y0 y2 (0 : Int32) σ := h
  refine lv_lload_n hx hb d_C_commonDivisor_0 rfl (lv_at hl 0 rfl) ?_
  refine lv_lstore (lv' := [(4, .long y0), (0, .long y0), (2, .long y2)]) hx hb d_C_commonDivisor_1 hl (by decide) rfl (fun ls hl => ?_)
  refine lv_lload_n hx hb d_C_commonDivisor_3 rfl (lv_at hl 2 rfl) ?_
  refine lv_lstore (lv' := [(6, .long y2), (4, .long y0), (0, .long y0), (2, .long y2)]) hx hb d_C_commonDivisor_4 hl (by decide) rfl (fun ls hl => ?_)
  refine lv_iconst (v := 0) hx hb d_C_commonDivisor_6 (by decide) ?_
  refine lv_istore (lv' := [(8, .int (0 : Int32)), (6, .long y2), (4, .long y0), (0, .long y0), (2, .long y2)]) hx hb d_C_commonDivisor_7 hl (by decide) rfl (fun ls hl => ?_)
  obtain ⟨n, h⟩ := h
  exact b_C_commonDivisor_9 C n h (lv_sub hl [2, 1, 0] rfl) hP hD hS
def rm_C_candidateAt : Room := { frames := 0, cells := 0, slots := 0, locals := 0 }
set_option maxHeartbeats 4000000 in
set_option maxRecDepth 100000 in
theorem m_C_candidateAt {l : Launch} {D : va_G} {cI cL cZ cS : ClassId} {ad : Nat → Nat} {wr : va_W} {sz : Nat} {Q : Int32 → Mem → Prop} {y0 : Int64} {x2 : Int32} {σ : Mem} (h : wp_C_candidateAt Q y0 x2 σ) : Met l y_C_candidateAt (Cond.code y_C_candidateAt c_C_candidateAt 3 (some .int) :: TB) rm_C_candidateAt (wPc D cls (tyl cI cL cZ cS) 77 (fX cI cL cS ad) ad wr sz σ [.long y0, .int x2]) (va_Qi Q (wB D cls (tyl cI cL cZ cS) 77 (fX cI cL cS ad) ad wr (wA 77 (fX cI cL cS ad) ad wr sz σ)) (wA 77 (fX cI cL cS ad) ad wr sz σ)) 0 0 (wA 77 (fX cI cL cS ad) ad wr sz σ) := by
  refine Met.ofW (cc := c_C_candidateAt) (maxL := 3) (ret := (some .int)) (by decide) rfl ?_
  intro p e s m args below meth c s₁ B hml hv
  obtain ⟨rfl, hsz, hP, hK, hD0, hN⟩ := hv
  subst hsz
  have hD : va_D (wA 77 (fX cI cL cS ad) ad wr s.heap.size σ) (wW 77 (fX cI cL cS ad) ad σ ++ wr) := hD0.self (sz := s.heap.size)
  have hA : ∀ q : Nat, s.heap.size ≤ q → (wA 77 (fX cI cL cS ad) ad wr s.heap.size σ) q := fun q h => Or.inr h
  have hN : NX (wA 77 (fX cI cL cS ad) ad wr s.heap.size σ) s s.heap := hN
  generalize (wA 77 (fX cI cL cS ad) ad wr s.heap.size σ) = A at hD hA hN ⊢
  have C : wC TB "PreferenceCount" c_C_candidateAt 3 (some .int) D cls (tyl cI cL cZ cS) A p s m ([.long y0, .int x2].toArray) meth c := ⟨B.exec, B.bytes, B.returns, B.notSynchronized, fun w hw => atoms_spec (ws := Cond.code y_C_candidateAt c_C_candidateAt 3 (some .int) :: TB) B.pre w (List.mem_cons_of_mem _ hw), findClass_of_methodNamed B.named, hml, hK, hN, hA⟩
  have hx := C.1
  have hb := C.2.1
  have hts := C.2.2.2.2.1
  have hown := C.2.2.2.2.2.1
  have hS : va_S A s.heap s.heap [] := va_S.rf
  have hl := lv_entry ([.long y0, .int x2]) (n := 3) (Nat.le_of_ble_eq_true rfl)
  rw [lg_entry_eq]
  generalize (lg_sl ([.long y0, .int x2]) ++ List.replicate (3 - (lg_sl ([.long y0, .int x2])).length) Slot.unset).toArray = ls at hl ⊢
  have hl : lv_has ls 3 [(0, .long y0), (2, .int x2)] := hl
  have h : Q ((Int64.toInt32 ((((Int64.toUInt64 y0 >>> (Int64.toUInt64 (Int32.toInt64 (x2 * (4 : Int32))) &&& Int64.toUInt64 63)).toInt64)) &&& (15 : Int64))) - (1 : Int32)) σ := h
  refine lv_lload_n hx hb d_C_candidateAt_0 rfl (lv_at hl 0 rfl) ?_
  refine lv_iload_n hx hb d_C_candidateAt_1 rfl (lv_at hl 1 rfl) ?_
  refine lv_iconst (v := 4) hx hb d_C_candidateAt_2 (by decide) ?_
  refine lv_imul hx hb d_C_candidateAt_3 ?_
  refine lv_lushr hx hb d_C_candidateAt_4 rfl ?_
  refine lv_ldc2 hx hb hown (hts _ kw_316) d_C_candidateAt_5 ?_
  refine lv_land hx hb d_C_candidateAt_8 ?_
  refine lv_l2i hx hb d_C_candidateAt_9 rfl ?_
  refine lv_iconst (v := 1) hx hb d_C_candidateAt_10 (by decide) ?_
  refine lv_isub hx hb d_C_candidateAt_11 ?_
  exact r_iret C hP hD hS d_C_candidateAt_12 h
def rm_R_clear : Room := { frames := 0, cells := 0, slots := 0, locals := 0 }
set_option maxHeartbeats 4000000 in
set_option maxRecDepth 100000 in
theorem b_R_clear_17 {p : Program} {l : Launch} {e : Env} {s : State} {m : MethodId} {args : Array Value} {below : List Frame} {meth : Method} {c : Code} {D : va_G} {cI cL cZ cS : ClassId} {ad : Nat → Nat} {wr : va_W} {A : Nat → Prop} {Q : Mem → Prop} (C : wC TB "PreferenceCount$Roll" c_R_clear 3 none D cls (tyl cI cL cZ cS) A p s m args meth c) : ∀ (n : Nat) {σ : Mem} {H : Heap} {locs : List Loc} {ls : Array Slot} {x2 : Int32}, wp_R_clear_17 Q n x2 σ → lv_has ls 3 [(0, .ref (ad 1)), (2, .int x2)] → va_P D cls (wW 77 (fX cI cL cS ad) ad σ ++ wr) H → va_D A (wW 77 (fX cI cL cS ad) ad σ ++ wr) → va_S A s.heap H locs → W p l e (headSpec (Cond.code y_R_clear c_R_clear 3 none :: TB) rm_R_clear).room s m args below meth c H locs 0 0 (MQ below (va_Qv Q (wB D cls (tyl cI cL cZ cS) 77 (fX cI cL cS ad) ad wr A) A) args s 0 0 A) (F0 m 17 ls []) := by
  have hx := C.1
  have hb := C.2.1
  have hts := C.2.2.2.2.1
  have hown := C.2.2.2.2.2.1
  have hml := C.2.2.2.2.2.2.1
  intro n
  induction n with
  | zero => intro σ H locs ls x2 h; exact h.elim
  | succ j17 ih =>
    intro σ H locs ls x2 h hl hP hD hS
    have hK17 := @ih
    have h : ((12 : Int32) ≤ x2 → (Q σ)) ∧ (¬ (12 : Int32) ≤ x2 → (vp_in x2 12 ∧ (∀ σ29 : Mem, σ29 = mI σ 2 (Int32.toNatClampNeg x2) x2 → (vp_in x2 12 ∧ (∀ σ36 : Mem, σ36 = mI σ29 3 (Int32.toNatClampNeg x2) (0 : Int32) → (∀ v37 : Int32, v37 = (x2 + 1) → ((wp_R_clear_17 Q j17) v37 σ36))))))) := h
    refine lv_iload_n hx hb d_R_clear_17 rfl (lv_at hl 1 rfl) ?_
    refine lv_bipush (v := 12) hx hb d_R_clear_18 (by decide) ?_
    refine lv_icmp_ge hx hb d_R_clear_20 rfl (fun hc20 => ?_) (fun hc20 => ?_)
    · have h := h.1 hc20
      exact r_vret C hP hD hS d_R_clear_43 h
    · have h := h.2 hc20
      refine lv_aload_n hx hb d_R_clear_23 rfl (lv_at hl 0 rfl) ?_
      refine r_get C ku_R hP (by decide) rfl rfl 0 (by decide) kw_30 rfl d_R_clear_24 ?_
      refine lv_iload_n hx hb d_R_clear_27 rfl (lv_at hl 1 rfl) ?_
      refine lv_iload_n hx hb d_R_clear_28 rfl (lv_at hl 1 rfl) ?_
      obtain ⟨hi29, h⟩ := h
      refine r_iast C hP hD hS (by decide) (fun _ _ => rfl) rfl hi29 d_R_clear_29 (fun σ29 e29 H locs hP hD hS => ?_)
      have h := h σ29 e29
      refine lv_aload_n hx hb d_R_clear_30 rfl (lv_at hl 0 rfl) ?_
      refine r_get C ku_R hP (by decide) rfl rfl 1 (by decide) kw_32 rfl d_R_clear_31 ?_
      refine lv_iload_n hx hb d_R_clear_34 rfl (lv_at hl 1 rfl) ?_
      refine lv_iconst (v := 0) hx hb d_R_clear_35 (by decide) ?_
      obtain ⟨hi36, h⟩ := h
      refine r_iast C hP hD hS (by decide) (fun _ _ => rfl) rfl hi36 d_R_clear_36 (fun σ36 e36 H locs hP hD hS => ?_)
      have h := h σ36 e36
      obtain ⟨v37, e37⟩ : ∃ z : Int32, z = (x2 + 1) := ⟨_, rfl⟩
      have h := h v37 e37
      refine lv_iinc (k := 1) (v := v37) (lv' := [(2, .int v37), (0, .ref (ad 1))]) hx hb d_R_clear_37 hl rfl (by rw [e37] <;> rfl) (by decide) rfl (fun ls hl => ?_)
      refine lv_goto hx hb d_R_clear_40 rfl ?_
      exact hK17 h (lv_sub hl [1, 0] rfl) hP hD hS
set_option maxHeartbeats 4000000 in
set_option maxRecDepth 100000 in
theorem m_R_clear {l : Launch} {D : va_G} {cI cL cZ cS : ClassId} {ad : Nat → Nat} {wr : va_W} {sz : Nat} {Q : Mem → Prop} {x1 : Int32} {σ : Mem} (h : wp_R_clear Q x1 σ) : Met l y_R_clear (Cond.code y_R_clear c_R_clear 3 none :: TB) rm_R_clear (wPc D cls (tyl cI cL cZ cS) 77 (fX cI cL cS ad) ad wr sz σ [.ref (ad 1), .int x1]) (va_Qv Q (wB D cls (tyl cI cL cZ cS) 77 (fX cI cL cS ad) ad wr (wA 77 (fX cI cL cS ad) ad wr sz σ)) (wA 77 (fX cI cL cS ad) ad wr sz σ)) 0 0 (wA 77 (fX cI cL cS ad) ad wr sz σ) := by
  refine Met.ofW (cc := c_R_clear) (maxL := 3) (ret := none) (by decide) rfl ?_
  intro p e s m args below meth c s₁ B hml hv
  obtain ⟨rfl, hsz, hP, hK, hD0, hN⟩ := hv
  subst hsz
  have hD : va_D (wA 77 (fX cI cL cS ad) ad wr s.heap.size σ) (wW 77 (fX cI cL cS ad) ad σ ++ wr) := hD0.self (sz := s.heap.size)
  have hA : ∀ q : Nat, s.heap.size ≤ q → (wA 77 (fX cI cL cS ad) ad wr s.heap.size σ) q := fun q h => Or.inr h
  have hN : NX (wA 77 (fX cI cL cS ad) ad wr s.heap.size σ) s s.heap := hN
  generalize (wA 77 (fX cI cL cS ad) ad wr s.heap.size σ) = A at hD hA hN ⊢
  have C : wC TB "PreferenceCount$Roll" c_R_clear 3 none D cls (tyl cI cL cZ cS) A p s m ([.ref (ad 1), .int x1].toArray) meth c := ⟨B.exec, B.bytes, B.returns, B.notSynchronized, fun w hw => atoms_spec (ws := Cond.code y_R_clear c_R_clear 3 none :: TB) B.pre w (List.mem_cons_of_mem _ hw), findClass_of_methodNamed B.named, hml, hK, hN, hA⟩
  have hx := C.1
  have hb := C.2.1
  have hts := C.2.2.2.2.1
  have hown := C.2.2.2.2.2.1
  have hS : va_S A s.heap s.heap [] := va_S.rf
  have hl := lv_entry ([.ref (ad 1), .int x1]) (n := 3) (Nat.le_of_ble_eq_true rfl)
  rw [lg_entry_eq]
  generalize (lg_sl ([.ref (ad 1), .int x1]) ++ List.replicate (3 - (lg_sl ([.ref (ad 1), .int x1])).length) Slot.unset).toArray = ls at hl ⊢
  have hl : lv_has ls 3 [(0, .ref (ad 1)), (1, .int x1)] := hl
  have h : ∀ σ2 : Mem, σ2 = mI σ 1 2 x1 → (∀ σ7 : Mem, σ7 = mI σ2 1 3 (0 : Int32) → (∀ σ12 : Mem, σ12 = mI σ7 1 4 (0 : Int32) → (∃ k17 : Nat, wp_R_clear_17 Q k17 (0 : Int32) σ12))) := h
  refine lv_aload_n hx hb d_R_clear_0 rfl (lv_at hl 0 rfl) ?_
  refine lv_iload_n hx hb d_R_clear_1 rfl (lv_at hl 1 rfl) ?_
  refine r_putI (ty := .int) C ku_R ft_R fo_R fn_R hP hD hS (by decide) rfl rfl 2 (by decide) kw_34 rfl (by decide +kernel) rfl rfl (Nat.le_of_ble_eq_true rfl) d_R_clear_2 rfl (fun σ2 e2 H locs hP hD hS => ?_)
  have h := h σ2 e2
  refine lv_aload_n hx hb d_R_clear_5 rfl (lv_at hl 0 rfl) ?_
  refine lv_iconst (v := 0) hx hb d_R_clear_6 (by decide) ?_
  refine r_putI (ty := .int) C ku_R ft_R fo_R fn_R hP hD hS (by decide) rfl rfl 3 (by decide) kw_36 rfl (by decide +kernel) rfl rfl (Nat.le_of_ble_eq_true rfl) d_R_clear_7 rfl (fun σ7 e7 H locs hP hD hS => ?_)
  have h := h σ7 e7
  refine lv_aload_n hx hb d_R_clear_10 rfl (lv_at hl 0 rfl) ?_
  refine lv_iconst (v := 0) hx hb d_R_clear_11 (by decide) ?_
  refine r_putI (ty := .int) C ku_R ft_R fo_R fn_R hP hD hS (by decide) rfl rfl 4 (by decide) kw_38 rfl (by decide +kernel) rfl rfl (Nat.le_of_ble_eq_true rfl) d_R_clear_12 rfl (fun σ12 e12 H locs hP hD hS => ?_)
  have h := h σ12 e12
  refine lv_iconst (v := 0) hx hb d_R_clear_15 (by decide) ?_
  refine lv_istore_n (lv' := [(2, .int (0 : Int32)), (0, .ref (ad 1)), (1, .int x1)]) hx hb d_R_clear_16 rfl hl (by decide) rfl (fun ls hl => ?_)
  obtain ⟨n, h⟩ := h
  exact b_R_clear_17 C n h (lv_sub hl [1, 0] rfl) hP hD hS
def rm_R_has : Room := { frames := 0, cells := 0, slots := 0, locals := 0 }
set_option maxHeartbeats 4000000 in
set_option maxRecDepth 100000 in
theorem b_R_has_17 {p : Program} {l : Launch} {e : Env} {s : State} {m : MethodId} {args : Array Value} {below : List Frame} {meth : Method} {c : Code} {D : va_G} {cI cL cZ cS : ClassId} {ad : Nat → Nat} {wr : va_W} {A : Nat → Prop} {Q : Int32 → Mem → Prop} {t0 : Int32} {σ : Mem} {H : Heap} {locs : List Loc} {ls : Array Slot} (C : wC TB "PreferenceCount$Roll" c_R_has 2 (some .boolean) D cls (tyl cI cL cZ cS) A p s m args meth c) (h : wp_R_has_17 Q t0 σ) (hl : lv_has ls 2 []) (hP : va_P D cls (wW 77 (fX cI cL cS ad) ad σ ++ wr) H) (hD : va_D A (wW 77 (fX cI cL cS ad) ad σ ++ wr)) (hS : va_S A s.heap H locs) : W p l e (headSpec (Cond.code y_R_has c_R_has 2 (some .boolean) :: TB) rm_R_has).room s m args below meth c H locs 0 0 (MQ below (va_Qi Q (wB D cls (tyl cI cL cZ cS) 77 (fX cI cL cS ad) ad wr A) A) args s 0 0 A) (F0 m 17 ls [.int t0]) := by
  have hx := C.1
  have hb := C.2.1
  have hts := C.2.2.2.2.1
  have hown := C.2.2.2.2.2.1
  have hml := C.2.2.2.2.2.2.1
  have h : (t0 = 0 ∨ t0 = 1) ∧ Q t0 σ := h
  obtain ⟨hb17, h⟩ := h
  exact r_zret C hb17 hP hD hS d_R_has_17 h
set_option maxHeartbeats 4000000 in
set_option maxRecDepth 100000 in
theorem b_R_has_16 {p : Program} {l : Launch} {e : Env} {s : State} {m : MethodId} {args : Array Value} {below : List Frame} {meth : Method} {c : Code} {D : va_G} {cI cL cZ cS : ClassId} {ad : Nat → Nat} {wr : va_W} {A : Nat → Prop} {Q : Int32 → Mem → Prop} {σ : Mem} {H : Heap} {locs : List Loc} {ls : Array Slot} (C : wC TB "PreferenceCount$Roll" c_R_has 2 (some .boolean) D cls (tyl cI cL cZ cS) A p s m args meth c) (h : wp_R_has_16 Q σ) (hl : lv_has ls 2 []) (hP : va_P D cls (wW 77 (fX cI cL cS ad) ad σ ++ wr) H) (hD : va_D A (wW 77 (fX cI cL cS ad) ad σ ++ wr)) (hS : va_S A s.heap H locs) : W p l e (headSpec (Cond.code y_R_has c_R_has 2 (some .boolean) :: TB) rm_R_has).room s m args below meth c H locs 0 0 (MQ below (va_Qi Q (wB D cls (tyl cI cL cZ cS) 77 (fX cI cL cS ad) ad wr A) A) args s 0 0 A) (F0 m 16 ls []) := by
  have hx := C.1
  have hb := C.2.1
  have hts := C.2.2.2.2.1
  have hown := C.2.2.2.2.2.1
  have hml := C.2.2.2.2.2.2.1
  have h : wp_R_has_17 Q (0 : Int32) σ := h
  refine lv_iconst (v := 0) hx hb d_R_has_16 (by decide) ?_
  exact b_R_has_17 C h (lv_sub hl [] rfl) hP hD hS
set_option maxHeartbeats 4000000 in
set_option maxRecDepth 100000 in
theorem m_R_has {l : Launch} {D : va_G} {cI cL cZ cS : ClassId} {ad : Nat → Nat} {wr : va_W} {sz : Nat} {Q : Int32 → Mem → Prop} {x1 : Int32} {σ : Mem} (h : wp_R_has Q x1 σ) : Met l y_R_has (Cond.code y_R_has c_R_has 2 (some .boolean) :: TB) rm_R_has (wPc D cls (tyl cI cL cZ cS) 77 (fX cI cL cS ad) ad wr sz σ [.ref (ad 1), .int x1]) (va_Qi Q (wB D cls (tyl cI cL cZ cS) 77 (fX cI cL cS ad) ad wr (wA 77 (fX cI cL cS ad) ad wr sz σ)) (wA 77 (fX cI cL cS ad) ad wr sz σ)) 0 0 (wA 77 (fX cI cL cS ad) ad wr sz σ) := by
  refine Met.ofW (cc := c_R_has) (maxL := 2) (ret := (some .boolean)) (by decide) rfl ?_
  intro p e s m args below meth c s₁ B hml hv
  obtain ⟨rfl, hsz, hP, hK, hD0, hN⟩ := hv
  subst hsz
  have hD : va_D (wA 77 (fX cI cL cS ad) ad wr s.heap.size σ) (wW 77 (fX cI cL cS ad) ad σ ++ wr) := hD0.self (sz := s.heap.size)
  have hA : ∀ q : Nat, s.heap.size ≤ q → (wA 77 (fX cI cL cS ad) ad wr s.heap.size σ) q := fun q h => Or.inr h
  have hN : NX (wA 77 (fX cI cL cS ad) ad wr s.heap.size σ) s s.heap := hN
  generalize (wA 77 (fX cI cL cS ad) ad wr s.heap.size σ) = A at hD hA hN ⊢
  have C : wC TB "PreferenceCount$Roll" c_R_has 2 (some .boolean) D cls (tyl cI cL cZ cS) A p s m ([.ref (ad 1), .int x1].toArray) meth c := ⟨B.exec, B.bytes, B.returns, B.notSynchronized, fun w hw => atoms_spec (ws := Cond.code y_R_has c_R_has 2 (some .boolean) :: TB) B.pre w (List.mem_cons_of_mem _ hw), findClass_of_methodNamed B.named, hml, hK, hN, hA⟩
  have hx := C.1
  have hb := C.2.1
  have hts := C.2.2.2.2.1
  have hown := C.2.2.2.2.2.1
  have hS : va_S A s.heap s.heap [] := va_S.rf
  have hl := lv_entry ([.ref (ad 1), .int x1]) (n := 2) (Nat.le_of_ble_eq_true rfl)
  rw [lg_entry_eq]
  generalize (lg_sl ([.ref (ad 1), .int x1]) ++ List.replicate (2 - (lg_sl ([.ref (ad 1), .int x1])).length) Slot.unset).toArray = ls at hl ⊢
  have hl : lv_has ls 2 [(0, .ref (ad 1)), (1, .int x1)] := hl
  have h : (x1 < 0 → (wp_R_has_16 Q σ)) ∧ (¬ x1 < 0 → (((σ.1 1 2) ≤ x1 → (wp_R_has_16 Q σ)) ∧ (¬ (σ.1 1 2) ≤ x1 → (wp_R_has_17 Q (1 : Int32) σ)))) := h
  refine lv_iload_n hx hb d_R_has_0 rfl (lv_at hl 1 rfl) ?_
  refine lv_if_lt hx hb d_R_has_1 rfl (fun hc1 => ?_) (fun hc1 => ?_)
  · have h := h.1 hc1
    exact b_R_has_16 C h (lv_sub hl [] rfl) hP hD hS
  · have h := h.2 hc1
    refine lv_iload_n hx hb d_R_has_4 rfl (lv_at hl 1 rfl) ?_
    refine lv_aload_n hx hb d_R_has_5 rfl (lv_at hl 0 rfl) ?_
    refine r_get C ku_R hP (by decide) rfl rfl 2 (by decide) kw_34 rfl d_R_has_6 ?_
    refine lv_icmp_ge hx hb d_R_has_9 rfl (fun hc9 => ?_) (fun hc9 => ?_)
    · have h := h.1 hc9
      exact b_R_has_16 C h (lv_sub hl [] rfl) hP hD hS
    · have h := h.2 hc9
      refine lv_iconst (v := 1) hx hb d_R_has_12 (by decide) ?_
      refine lv_goto hx hb d_R_has_13 rfl ?_
      exact b_R_has_17 C h (lv_sub hl [] rfl) hP hD hS
def rm_R_hasOrIsNobody : Room := { frames := 0, cells := 0, slots := 0, locals := 0 }
set_option maxHeartbeats 4000000 in
set_option maxRecDepth 100000 in
theorem b_R_hasOrIsNobody_17 {p : Program} {l : Launch} {e : Env} {s : State} {m : MethodId} {args : Array Value} {below : List Frame} {meth : Method} {c : Code} {D : va_G} {cI cL cZ cS : ClassId} {ad : Nat → Nat} {wr : va_W} {A : Nat → Prop} {Q : Int32 → Mem → Prop} {t0 : Int32} {σ : Mem} {H : Heap} {locs : List Loc} {ls : Array Slot} (C : wC TB "PreferenceCount$Roll" c_R_hasOrIsNobody 2 (some .boolean) D cls (tyl cI cL cZ cS) A p s m args meth c) (h : wp_R_hasOrIsNobody_17 Q t0 σ) (hl : lv_has ls 2 []) (hP : va_P D cls (wW 77 (fX cI cL cS ad) ad σ ++ wr) H) (hD : va_D A (wW 77 (fX cI cL cS ad) ad σ ++ wr)) (hS : va_S A s.heap H locs) : W p l e (headSpec (Cond.code y_R_hasOrIsNobody c_R_hasOrIsNobody 2 (some .boolean) :: TB) rm_R_hasOrIsNobody).room s m args below meth c H locs 0 0 (MQ below (va_Qi Q (wB D cls (tyl cI cL cZ cS) 77 (fX cI cL cS ad) ad wr A) A) args s 0 0 A) (F0 m 17 ls [.int t0]) := by
  have hx := C.1
  have hb := C.2.1
  have hts := C.2.2.2.2.1
  have hown := C.2.2.2.2.2.1
  have hml := C.2.2.2.2.2.2.1
  have h : (t0 = 0 ∨ t0 = 1) ∧ Q t0 σ := h
  obtain ⟨hb17, h⟩ := h
  exact r_zret C hb17 hP hD hS d_R_hasOrIsNobody_17 h
set_option maxHeartbeats 4000000 in
set_option maxRecDepth 100000 in
theorem b_R_hasOrIsNobody_16 {p : Program} {l : Launch} {e : Env} {s : State} {m : MethodId} {args : Array Value} {below : List Frame} {meth : Method} {c : Code} {D : va_G} {cI cL cZ cS : ClassId} {ad : Nat → Nat} {wr : va_W} {A : Nat → Prop} {Q : Int32 → Mem → Prop} {σ : Mem} {H : Heap} {locs : List Loc} {ls : Array Slot} (C : wC TB "PreferenceCount$Roll" c_R_hasOrIsNobody 2 (some .boolean) D cls (tyl cI cL cZ cS) A p s m args meth c) (h : wp_R_hasOrIsNobody_16 Q σ) (hl : lv_has ls 2 []) (hP : va_P D cls (wW 77 (fX cI cL cS ad) ad σ ++ wr) H) (hD : va_D A (wW 77 (fX cI cL cS ad) ad σ ++ wr)) (hS : va_S A s.heap H locs) : W p l e (headSpec (Cond.code y_R_hasOrIsNobody c_R_hasOrIsNobody 2 (some .boolean) :: TB) rm_R_hasOrIsNobody).room s m args below meth c H locs 0 0 (MQ below (va_Qi Q (wB D cls (tyl cI cL cZ cS) 77 (fX cI cL cS ad) ad wr A) A) args s 0 0 A) (F0 m 16 ls []) := by
  have hx := C.1
  have hb := C.2.1
  have hts := C.2.2.2.2.1
  have hown := C.2.2.2.2.2.1
  have hml := C.2.2.2.2.2.2.1
  have h : wp_R_hasOrIsNobody_17 Q (0 : Int32) σ := h
  refine lv_iconst (v := 0) hx hb d_R_hasOrIsNobody_16 (by decide) ?_
  exact b_R_hasOrIsNobody_17 C h (lv_sub hl [] rfl) hP hD hS
set_option maxHeartbeats 4000000 in
set_option maxRecDepth 100000 in
theorem m_R_hasOrIsNobody {l : Launch} {D : va_G} {cI cL cZ cS : ClassId} {ad : Nat → Nat} {wr : va_W} {sz : Nat} {Q : Int32 → Mem → Prop} {x1 : Int32} {σ : Mem} (h : wp_R_hasOrIsNobody Q x1 σ) : Met l y_R_hasOrIsNobody (Cond.code y_R_hasOrIsNobody c_R_hasOrIsNobody 2 (some .boolean) :: TB) rm_R_hasOrIsNobody (wPc D cls (tyl cI cL cZ cS) 77 (fX cI cL cS ad) ad wr sz σ [.ref (ad 1), .int x1]) (va_Qi Q (wB D cls (tyl cI cL cZ cS) 77 (fX cI cL cS ad) ad wr (wA 77 (fX cI cL cS ad) ad wr sz σ)) (wA 77 (fX cI cL cS ad) ad wr sz σ)) 0 0 (wA 77 (fX cI cL cS ad) ad wr sz σ) := by
  refine Met.ofW (cc := c_R_hasOrIsNobody) (maxL := 2) (ret := (some .boolean)) (by decide) rfl ?_
  intro p e s m args below meth c s₁ B hml hv
  obtain ⟨rfl, hsz, hP, hK, hD0, hN⟩ := hv
  subst hsz
  have hD : va_D (wA 77 (fX cI cL cS ad) ad wr s.heap.size σ) (wW 77 (fX cI cL cS ad) ad σ ++ wr) := hD0.self (sz := s.heap.size)
  have hA : ∀ q : Nat, s.heap.size ≤ q → (wA 77 (fX cI cL cS ad) ad wr s.heap.size σ) q := fun q h => Or.inr h
  have hN : NX (wA 77 (fX cI cL cS ad) ad wr s.heap.size σ) s s.heap := hN
  generalize (wA 77 (fX cI cL cS ad) ad wr s.heap.size σ) = A at hD hA hN ⊢
  have C : wC TB "PreferenceCount$Roll" c_R_hasOrIsNobody 2 (some .boolean) D cls (tyl cI cL cZ cS) A p s m ([.ref (ad 1), .int x1].toArray) meth c := ⟨B.exec, B.bytes, B.returns, B.notSynchronized, fun w hw => atoms_spec (ws := Cond.code y_R_hasOrIsNobody c_R_hasOrIsNobody 2 (some .boolean) :: TB) B.pre w (List.mem_cons_of_mem _ hw), findClass_of_methodNamed B.named, hml, hK, hN, hA⟩
  have hx := C.1
  have hb := C.2.1
  have hts := C.2.2.2.2.1
  have hown := C.2.2.2.2.2.1
  have hS : va_S A s.heap s.heap [] := va_S.rf
  have hl := lv_entry ([.ref (ad 1), .int x1]) (n := 2) (Nat.le_of_ble_eq_true rfl)
  rw [lg_entry_eq]
  generalize (lg_sl ([.ref (ad 1), .int x1]) ++ List.replicate (2 - (lg_sl ([.ref (ad 1), .int x1])).length) Slot.unset).toArray = ls at hl ⊢
  have hl : lv_has ls 2 [(0, .ref (ad 1)), (1, .int x1)] := hl
  have h : (x1 < 0 → (wp_R_hasOrIsNobody_16 Q σ)) ∧ (¬ x1 < 0 → (((σ.1 1 2) < x1 → (wp_R_hasOrIsNobody_16 Q σ)) ∧ (¬ (σ.1 1 2) < x1 → (wp_R_hasOrIsNobody_17 Q (1 : Int32) σ)))) := h
  refine lv_iload_n hx hb d_R_hasOrIsNobody_0 rfl (lv_at hl 1 rfl) ?_
  refine lv_if_lt hx hb d_R_hasOrIsNobody_1 rfl (fun hc1 => ?_) (fun hc1 => ?_)
  · have h := h.1 hc1
    exact b_R_hasOrIsNobody_16 C h (lv_sub hl [] rfl) hP hD hS
  · have h := h.2 hc1
    refine lv_iload_n hx hb d_R_hasOrIsNobody_4 rfl (lv_at hl 1 rfl) ?_
    refine lv_aload_n hx hb d_R_hasOrIsNobody_5 rfl (lv_at hl 0 rfl) ?_
    refine r_get C ku_R hP (by decide) rfl rfl 2 (by decide) kw_34 rfl d_R_hasOrIsNobody_6 ?_
    refine lv_icmp_gt hx hb d_R_hasOrIsNobody_9 rfl (fun hc9 => ?_) (fun hc9 => ?_)
    · have h := h.1 hc9
      exact b_R_hasOrIsNobody_16 C h (lv_sub hl [] rfl) hP hD hS
    · have h := h.2 hc9
      refine lv_iconst (v := 1) hx hb d_R_hasOrIsNobody_12 (by decide) ?_
      refine lv_goto hx hb d_R_hasOrIsNobody_13 rfl ?_
      exact b_R_hasOrIsNobody_17 C h (lv_sub hl [] rfl) hP hD hS
def rm_R_anotherHasDraw : Room := { frames := 0, cells := 0, slots := 0, locals := 0 }
set_option maxHeartbeats 4000000 in
set_option maxRecDepth 100000 in
theorem b_R_anotherHasDraw_27 {p : Program} {l : Launch} {e : Env} {s : State} {m : MethodId} {args : Array Value} {below : List Frame} {meth : Method} {c : Code} {D : va_G} {cI cL cZ cS : ClassId} {ad : Nat → Nat} {wr : va_W} {A : Nat → Prop} {Q : Int32 → Mem → Prop} {K2 : Int32 → Int32 → Int32 → Mem → Prop} {x1 : Int32} {x2 : Int32} {x3 : Int32} {σ : Mem} {H : Heap} {locs : List Loc} {ls : Array Slot} (C : wC TB "PreferenceCount$Roll" c_R_anotherHasDraw 4 (some .boolean) D cls (tyl cI cL cZ cS) A p s m args meth c) (hK2 : ∀ {σ : Mem} {H : Heap} {locs : List Loc} {ls : Array Slot} {x1 : Int32} {x2 : Int32} {x3 : Int32}, K2 x1 x2 x3 σ → lv_has ls 4 [(0, .ref (ad 1)), (1, .int x1), (2, .int x2), (3, .int x3)] → va_P D cls (wW 77 (fX cI cL cS ad) ad σ ++ wr) H → va_D A (wW 77 (fX cI cL cS ad) ad σ ++ wr) → va_S A s.heap H locs → W p l e (headSpec (Cond.code y_R_anotherHasDraw c_R_anotherHasDraw 4 (some .boolean) :: TB) rm_R_anotherHasDraw).room s m args below meth c H locs 0 0 (MQ below (va_Qi Q (wB D cls (tyl cI cL cZ cS) 77 (fX cI cL cS ad) ad wr A) A) args s 0 0 A) (F0 m 2 ls [])) (h : wp_R_anotherHasDraw_27 Q K2 x1 x2 x3 σ) (hl : lv_has ls 4 [(0, .ref (ad 1)), (1, .int x1), (2, .int x2), (3, .int x3)]) (hP : va_P D cls (wW 77 (fX cI cL cS ad) ad σ ++ wr) H) (hD : va_D A (wW 77 (fX cI cL cS ad) ad σ ++ wr)) (hS : va_S A s.heap H locs) : W p l e (headSpec (Cond.code y_R_anotherHasDraw c_R_anotherHasDraw 4 (some .boolean) :: TB) rm_R_anotherHasDraw).room s m args below meth c H locs 0 0 (MQ below (va_Qi Q (wB D cls (tyl cI cL cZ cS) 77 (fX cI cL cS ad) ad wr A) A) args s 0 0 A) (F0 m 27 ls []) := by
  have hx := C.1
  have hb := C.2.1
  have hts := C.2.2.2.2.1
  have hown := C.2.2.2.2.2.1
  have hml := C.2.2.2.2.2.2.1
  have h : ∀ v27 : Int32, v27 = (x3 + 1) → (K2 x1 x2 v27 σ) := h
  obtain ⟨v27, e27⟩ : ∃ z : Int32, z = (x3 + 1) := ⟨_, rfl⟩
  have h := h v27 e27
  refine lv_iinc (k := 3) (v := v27) (lv' := [(3, .int v27), (0, .ref (ad 1)), (1, .int x1), (2, .int x2)]) hx hb d_R_anotherHasDraw_27 hl rfl (by rw [e27] <;> rfl) (by decide) rfl (fun ls hl => ?_)
  refine lv_goto hx hb d_R_anotherHasDraw_30 rfl ?_
  exact hK2 h (lv_sub hl [1, 2, 3, 0] rfl) hP hD hS
set_option maxHeartbeats 4000000 in
set_option maxRecDepth 100000 in
theorem b_R_anotherHasDraw_2 {p : Program} {l : Launch} {e : Env} {s : State} {m : MethodId} {args : Array Value} {below : List Frame} {meth : Method} {c : Code} {D : va_G} {cI cL cZ cS : ClassId} {ad : Nat → Nat} {wr : va_W} {A : Nat → Prop} {Q : Int32 → Mem → Prop} (C : wC TB "PreferenceCount$Roll" c_R_anotherHasDraw 4 (some .boolean) D cls (tyl cI cL cZ cS) A p s m args meth c) : ∀ (n : Nat) {σ : Mem} {H : Heap} {locs : List Loc} {ls : Array Slot} {x1 : Int32} {x2 : Int32} {x3 : Int32}, wp_R_anotherHasDraw_2 Q n x1 x2 x3 σ → lv_has ls 4 [(0, .ref (ad 1)), (1, .int x1), (2, .int x2), (3, .int x3)] → va_P D cls (wW 77 (fX cI cL cS ad) ad σ ++ wr) H → va_D A (wW 77 (fX cI cL cS ad) ad σ ++ wr) → va_S A s.heap H locs → W p l e (headSpec (Cond.code y_R_anotherHasDraw c_R_anotherHasDraw 4 (some .boolean) :: TB) rm_R_anotherHasDraw).room s m args below meth c H locs 0 0 (MQ below (va_Qi Q (wB D cls (tyl cI cL cZ cS) 77 (fX cI cL cS ad) ad wr A) A) args s 0 0 A) (F0 m 2 ls []) := by
  have hx := C.1
  have hb := C.2.1
  have hts := C.2.2.2.2.1
  have hown := C.2.2.2.2.2.1
  have hml := C.2.2.2.2.2.2.1
  intro n
  induction n with
  | zero => intro σ H locs ls x1 x2 x3 h; exact h.elim
  | succ j2 ih =>
    intro σ H locs ls x1 x2 x3 h hl hP hD hS
    have hK2 := @ih
    have h : ((σ.1 1 2) ≤ x3 → (((0 : Int32) = 0 ∨ (0 : Int32) = 1) ∧ Q (0 : Int32) σ)) ∧ (¬ (σ.1 1 2) ≤ x3 → ((x3 = x1 → (wp_R_anotherHasDraw_27 Q (wp_R_anotherHasDraw_2 Q j2) x1 x2 x3 σ)) ∧ (¬ x3 = x1 → (vp_in x3 12 ∧ (((σ.1 2 (Int32.toNatClampNeg x3)) = x2 → (((1 : Int32) = 0 ∨ (1 : Int32) = 1) ∧ Q (1 : Int32) σ)) ∧ (¬ (σ.1 2 (Int32.toNatClampNeg x3)) = x2 → (wp_R_anotherHasDraw_27 Q (wp_R_anotherHasDraw_2 Q j2) x1 x2 x3 σ))))))) := h
    refine lv_iload_n hx hb d_R_anotherHasDraw_2 rfl (lv_at hl 3 rfl) ?_
    refine lv_aload_n hx hb d_R_anotherHasDraw_3 rfl (lv_at hl 0 rfl) ?_
    refine r_get C ku_R hP (by decide) rfl rfl 2 (by decide) kw_34 rfl d_R_anotherHasDraw_4 ?_
    refine lv_icmp_ge hx hb d_R_anotherHasDraw_7 rfl (fun hc7 => ?_) (fun hc7 => ?_)
    · have h := h.1 hc7
      refine lv_iconst (v := 0) hx hb d_R_anotherHasDraw_33 (by decide) ?_
      obtain ⟨hb34, h⟩ := h
      exact r_zret C hb34 hP hD hS d_R_anotherHasDraw_34 h
    · have h := h.2 hc7
      refine lv_iload_n hx hb d_R_anotherHasDraw_10 rfl (lv_at hl 3 rfl) ?_
      refine lv_iload_n hx hb d_R_anotherHasDraw_11 rfl (lv_at hl 1 rfl) ?_
      refine lv_icmp_eq hx hb d_R_anotherHasDraw_12 rfl (fun hc12 => ?_) (fun hc12 => ?_)
      · have h := h.1 hc12
        exact b_R_anotherHasDraw_27 C hK2 h (lv_sub hl [0, 1, 2, 3] rfl) hP hD hS
      · have h := h.2 hc12
        refine lv_aload_n hx hb d_R_anotherHasDraw_15 rfl (lv_at hl 0 rfl) ?_
        refine r_get C ku_R hP (by decide) rfl rfl 0 (by decide) kw_30 rfl d_R_anotherHasDraw_16 ?_
        refine lv_iload_n hx hb d_R_anotherHasDraw_19 rfl (lv_at hl 3 rfl) ?_
        obtain ⟨hi20, h⟩ := h
        refine r_iald C hP (by decide) rfl rfl hi20 d_R_anotherHasDraw_20 ?_
        refine lv_iload_n hx hb d_R_anotherHasDraw_21 rfl (lv_at hl 2 rfl) ?_
        refine lv_icmp_ne hx hb d_R_anotherHasDraw_22 rfl (fun hc22 => ?_) (fun hc22 => ?_)
        · have h := h.2 hc22
          exact b_R_anotherHasDraw_27 C hK2 h (lv_sub hl [0, 1, 2, 3] rfl) hP hD hS
        · have h := h.1 hc22
          refine lv_iconst (v := 1) hx hb d_R_anotherHasDraw_25 (by decide) ?_
          obtain ⟨hb26, h⟩ := h
          exact r_zret C hb26 hP hD hS d_R_anotherHasDraw_26 h
set_option maxHeartbeats 4000000 in
set_option maxRecDepth 100000 in
theorem m_R_anotherHasDraw {l : Launch} {D : va_G} {cI cL cZ cS : ClassId} {ad : Nat → Nat} {wr : va_W} {sz : Nat} {Q : Int32 → Mem → Prop} {x1 : Int32} {x2 : Int32} {σ : Mem} (h : wp_R_anotherHasDraw Q x1 x2 σ) : Met l y_R_anotherHasDraw (Cond.code y_R_anotherHasDraw c_R_anotherHasDraw 4 (some .boolean) :: TB) rm_R_anotherHasDraw (wPc D cls (tyl cI cL cZ cS) 77 (fX cI cL cS ad) ad wr sz σ [.ref (ad 1), .int x1, .int x2]) (va_Qi Q (wB D cls (tyl cI cL cZ cS) 77 (fX cI cL cS ad) ad wr (wA 77 (fX cI cL cS ad) ad wr sz σ)) (wA 77 (fX cI cL cS ad) ad wr sz σ)) 0 0 (wA 77 (fX cI cL cS ad) ad wr sz σ) := by
  refine Met.ofW (cc := c_R_anotherHasDraw) (maxL := 4) (ret := (some .boolean)) (by decide) rfl ?_
  intro p e s m args below meth c s₁ B hml hv
  obtain ⟨rfl, hsz, hP, hK, hD0, hN⟩ := hv
  subst hsz
  have hD : va_D (wA 77 (fX cI cL cS ad) ad wr s.heap.size σ) (wW 77 (fX cI cL cS ad) ad σ ++ wr) := hD0.self (sz := s.heap.size)
  have hA : ∀ q : Nat, s.heap.size ≤ q → (wA 77 (fX cI cL cS ad) ad wr s.heap.size σ) q := fun q h => Or.inr h
  have hN : NX (wA 77 (fX cI cL cS ad) ad wr s.heap.size σ) s s.heap := hN
  generalize (wA 77 (fX cI cL cS ad) ad wr s.heap.size σ) = A at hD hA hN ⊢
  have C : wC TB "PreferenceCount$Roll" c_R_anotherHasDraw 4 (some .boolean) D cls (tyl cI cL cZ cS) A p s m ([.ref (ad 1), .int x1, .int x2].toArray) meth c := ⟨B.exec, B.bytes, B.returns, B.notSynchronized, fun w hw => atoms_spec (ws := Cond.code y_R_anotherHasDraw c_R_anotherHasDraw 4 (some .boolean) :: TB) B.pre w (List.mem_cons_of_mem _ hw), findClass_of_methodNamed B.named, hml, hK, hN, hA⟩
  have hx := C.1
  have hb := C.2.1
  have hts := C.2.2.2.2.1
  have hown := C.2.2.2.2.2.1
  have hS : va_S A s.heap s.heap [] := va_S.rf
  have hl := lv_entry ([.ref (ad 1), .int x1, .int x2]) (n := 4) (Nat.le_of_ble_eq_true rfl)
  rw [lg_entry_eq]
  generalize (lg_sl ([.ref (ad 1), .int x1, .int x2]) ++ List.replicate (4 - (lg_sl ([.ref (ad 1), .int x1, .int x2])).length) Slot.unset).toArray = ls at hl ⊢
  have hl : lv_has ls 4 [(0, .ref (ad 1)), (1, .int x1), (2, .int x2)] := hl
  have h : ∃ k2 : Nat, wp_R_anotherHasDraw_2 Q k2 x1 x2 (0 : Int32) σ := h
  refine lv_iconst (v := 0) hx hb d_R_anotherHasDraw_0 (by decide) ?_
  refine lv_istore_n (lv' := [(3, .int (0 : Int32)), (0, .ref (ad 1)), (1, .int x1), (2, .int x2)]) hx hb d_R_anotherHasDraw_1 rfl hl (by decide) rfl (fun ls hl => ?_)
  obtain ⟨n, h⟩ := h
  exact b_R_anotherHasDraw_2 C n h (lv_sub hl [1, 2, 3, 0] rfl) hP hD hS
def rm_R_isContinuing : Room := { frames := 0, cells := 0, slots := 0, locals := 0 }
set_option maxHeartbeats 4000000 in
set_option maxRecDepth 100000 in
theorem b_R_isContinuing_14 {p : Program} {l : Launch} {e : Env} {s : State} {m : MethodId} {args : Array Value} {below : List Frame} {meth : Method} {c : Code} {D : va_G} {cI cL cZ cS : ClassId} {ad : Nat → Nat} {wr : va_W} {A : Nat → Prop} {Q : Int32 → Mem → Prop} {t0 : Int32} {σ : Mem} {H : Heap} {locs : List Loc} {ls : Array Slot} (C : wC TB "PreferenceCount$Roll" c_R_isContinuing 2 (some .boolean) D cls (tyl cI cL cZ cS) A p s m args meth c) (h : wp_R_isContinuing_14 Q t0 σ) (hl : lv_has ls 2 []) (hP : va_P D cls (wW 77 (fX cI cL cS ad) ad σ ++ wr) H) (hD : va_D A (wW 77 (fX cI cL cS ad) ad σ ++ wr)) (hS : va_S A s.heap H locs) : W p l e (headSpec (Cond.code y_R_isContinuing c_R_isContinuing 2 (some .boolean) :: TB) rm_R_isContinuing).room s m args below meth c H locs 0 0 (MQ below (va_Qi Q (wB D cls (tyl cI cL cZ cS) 77 (fX cI cL cS ad) ad wr A) A) args s 0 0 A) (F0 m 14 ls [.int t0]) := by
  have hx := C.1
  have hb := C.2.1
  have hts := C.2.2.2.2.1
  have hown := C.2.2.2.2.2.1
  have hml := C.2.2.2.2.2.2.1
  have h : (t0 = 0 ∨ t0 = 1) ∧ Q t0 σ := h
  obtain ⟨hb14, h⟩ := h
  exact r_zret C hb14 hP hD hS d_R_isContinuing_14 h
set_option maxHeartbeats 4000000 in
set_option maxRecDepth 100000 in
theorem m_R_isContinuing {l : Launch} {D : va_G} {cI cL cZ cS : ClassId} {ad : Nat → Nat} {wr : va_W} {sz : Nat} {Q : Int32 → Mem → Prop} {x1 : Int32} {σ : Mem} (h : wp_R_isContinuing Q x1 σ) : Met l y_R_isContinuing (Cond.code y_R_isContinuing c_R_isContinuing 2 (some .boolean) :: TB) rm_R_isContinuing (wPc D cls (tyl cI cL cZ cS) 77 (fX cI cL cS ad) ad wr sz σ [.ref (ad 1), .int x1]) (va_Qi Q (wB D cls (tyl cI cL cZ cS) 77 (fX cI cL cS ad) ad wr (wA 77 (fX cI cL cS ad) ad wr sz σ)) (wA 77 (fX cI cL cS ad) ad wr sz σ)) 0 0 (wA 77 (fX cI cL cS ad) ad wr sz σ) := by
  refine Met.ofW (cc := c_R_isContinuing) (maxL := 2) (ret := (some .boolean)) (by decide) rfl ?_
  intro p e s m args below meth c s₁ B hml hv
  obtain ⟨rfl, hsz, hP, hK, hD0, hN⟩ := hv
  subst hsz
  have hD : va_D (wA 77 (fX cI cL cS ad) ad wr s.heap.size σ) (wW 77 (fX cI cL cS ad) ad σ ++ wr) := hD0.self (sz := s.heap.size)
  have hA : ∀ q : Nat, s.heap.size ≤ q → (wA 77 (fX cI cL cS ad) ad wr s.heap.size σ) q := fun q h => Or.inr h
  have hN : NX (wA 77 (fX cI cL cS ad) ad wr s.heap.size σ) s s.heap := hN
  generalize (wA 77 (fX cI cL cS ad) ad wr s.heap.size σ) = A at hD hA hN ⊢
  have C : wC TB "PreferenceCount$Roll" c_R_isContinuing 2 (some .boolean) D cls (tyl cI cL cZ cS) A p s m ([.ref (ad 1), .int x1].toArray) meth c := ⟨B.exec, B.bytes, B.returns, B.notSynchronized, fun w hw => atoms_spec (ws := Cond.code y_R_isContinuing c_R_isContinuing 2 (some .boolean) :: TB) B.pre w (List.mem_cons_of_mem _ hw), findClass_of_methodNamed B.named, hml, hK, hN, hA⟩
  have hx := C.1
  have hb := C.2.1
  have hts := C.2.2.2.2.1
  have hown := C.2.2.2.2.2.1
  have hS : va_S A s.heap s.heap [] := va_S.rf
  have hl := lv_entry ([.ref (ad 1), .int x1]) (n := 2) (Nat.le_of_ble_eq_true rfl)
  rw [lg_entry_eq]
  generalize (lg_sl ([.ref (ad 1), .int x1]) ++ List.replicate (2 - (lg_sl ([.ref (ad 1), .int x1])).length) Slot.unset).toArray = ls at hl ⊢
  have hl : lv_has ls 2 [(0, .ref (ad 1)), (1, .int x1)] := hl
  have h : vp_in x1 12 ∧ (((σ.1 3 (Int32.toNatClampNeg x1)) = 0 → (wp_R_isContinuing_14 Q (1 : Int32) σ)) ∧ (¬ (σ.1 3 (Int32.toNatClampNeg x1)) = 0 → (wp_R_isContinuing_14 Q (0 : Int32) σ))) := h
  refine lv_aload_n hx hb d_R_isContinuing_0 rfl (lv_at hl 0 rfl) ?_
  refine r_get C ku_R hP (by decide) rfl rfl 1 (by decide) kw_32 rfl d_R_isContinuing_1 ?_
  refine lv_iload_n hx hb d_R_isContinuing_4 rfl (lv_at hl 1 rfl) ?_
  obtain ⟨hi5, h⟩ := h
  refine r_iald C hP (by decide) rfl rfl hi5 d_R_isContinuing_5 ?_
  refine lv_if_ne hx hb d_R_isContinuing_6 rfl (fun hc6 => ?_) (fun hc6 => ?_)
  · have h := h.2 hc6
    refine lv_iconst (v := 0) hx hb d_R_isContinuing_13 (by decide) ?_
    exact b_R_isContinuing_14 C h (lv_sub hl [] rfl) hP hD hS
  · have h := h.1 hc6
    refine lv_iconst (v := 1) hx hb d_R_isContinuing_9 (by decide) ?_
    refine lv_goto hx hb d_R_isContinuing_10 rfl ?_
    exact b_R_isContinuing_14 C h (lv_sub hl [] rfl) hP hD hS
def rm_R_isElected : Room := { frames := 0, cells := 0, slots := 0, locals := 0 }
set_option maxHeartbeats 4000000 in
set_option maxRecDepth 100000 in
theorem b_R_isElected_14 {p : Program} {l : Launch} {e : Env} {s : State} {m : MethodId} {args : Array Value} {below : List Frame} {meth : Method} {c : Code} {D : va_G} {cI cL cZ cS : ClassId} {ad : Nat → Nat} {wr : va_W} {A : Nat → Prop} {Q : Int32 → Mem → Prop} {t0 : Int32} {σ : Mem} {H : Heap} {locs : List Loc} {ls : Array Slot} (C : wC TB "PreferenceCount$Roll" c_R_isElected 2 (some .boolean) D cls (tyl cI cL cZ cS) A p s m args meth c) (h : wp_R_isElected_14 Q t0 σ) (hl : lv_has ls 2 []) (hP : va_P D cls (wW 77 (fX cI cL cS ad) ad σ ++ wr) H) (hD : va_D A (wW 77 (fX cI cL cS ad) ad σ ++ wr)) (hS : va_S A s.heap H locs) : W p l e (headSpec (Cond.code y_R_isElected c_R_isElected 2 (some .boolean) :: TB) rm_R_isElected).room s m args below meth c H locs 0 0 (MQ below (va_Qi Q (wB D cls (tyl cI cL cZ cS) 77 (fX cI cL cS ad) ad wr A) A) args s 0 0 A) (F0 m 14 ls [.int t0]) := by
  have hx := C.1
  have hb := C.2.1
  have hts := C.2.2.2.2.1
  have hown := C.2.2.2.2.2.1
  have hml := C.2.2.2.2.2.2.1
  have h : (t0 = 0 ∨ t0 = 1) ∧ Q t0 σ := h
  obtain ⟨hb14, h⟩ := h
  exact r_zret C hb14 hP hD hS d_R_isElected_14 h
set_option maxHeartbeats 4000000 in
set_option maxRecDepth 100000 in
theorem m_R_isElected {l : Launch} {D : va_G} {cI cL cZ cS : ClassId} {ad : Nat → Nat} {wr : va_W} {sz : Nat} {Q : Int32 → Mem → Prop} {x1 : Int32} {σ : Mem} (h : wp_R_isElected Q x1 σ) : Met l y_R_isElected (Cond.code y_R_isElected c_R_isElected 2 (some .boolean) :: TB) rm_R_isElected (wPc D cls (tyl cI cL cZ cS) 77 (fX cI cL cS ad) ad wr sz σ [.ref (ad 1), .int x1]) (va_Qi Q (wB D cls (tyl cI cL cZ cS) 77 (fX cI cL cS ad) ad wr (wA 77 (fX cI cL cS ad) ad wr sz σ)) (wA 77 (fX cI cL cS ad) ad wr sz σ)) 0 0 (wA 77 (fX cI cL cS ad) ad wr sz σ) := by
  refine Met.ofW (cc := c_R_isElected) (maxL := 2) (ret := (some .boolean)) (by decide) rfl ?_
  intro p e s m args below meth c s₁ B hml hv
  obtain ⟨rfl, hsz, hP, hK, hD0, hN⟩ := hv
  subst hsz
  have hD : va_D (wA 77 (fX cI cL cS ad) ad wr s.heap.size σ) (wW 77 (fX cI cL cS ad) ad σ ++ wr) := hD0.self (sz := s.heap.size)
  have hA : ∀ q : Nat, s.heap.size ≤ q → (wA 77 (fX cI cL cS ad) ad wr s.heap.size σ) q := fun q h => Or.inr h
  have hN : NX (wA 77 (fX cI cL cS ad) ad wr s.heap.size σ) s s.heap := hN
  generalize (wA 77 (fX cI cL cS ad) ad wr s.heap.size σ) = A at hD hA hN ⊢
  have C : wC TB "PreferenceCount$Roll" c_R_isElected 2 (some .boolean) D cls (tyl cI cL cZ cS) A p s m ([.ref (ad 1), .int x1].toArray) meth c := ⟨B.exec, B.bytes, B.returns, B.notSynchronized, fun w hw => atoms_spec (ws := Cond.code y_R_isElected c_R_isElected 2 (some .boolean) :: TB) B.pre w (List.mem_cons_of_mem _ hw), findClass_of_methodNamed B.named, hml, hK, hN, hA⟩
  have hx := C.1
  have hb := C.2.1
  have hts := C.2.2.2.2.1
  have hown := C.2.2.2.2.2.1
  have hS : va_S A s.heap s.heap [] := va_S.rf
  have hl := lv_entry ([.ref (ad 1), .int x1]) (n := 2) (Nat.le_of_ble_eq_true rfl)
  rw [lg_entry_eq]
  generalize (lg_sl ([.ref (ad 1), .int x1]) ++ List.replicate (2 - (lg_sl ([.ref (ad 1), .int x1])).length) Slot.unset).toArray = ls at hl ⊢
  have hl : lv_has ls 2 [(0, .ref (ad 1)), (1, .int x1)] := hl
  have h : vp_in x1 12 ∧ (((σ.1 3 (Int32.toNatClampNeg x1)) ≤ 0 → (wp_R_isElected_14 Q (0 : Int32) σ)) ∧ (¬ (σ.1 3 (Int32.toNatClampNeg x1)) ≤ 0 → (wp_R_isElected_14 Q (1 : Int32) σ))) := h
  refine lv_aload_n hx hb d_R_isElected_0 rfl (lv_at hl 0 rfl) ?_
  refine r_get C ku_R hP (by decide) rfl rfl 1 (by decide) kw_32 rfl d_R_isElected_1 ?_
  refine lv_iload_n hx hb d_R_isElected_4 rfl (lv_at hl 1 rfl) ?_
  obtain ⟨hi5, h⟩ := h
  refine r_iald C hP (by decide) rfl rfl hi5 d_R_isElected_5 ?_
  refine lv_if_le hx hb d_R_isElected_6 rfl (fun hc6 => ?_) (fun hc6 => ?_)
  · have h := h.1 hc6
    refine lv_iconst (v := 0) hx hb d_R_isElected_13 (by decide) ?_
    exact b_R_isElected_14 C h (lv_sub hl [] rfl) hP hD hS
  · have h := h.2 hc6
    refine lv_iconst (v := 1) hx hb d_R_isElected_9 (by decide) ?_
    refine lv_goto hx hb d_R_isElected_10 rfl ?_
    exact b_R_isElected_14 C h (lv_sub hl [] rfl) hP hD hS
def rm_R_continuing : Room := { frames := 0, cells := 0, slots := 0, locals := 0 }
set_option maxHeartbeats 4000000 in
set_option maxRecDepth 100000 in
theorem m_R_continuing {l : Launch} {D : va_G} {cI cL cZ cS : ClassId} {ad : Nat → Nat} {wr : va_W} {sz : Nat} {Q : Int32 → Mem → Prop} {σ : Mem} (h : wp_R_continuing Q σ) : Met l y_R_continuing (Cond.code y_R_continuing c_R_continuing 1 (some .int) :: TB) rm_R_continuing (wPc D cls (tyl cI cL cZ cS) 77 (fX cI cL cS ad) ad wr sz σ [.ref (ad 1)]) (va_Qi Q (wB D cls (tyl cI cL cZ cS) 77 (fX cI cL cS ad) ad wr (wA 77 (fX cI cL cS ad) ad wr sz σ)) (wA 77 (fX cI cL cS ad) ad wr sz σ)) 0 0 (wA 77 (fX cI cL cS ad) ad wr sz σ) := by
  refine Met.ofW (cc := c_R_continuing) (maxL := 1) (ret := (some .int)) (by decide) rfl ?_
  intro p e s m args below meth c s₁ B hml hv
  obtain ⟨rfl, hsz, hP, hK, hD0, hN⟩ := hv
  subst hsz
  have hD : va_D (wA 77 (fX cI cL cS ad) ad wr s.heap.size σ) (wW 77 (fX cI cL cS ad) ad σ ++ wr) := hD0.self (sz := s.heap.size)
  have hA : ∀ q : Nat, s.heap.size ≤ q → (wA 77 (fX cI cL cS ad) ad wr s.heap.size σ) q := fun q h => Or.inr h
  have hN : NX (wA 77 (fX cI cL cS ad) ad wr s.heap.size σ) s s.heap := hN
  generalize (wA 77 (fX cI cL cS ad) ad wr s.heap.size σ) = A at hD hA hN ⊢
  have C : wC TB "PreferenceCount$Roll" c_R_continuing 1 (some .int) D cls (tyl cI cL cZ cS) A p s m ([.ref (ad 1)].toArray) meth c := ⟨B.exec, B.bytes, B.returns, B.notSynchronized, fun w hw => atoms_spec (ws := Cond.code y_R_continuing c_R_continuing 1 (some .int) :: TB) B.pre w (List.mem_cons_of_mem _ hw), findClass_of_methodNamed B.named, hml, hK, hN, hA⟩
  have hx := C.1
  have hb := C.2.1
  have hts := C.2.2.2.2.1
  have hown := C.2.2.2.2.2.1
  have hS : va_S A s.heap s.heap [] := va_S.rf
  have hl := lv_entry ([.ref (ad 1)]) (n := 1) (Nat.le_of_ble_eq_true rfl)
  rw [lg_entry_eq]
  generalize (lg_sl ([.ref (ad 1)]) ++ List.replicate (1 - (lg_sl ([.ref (ad 1)])).length) Slot.unset).toArray = ls at hl ⊢
  have hl : lv_has ls 1 [(0, .ref (ad 1))] := hl
  have h : Q (((σ.1 1 2) - (σ.1 1 3)) - (σ.1 1 4)) σ := h
  refine lv_aload_n hx hb d_R_continuing_0 rfl (lv_at hl 0 rfl) ?_
  refine r_get C ku_R hP (by decide) rfl rfl 2 (by decide) kw_34 rfl d_R_continuing_1 ?_
  refine lv_aload_n hx hb d_R_continuing_4 rfl (lv_at hl 0 rfl) ?_
  refine r_get C ku_R hP (by decide) rfl rfl 3 (by decide) kw_36 rfl d_R_continuing_5 ?_
  refine lv_isub hx hb d_R_continuing_8 ?_
  refine lv_aload_n hx hb d_R_continuing_9 rfl (lv_at hl 0 rfl) ?_
  refine r_get C ku_R hP (by decide) rfl rfl 4 (by decide) kw_38 rfl d_R_continuing_10 ?_
  refine lv_isub hx hb d_R_continuing_13 ?_
  exact r_iret C hP hD hS d_R_continuing_14 h
def rm_R_elect : Room := { frames := 0, cells := 0, slots := 0, locals := 0 }
set_option maxHeartbeats 4000000 in
set_option maxRecDepth 100000 in
theorem m_R_elect {l : Launch} {D : va_G} {cI cL cZ cS : ClassId} {ad : Nat → Nat} {wr : va_W} {sz : Nat} {Q : Mem → Prop} {x1 : Int32} {σ : Mem} (h : wp_R_elect Q x1 σ) : Met l y_R_elect (Cond.code y_R_elect c_R_elect 2 none :: TB) rm_R_elect (wPc D cls (tyl cI cL cZ cS) 77 (fX cI cL cS ad) ad wr sz σ [.ref (ad 1), .int x1]) (va_Qv Q (wB D cls (tyl cI cL cZ cS) 77 (fX cI cL cS ad) ad wr (wA 77 (fX cI cL cS ad) ad wr sz σ)) (wA 77 (fX cI cL cS ad) ad wr sz σ)) 0 0 (wA 77 (fX cI cL cS ad) ad wr sz σ) := by
  refine Met.ofW (cc := c_R_elect) (maxL := 2) (ret := none) (by decide) rfl ?_
  intro p e s m args below meth c s₁ B hml hv
  obtain ⟨rfl, hsz, hP, hK, hD0, hN⟩ := hv
  subst hsz
  have hD : va_D (wA 77 (fX cI cL cS ad) ad wr s.heap.size σ) (wW 77 (fX cI cL cS ad) ad σ ++ wr) := hD0.self (sz := s.heap.size)
  have hA : ∀ q : Nat, s.heap.size ≤ q → (wA 77 (fX cI cL cS ad) ad wr s.heap.size σ) q := fun q h => Or.inr h
  have hN : NX (wA 77 (fX cI cL cS ad) ad wr s.heap.size σ) s s.heap := hN
  generalize (wA 77 (fX cI cL cS ad) ad wr s.heap.size σ) = A at hD hA hN ⊢
  have C : wC TB "PreferenceCount$Roll" c_R_elect 2 none D cls (tyl cI cL cZ cS) A p s m ([.ref (ad 1), .int x1].toArray) meth c := ⟨B.exec, B.bytes, B.returns, B.notSynchronized, fun w hw => atoms_spec (ws := Cond.code y_R_elect c_R_elect 2 none :: TB) B.pre w (List.mem_cons_of_mem _ hw), findClass_of_methodNamed B.named, hml, hK, hN, hA⟩
  have hx := C.1
  have hb := C.2.1
  have hts := C.2.2.2.2.1
  have hown := C.2.2.2.2.2.1
  have hS : va_S A s.heap s.heap [] := va_S.rf
  have hl := lv_entry ([.ref (ad 1), .int x1]) (n := 2) (Nat.le_of_ble_eq_true rfl)
  rw [lg_entry_eq]
  generalize (lg_sl ([.ref (ad 1), .int x1]) ++ List.replicate (2 - (lg_sl ([.ref (ad 1), .int x1])).length) Slot.unset).toArray = ls at hl ⊢
  have hl : lv_has ls 2 [(0, .ref (ad 1)), (1, .int x1)] := hl
  have h : ∀ σ7 : Mem, σ7 = mI σ 1 3 ((σ.1 1 3) + (1 : Int32)) → (vp_in x1 12 ∧ (∀ σ19 : Mem, σ19 = mI σ7 3 (Int32.toNatClampNeg x1) (σ7.1 1 3) → (Q σ19))) := h
  refine lv_aload_n hx hb d_R_elect_0 rfl (lv_at hl 0 rfl) ?_
  refine lv_dup hx hb d_R_elect_1 rfl ?_
  refine r_get C ku_R hP (by decide) rfl rfl 3 (by decide) kw_36 rfl d_R_elect_2 ?_
  refine lv_iconst (v := 1) hx hb d_R_elect_5 (by decide) ?_
  refine lv_iadd hx hb d_R_elect_6 ?_
  refine r_putI (ty := .int) C ku_R ft_R fo_R fn_R hP hD hS (by decide) rfl rfl 3 (by decide) kw_36 rfl (by decide +kernel) rfl rfl (Nat.le_of_ble_eq_true rfl) d_R_elect_7 rfl (fun σ7 e7 H locs hP hD hS => ?_)
  have h := h σ7 e7
  refine lv_aload_n hx hb d_R_elect_10 rfl (lv_at hl 0 rfl) ?_
  refine r_get C ku_R hP (by decide) rfl rfl 1 (by decide) kw_32 rfl d_R_elect_11 ?_
  refine lv_iload_n hx hb d_R_elect_14 rfl (lv_at hl 1 rfl) ?_
  refine lv_aload_n hx hb d_R_elect_15 rfl (lv_at hl 0 rfl) ?_
  refine r_get C ku_R hP (by decide) rfl rfl 3 (by decide) kw_36 rfl d_R_elect_16 ?_
  obtain ⟨hi19, h⟩ := h
  refine r_iast C hP hD hS (by decide) (fun _ _ => rfl) rfl hi19 d_R_elect_19 (fun σ19 e19 H locs hP hD hS => ?_)
  have h := h σ19 e19
  exact r_vret C hP hD hS d_R_elect_20 h
def rm_R_exclude : Room := { frames := 0, cells := 0, slots := 0, locals := 0 }
set_option maxHeartbeats 4000000 in
set_option maxRecDepth 100000 in
theorem m_R_exclude {l : Launch} {D : va_G} {cI cL cZ cS : ClassId} {ad : Nat → Nat} {wr : va_W} {sz : Nat} {Q : Mem → Prop} {x1 : Int32} {σ : Mem} (h : wp_R_exclude Q x1 σ) : Met l y_R_exclude (Cond.code y_R_exclude c_R_exclude 2 none :: TB) rm_R_exclude (wPc D cls (tyl cI cL cZ cS) 77 (fX cI cL cS ad) ad wr sz σ [.ref (ad 1), .int x1]) (va_Qv Q (wB D cls (tyl cI cL cZ cS) 77 (fX cI cL cS ad) ad wr (wA 77 (fX cI cL cS ad) ad wr sz σ)) (wA 77 (fX cI cL cS ad) ad wr sz σ)) 0 0 (wA 77 (fX cI cL cS ad) ad wr sz σ) := by
  refine Met.ofW (cc := c_R_exclude) (maxL := 2) (ret := none) (by decide) rfl ?_
  intro p e s m args below meth c s₁ B hml hv
  obtain ⟨rfl, hsz, hP, hK, hD0, hN⟩ := hv
  subst hsz
  have hD : va_D (wA 77 (fX cI cL cS ad) ad wr s.heap.size σ) (wW 77 (fX cI cL cS ad) ad σ ++ wr) := hD0.self (sz := s.heap.size)
  have hA : ∀ q : Nat, s.heap.size ≤ q → (wA 77 (fX cI cL cS ad) ad wr s.heap.size σ) q := fun q h => Or.inr h
  have hN : NX (wA 77 (fX cI cL cS ad) ad wr s.heap.size σ) s s.heap := hN
  generalize (wA 77 (fX cI cL cS ad) ad wr s.heap.size σ) = A at hD hA hN ⊢
  have C : wC TB "PreferenceCount$Roll" c_R_exclude 2 none D cls (tyl cI cL cZ cS) A p s m ([.ref (ad 1), .int x1].toArray) meth c := ⟨B.exec, B.bytes, B.returns, B.notSynchronized, fun w hw => atoms_spec (ws := Cond.code y_R_exclude c_R_exclude 2 none :: TB) B.pre w (List.mem_cons_of_mem _ hw), findClass_of_methodNamed B.named, hml, hK, hN, hA⟩
  have hx := C.1
  have hb := C.2.1
  have hts := C.2.2.2.2.1
  have hown := C.2.2.2.2.2.1
  have hS : va_S A s.heap s.heap [] := va_S.rf
  have hl := lv_entry ([.ref (ad 1), .int x1]) (n := 2) (Nat.le_of_ble_eq_true rfl)
  rw [lg_entry_eq]
  generalize (lg_sl ([.ref (ad 1), .int x1]) ++ List.replicate (2 - (lg_sl ([.ref (ad 1), .int x1])).length) Slot.unset).toArray = ls at hl ⊢
  have hl : lv_has ls 2 [(0, .ref (ad 1)), (1, .int x1)] := hl
  have h : ∀ σ7 : Mem, σ7 = mI σ 1 4 ((σ.1 1 4) + (1 : Int32)) → (vp_in x1 12 ∧ (∀ σ20 : Mem, σ20 = mI σ7 3 (Int32.toNatClampNeg x1) (-(σ7.1 1 4)) → (Q σ20))) := h
  refine lv_aload_n hx hb d_R_exclude_0 rfl (lv_at hl 0 rfl) ?_
  refine lv_dup hx hb d_R_exclude_1 rfl ?_
  refine r_get C ku_R hP (by decide) rfl rfl 4 (by decide) kw_38 rfl d_R_exclude_2 ?_
  refine lv_iconst (v := 1) hx hb d_R_exclude_5 (by decide) ?_
  refine lv_iadd hx hb d_R_exclude_6 ?_
  refine r_putI (ty := .int) C ku_R ft_R fo_R fn_R hP hD hS (by decide) rfl rfl 4 (by decide) kw_38 rfl (by decide +kernel) rfl rfl (Nat.le_of_ble_eq_true rfl) d_R_exclude_7 rfl (fun σ7 e7 H locs hP hD hS => ?_)
  have h := h σ7 e7
  refine lv_aload_n hx hb d_R_exclude_10 rfl (lv_at hl 0 rfl) ?_
  refine r_get C ku_R hP (by decide) rfl rfl 1 (by decide) kw_32 rfl d_R_exclude_11 ?_
  refine lv_iload_n hx hb d_R_exclude_14 rfl (lv_at hl 1 rfl) ?_
  refine lv_aload_n hx hb d_R_exclude_15 rfl (lv_at hl 0 rfl) ?_
  refine r_get C ku_R hP (by decide) rfl rfl 4 (by decide) kw_38 rfl d_R_exclude_16 ?_
  refine lv_ineg hx hb d_R_exclude_19 ?_
  obtain ⟨hi20, h⟩ := h
  refine r_iast C hP hD hS (by decide) (fun _ _ => rfl) rfl hi20 d_R_exclude_20 (fun σ20 e20 H locs hP hD hS => ?_)
  have h := h σ20 e20
  exact r_vret C hP hD hS d_R_exclude_21 h
def rm_F_clear : Room := { frames := 1, cells := 0, slots := 0, locals := 24 }
set_option maxHeartbeats 4000000 in
set_option maxRecDepth 100000 in
theorem m_F_clear {l : Launch} {D : va_G} {cI cL cZ cS : ClassId} {ad : Nat → Nat} {wr : va_W} {sz : Nat} {Q : Mem → Prop} {o : Nat} {σ : Mem} (ho : isFr o) (h : wp_F_clear Q o σ) : Met l y_F_clear (Cond.code y_F_clear c_F_clear 1 none :: TB) rm_F_clear (wPc D cls (tyl cI cL cZ cS) 77 (fX cI cL cS ad) ad wr sz σ [.ref (ad o)]) (va_Qv Q (wB D cls (tyl cI cL cZ cS) 77 (fX cI cL cS ad) ad wr (wA 77 (fX cI cL cS ad) ad wr sz σ)) (wA 77 (fX cI cL cS ad) ad wr sz σ)) 0 0 (wA 77 (fX cI cL cS ad) ad wr sz σ) := by
  refine Met.ofW (cc := c_F_clear) (maxL := 1) (ret := none) (by decide) rfl ?_
  intro p e s m args below meth c s₁ B hml hv
  obtain ⟨rfl, hsz, hP, hK, hD0, hN⟩ := hv
  subst hsz
  have hD : va_D (wA 77 (fX cI cL cS ad) ad wr s.heap.size σ) (wW 77 (fX cI cL cS ad) ad σ ++ wr) := hD0.self (sz := s.heap.size)
  have hA : ∀ q : Nat, s.heap.size ≤ q → (wA 77 (fX cI cL cS ad) ad wr s.heap.size σ) q := fun q h => Or.inr h
  have hN : NX (wA 77 (fX cI cL cS ad) ad wr s.heap.size σ) s s.heap := hN
  generalize (wA 77 (fX cI cL cS ad) ad wr s.heap.size σ) = A at hD hA hN ⊢
  have C : wC TB "PreferenceCount$Fractions" c_F_clear 1 none D cls (tyl cI cL cZ cS) A p s m ([.ref (ad o)].toArray) meth c := ⟨B.exec, B.bytes, B.returns, B.notSynchronized, fun w hw => atoms_spec (ws := Cond.code y_F_clear c_F_clear 1 none :: TB) B.pre w (List.mem_cons_of_mem _ hw), findClass_of_methodNamed B.named, hml, hK, hN, hA⟩
  have hx := C.1
  have hb := C.2.1
  have hts := C.2.2.2.2.1
  have hown := C.2.2.2.2.2.1
  have hS : va_S A s.heap s.heap [] := va_S.rf
  have hl := lv_entry ([.ref (ad o)]) (n := 1) (Nat.le_of_ble_eq_true rfl)
  rw [lg_entry_eq]
  generalize (lg_sl ([.ref (ad o)]) ++ List.replicate (1 - (lg_sl ([.ref (ad o)])).length) Slot.unset).toArray = ls at hl ⊢
  have hl : lv_has ls 1 [(0, .ref (ad o))] := hl
  have h : wp_A_fillJ (fun σ5 => wp_A_fillJ (fun σ13 => Q σ13) (o + 2) (frLen o) (1 : Int64) σ5) (o + 1) (frLen o) (0 : Int64) σ := h
  refine lv_aload_n hx hb d_F_clear_0 rfl (lv_at hl 0 rfl) ?_
  refine r_get C ku_F hP (fr_lt ho) (fr_cell ho _ _) rfl 0 (by decide) kw_67 rfl d_F_clear_1 ?_
  refine lv_lconst (v := 0) hx hb d_F_clear_4 (by decide) ?_
  refine r_callv C hD hS (va_runS (As := [.ref (ad (o + 1)), .long (0 : Int64)]) (rest := []) ⟨hx, hb, hml, hown, hts⟩ (m_A_fillJ (fr_lt1 ho) (fr_cell1 ho) h) (va_cwS 2 hts (g_S kw_64 kw_65 kw_5 kw_66) rfl rfl rfl (by decide +kernel) ⟨Nat.le_of_ble_eq_true rfl, Nat.le_of_ble_eq_true rfl⟩) (r_preS C hP hD hS) rfl rfl hl.1 rfl (lv_room (Nat.le_of_ble_eq_true rfl)) d_F_clear_5 ⟨Nat.le_of_ble_eq_true rfl, Nat.le_of_ble_eq_true rfl⟩) (fun σ5 H locs h hP hD hS => ?_)
  refine lv_aload_n hx hb d_F_clear_8 rfl (lv_at hl 0 rfl) ?_
  refine r_get C ku_F hP (fr_lt ho) (fr_cell ho _ _) rfl 1 (by decide) kw_69 rfl d_F_clear_9 ?_
  refine lv_lconst (v := 1) hx hb d_F_clear_12 (by decide) ?_
  refine r_callv C hD hS (va_runS (As := [.ref (ad (o + 2)), .long (1 : Int64)]) (rest := []) ⟨hx, hb, hml, hown, hts⟩ (m_A_fillJ (fr_lt2 ho) (fr_cell2 ho) h) (va_cwS 2 hts (g_S kw_64 kw_65 kw_5 kw_66) rfl rfl rfl (by decide +kernel) ⟨Nat.le_of_ble_eq_true rfl, Nat.le_of_ble_eq_true rfl⟩) (r_preS C hP hD hS) rfl rfl hl.1 rfl (lv_room (Nat.le_of_ble_eq_true rfl)) d_F_clear_13 ⟨Nat.le_of_ble_eq_true rfl, Nat.le_of_ble_eq_true rfl⟩) (fun σ13 H locs h hP hD hS => ?_)
  exact r_vret C hP hD hS d_F_clear_16 h
def rm_F_put : Room := { frames := 1, cells := 0, slots := 0, locals := 30 }
set_option maxHeartbeats 4000000 in
set_option maxRecDepth 100000 in
theorem m_F_put {l : Launch} {D : va_G} {cI cL cZ cS : ClassId} {ad : Nat → Nat} {wr : va_W} {sz : Nat} {Q : Mem → Prop} {o : Nat} {x1 : Int32} {y2 : Int64} {y4 : Int64} {σ : Mem} (ho : isFr o) (h : wp_F_put Q o x1 y2 y4 σ) : Met l y_F_put (Cond.code y_F_put c_F_put 8 none :: TB) rm_F_put (wPc D cls (tyl cI cL cZ cS) 77 (fX cI cL cS ad) ad wr sz σ [.ref (ad o), .int x1, .long y2, .long y4]) (va_Qv Q (wB D cls (tyl cI cL cZ cS) 77 (fX cI cL cS ad) ad wr (wA 77 (fX cI cL cS ad) ad wr sz σ)) (wA 77 (fX cI cL cS ad) ad wr sz σ)) 0 0 (wA 77 (fX cI cL cS ad) ad wr sz σ) := by
  refine Met.ofW (cc := c_F_put) (maxL := 8) (ret := none) (by decide) rfl ?_
  intro p e s m args below meth c s₁ B hml hv
  obtain ⟨rfl, hsz, hP, hK, hD0, hN⟩ := hv
  subst hsz
  have hD : va_D (wA 77 (fX cI cL cS ad) ad wr s.heap.size σ) (wW 77 (fX cI cL cS ad) ad σ ++ wr) := hD0.self (sz := s.heap.size)
  have hA : ∀ q : Nat, s.heap.size ≤ q → (wA 77 (fX cI cL cS ad) ad wr s.heap.size σ) q := fun q h => Or.inr h
  have hN : NX (wA 77 (fX cI cL cS ad) ad wr s.heap.size σ) s s.heap := hN
  generalize (wA 77 (fX cI cL cS ad) ad wr s.heap.size σ) = A at hD hA hN ⊢
  have C : wC TB "PreferenceCount$Fractions" c_F_put 8 none D cls (tyl cI cL cZ cS) A p s m ([.ref (ad o), .int x1, .long y2, .long y4].toArray) meth c := ⟨B.exec, B.bytes, B.returns, B.notSynchronized, fun w hw => atoms_spec (ws := Cond.code y_F_put c_F_put 8 none :: TB) B.pre w (List.mem_cons_of_mem _ hw), findClass_of_methodNamed B.named, hml, hK, hN, hA⟩
  have hx := C.1
  have hb := C.2.1
  have hts := C.2.2.2.2.1
  have hown := C.2.2.2.2.2.1
  have hS : va_S A s.heap s.heap [] := va_S.rf
  have hl := lv_entry ([.ref (ad o), .int x1, .long y2, .long y4]) (n := 8) (Nat.le_of_ble_eq_true rfl)
  rw [lg_entry_eq]
  generalize (lg_sl ([.ref (ad o), .int x1, .long y2, .long y4]) ++ List.replicate (8 - (lg_sl ([.ref (ad o), .int x1, .long y2, .long y4])).length) Slot.unset).toArray = ls at hl ⊢
  have hl : lv_has ls 8 [(0, .ref (ad o)), (1, .int x1), (2, .long y2), (4, .long y4)] := hl
  have h : wp_C_commonDivisor (fun r3 σ3 => (¬ r3 = 0) ∧ (vp_in x1 (frLen o) ∧ (∀ σ17 : Mem, σ17 = mL σ3 (o + 1) (Int32.toNatClampNeg x1) (y2 / r3) → ((¬ r3 = 0) ∧ (vp_in x1 (frLen o) ∧ (∀ σ28 : Mem, σ28 = mL σ17 (o + 2) (Int32.toNatClampNeg x1) (y4 / r3) → (Q σ28))))))) y2 y4 σ := h
  refine lv_lload_n hx hb d_F_put_0 rfl (lv_at hl 2 rfl) ?_
  refine lv_lload hx hb d_F_put_1 (lv_at hl 3 rfl) ?_
  refine r_calll C hD hS (va_runSN (As := [.long y2, .long y4]) (rest := []) ⟨hx, hb, hml, hown, hts⟩ (m_C_commonDivisor h) ⟨va_cnB 2 hts (g_C kw_328) rfl rfl rfl C.2.2.2.2.2.2.2.2.1.1.1 (hts _ kw_1) (by decide +kernel) ⟨Nat.le_of_ble_eq_true rfl, Nat.le_of_ble_eq_true rfl⟩, hts _ kw_327, trivial⟩ (r_preS C hP hD hS) rfl rfl hl.1 rfl (lv_room (Nat.le_of_ble_eq_true rfl)) d_F_put_3 ⟨Nat.le_of_ble_eq_true rfl, Nat.le_of_ble_eq_true rfl⟩) (fun r3 σ3 H locs h hP hD hS => ?_)
  refine lv_lstore (lv' := [(6, .long r3), (0, .ref (ad o)), (1, .int x1), (2, .long y2), (4, .long y4)]) hx hb d_F_put_6 hl (by decide) rfl (fun ls hl => ?_)
  refine lv_aload_n hx hb d_F_put_8 rfl (lv_at hl 1 rfl) ?_
  refine r_get C ku_F hP (fr_lt ho) (fr_cell ho _ _) rfl 0 (by decide) kw_67 rfl d_F_put_9 ?_
  refine lv_iload_n hx hb d_F_put_12 rfl (lv_at hl 2 rfl) ?_
  refine lv_lload_n hx hb d_F_put_13 rfl (lv_at hl 3 rfl) ?_
  refine lv_lload hx hb d_F_put_14 (lv_at hl 0 rfl) ?_
  obtain ⟨hz16, h⟩ := h
  refine lv_ldiv hx hb d_F_put_16 hz16 ?_
  obtain ⟨hi17, h⟩ := h
  refine r_last C hP hD hS (fr_lt1 ho) (fr_cell1 ho) rfl hi17 d_F_put_17 (fun σ17 e17 H locs hP hD hS => ?_)
  have h := h σ17 e17
  refine lv_aload_n hx hb d_F_put_18 rfl (lv_at hl 1 rfl) ?_
  refine r_get C ku_F hP (fr_lt ho) (fr_cell ho _ _) rfl 1 (by decide) kw_69 rfl d_F_put_19 ?_
  refine lv_iload_n hx hb d_F_put_22 rfl (lv_at hl 2 rfl) ?_
  refine lv_lload hx hb d_F_put_23 (lv_at hl 4 rfl) ?_
  refine lv_lload hx hb d_F_put_25 (lv_at hl 0 rfl) ?_
  obtain ⟨hz27, h⟩ := h
  refine lv_ldiv hx hb d_F_put_27 hz27 ?_
  obtain ⟨hi28, h⟩ := h
  refine r_last C hP hD hS (fr_lt2 ho) (fr_cell2 ho) rfl hi28 d_F_put_28 (fun σ28 e28 H locs hP hD hS => ?_)
  have h := h σ28 e28
  exact r_vret C hP hD hS d_F_put_29 h
def rm_F_add : Room := { frames := 2, cells := 0, slots := 0, locals := 57 }
set_option maxHeartbeats 4000000 in
set_option maxRecDepth 100000 in
theorem m_F_add {l : Launch} {D : va_G} {cI cL cZ cS : ClassId} {ad : Nat → Nat} {wr : va_W} {sz : Nat} {Q : Mem → Prop} {o : Nat} {x1 : Int32} {y2 : Int64} {y4 : Int64} {σ : Mem} (ho : isFr o) (h : wp_F_add Q o x1 y2 y4 σ) : Met l y_F_add (Cond.code y_F_add c_F_add 10 none :: TB) rm_F_add (wPc D cls (tyl cI cL cZ cS) 77 (fX cI cL cS ad) ad wr sz σ [.ref (ad o), .int x1, .long y2, .long y4]) (va_Qv Q (wB D cls (tyl cI cL cZ cS) 77 (fX cI cL cS ad) ad wr (wA 77 (fX cI cL cS ad) ad wr sz σ)) (wA 77 (fX cI cL cS ad) ad wr sz σ)) 0 0 (wA 77 (fX cI cL cS ad) ad wr sz σ) := by
  refine Met.ofW (cc := c_F_add) (maxL := 10) (ret := none) (by decide) rfl ?_
  intro p e s m args below meth c s₁ B hml hv
  obtain ⟨rfl, hsz, hP, hK, hD0, hN⟩ := hv
  subst hsz
  have hD : va_D (wA 77 (fX cI cL cS ad) ad wr s.heap.size σ) (wW 77 (fX cI cL cS ad) ad σ ++ wr) := hD0.self (sz := s.heap.size)
  have hA : ∀ q : Nat, s.heap.size ≤ q → (wA 77 (fX cI cL cS ad) ad wr s.heap.size σ) q := fun q h => Or.inr h
  have hN : NX (wA 77 (fX cI cL cS ad) ad wr s.heap.size σ) s s.heap := hN
  generalize (wA 77 (fX cI cL cS ad) ad wr s.heap.size σ) = A at hD hA hN ⊢
  have C : wC TB "PreferenceCount$Fractions" c_F_add 10 none D cls (tyl cI cL cZ cS) A p s m ([.ref (ad o), .int x1, .long y2, .long y4].toArray) meth c := ⟨B.exec, B.bytes, B.returns, B.notSynchronized, fun w hw => atoms_spec (ws := Cond.code y_F_add c_F_add 10 none :: TB) B.pre w (List.mem_cons_of_mem _ hw), findClass_of_methodNamed B.named, hml, hK, hN, hA⟩
  have hx := C.1
  have hb := C.2.1
  have hts := C.2.2.2.2.1
  have hown := C.2.2.2.2.2.1
  have hS : va_S A s.heap s.heap [] := va_S.rf
  have hl := lv_entry ([.ref (ad o), .int x1, .long y2, .long y4]) (n := 10) (Nat.le_of_ble_eq_true rfl)
  rw [lg_entry_eq]
  generalize (lg_sl ([.ref (ad o), .int x1, .long y2, .long y4]) ++ List.replicate (10 - (lg_sl ([.ref (ad o), .int x1, .long y2, .long y4])).length) Slot.unset).toArray = ls at hl ⊢
  have hl : lv_has ls 10 [(0, .ref (ad o)), (1, .int x1), (2, .long y2), (4, .long y4)] := hl
  have h : vp_in x1 (frLen o) ∧ (wp_C_commonDivisor (fun r8 σ8 => vp_in x1 (frLen o) ∧ ((¬ r8 = 0) ∧ (∀ v22 : Int64, v22 = ((σ8.2 (o + 2) (Int32.toNatClampNeg x1)) / r8) → (vp_in x1 (frLen o) ∧ ((¬ r8 = 0) ∧ (wp_F_put (fun σ48 => Q σ48) o x1 (((σ8.2 (o + 1) (Int32.toNatClampNeg x1)) * (y4 / r8)) + (y2 * v22)) (y4 * v22) σ8)))))) (σ.2 (o + 2) (Int32.toNatClampNeg x1)) y4 σ) := h
  refine lv_aload_n hx hb d_F_add_0 rfl (lv_at hl 0 rfl) ?_
  refine r_get C ku_F hP (fr_lt ho) (fr_cell ho _ _) rfl 1 (by decide) kw_69 rfl d_F_add_1 ?_
  refine lv_iload_n hx hb d_F_add_4 rfl (lv_at hl 1 rfl) ?_
  obtain ⟨hi5, h⟩ := h
  refine r_lald C hP (fr_lt2 ho) (fr_cell2 ho _ _) rfl hi5 d_F_add_5 ?_
  refine lv_lload hx hb d_F_add_6 (lv_at hl 3 rfl) ?_
  refine r_calll C hD hS (va_runSN (As := [.long (σ.2 (o + 2) (Int32.toNatClampNeg x1)), .long y4]) (rest := []) ⟨hx, hb, hml, hown, hts⟩ (m_C_commonDivisor h) ⟨va_cnB 2 hts (g_C kw_328) rfl rfl rfl C.2.2.2.2.2.2.2.2.1.1.1 (hts _ kw_1) (by decide +kernel) ⟨Nat.le_of_ble_eq_true rfl, Nat.le_of_ble_eq_true rfl⟩, hts _ kw_327, trivial⟩ (r_preS C hP hD hS) rfl rfl hl.1 rfl (lv_room (Nat.le_of_ble_eq_true rfl)) d_F_add_8 ⟨Nat.le_of_ble_eq_true rfl, Nat.le_of_ble_eq_true rfl⟩) (fun r8 σ8 H locs h hP hD hS => ?_)
  refine lv_lstore (lv' := [(6, .long r8), (0, .ref (ad o)), (1, .int x1), (2, .long y2), (4, .long y4)]) hx hb d_F_add_11 hl (by decide) rfl (fun ls hl => ?_)
  refine lv_aload_n hx hb d_F_add_13 rfl (lv_at hl 1 rfl) ?_
  refine r_get C ku_F hP (fr_lt ho) (fr_cell ho _ _) rfl 1 (by decide) kw_69 rfl d_F_add_14 ?_
  refine lv_iload_n hx hb d_F_add_17 rfl (lv_at hl 2 rfl) ?_
  obtain ⟨hi18, h⟩ := h
  refine r_lald C hP (fr_lt2 ho) (fr_cell2 ho _ _) rfl hi18 d_F_add_18 ?_
  refine lv_lload hx hb d_F_add_19 (lv_at hl 0 rfl) ?_
  obtain ⟨hz21, h⟩ := h
  refine lv_ldiv hx hb d_F_add_21 hz21 ?_
  refine lv_topl (fun v22 e22 => ?_)
  have h := h v22 e22
  refine lv_lstore (lv' := [(8, .long v22), (6, .long r8), (0, .ref (ad o)), (1, .int x1), (2, .long y2), (4, .long y4)]) hx hb d_F_add_22 hl (by decide) rfl (fun ls hl => ?_)
  refine lv_aload_n hx hb d_F_add_24 rfl (lv_at hl 2 rfl) ?_
  refine lv_iload_n hx hb d_F_add_25 rfl (lv_at hl 3 rfl) ?_
  refine lv_aload_n hx hb d_F_add_26 rfl (lv_at hl 2 rfl) ?_
  refine r_get C ku_F hP (fr_lt ho) (fr_cell ho _ _) rfl 0 (by decide) kw_67 rfl d_F_add_27 ?_
  refine lv_iload_n hx hb d_F_add_30 rfl (lv_at hl 3 rfl) ?_
  obtain ⟨hi31, h⟩ := h
  refine r_lald C hP (fr_lt1 ho) (fr_cell1 ho _ _) rfl hi31 d_F_add_31 ?_
  refine lv_lload hx hb d_F_add_32 (lv_at hl 5 rfl) ?_
  refine lv_lload hx hb d_F_add_34 (lv_at hl 1 rfl) ?_
  obtain ⟨hz36, h⟩ := h
  refine lv_ldiv hx hb d_F_add_36 hz36 ?_
  refine lv_lmul hx hb d_F_add_37 ?_
  refine lv_lload_n hx hb d_F_add_38 rfl (lv_at hl 4 rfl) ?_
  refine lv_lload hx hb d_F_add_39 (lv_at hl 0 rfl) ?_
  refine lv_lmul hx hb d_F_add_41 ?_
  refine lv_ladd hx hb d_F_add_42 ?_
  refine lv_lload hx hb d_F_add_43 (lv_at hl 5 rfl) ?_
  refine lv_lload hx hb d_F_add_45 (lv_at hl 0 rfl) ?_
  refine lv_lmul hx hb d_F_add_47 ?_
  refine r_callv C hD hS (va_runV (As := [.int x1, .long (((σ8.2 (o + 1) (Int32.toNatClampNeg x1)) * (y4 / r8)) + (y2 * v22)), .long (y4 * v22)]) (rest := []) ⟨hx, hb, hml, hown, hts⟩ (m_F_put ho h) (cwV 3 hts (g_V kw_361 kw_323 kw_324 kw_4 kw_325) rfl rfl rfl (by decide +kernel) ⟨Nat.le_of_ble_eq_true rfl, Nat.le_of_ble_eq_true rfl⟩) (r_preV (o := o) C hP hD hS (fr_lt ho) (fr_cell ho _ _) rfl) rfl rfl hl.1 rfl (lv_room (Nat.le_of_ble_eq_true rfl)) d_F_add_48 ⟨Nat.le_of_ble_eq_true rfl, Nat.le_of_ble_eq_true rfl⟩) (fun σ48 H locs h hP hD hS => ?_)
  exact r_vret C hP hD hS d_F_add_51 h
def rm_F_multiply : Room := { frames := 2, cells := 0, slots := 0, locals := 57 }
set_option maxHeartbeats 4000000 in
set_option maxRecDepth 100000 in
theorem m_F_multiply {l : Launch} {D : va_G} {cI cL cZ cS : ClassId} {ad : Nat → Nat} {wr : va_W} {sz : Nat} {Q : Mem → Prop} {o : Nat} {x1 : Int32} {y2 : Int64} {y4 : Int64} {σ : Mem} (ho : isFr o) (h : wp_F_multiply Q o x1 y2 y4 σ) : Met l y_F_multiply (Cond.code y_F_multiply c_F_multiply 6 none :: TB) rm_F_multiply (wPc D cls (tyl cI cL cZ cS) 77 (fX cI cL cS ad) ad wr sz σ [.ref (ad o), .int x1, .long y2, .long y4]) (va_Qv Q (wB D cls (tyl cI cL cZ cS) 77 (fX cI cL cS ad) ad wr (wA 77 (fX cI cL cS ad) ad wr sz σ)) (wA 77 (fX cI cL cS ad) ad wr sz σ)) 0 0 (wA 77 (fX cI cL cS ad) ad wr sz σ) := by
  refine Met.ofW (cc := c_F_multiply) (maxL := 6) (ret := none) (by decide) rfl ?_
  intro p e s m args below meth c s₁ B hml hv
  obtain ⟨rfl, hsz, hP, hK, hD0, hN⟩ := hv
  subst hsz
  have hD : va_D (wA 77 (fX cI cL cS ad) ad wr s.heap.size σ) (wW 77 (fX cI cL cS ad) ad σ ++ wr) := hD0.self (sz := s.heap.size)
  have hA : ∀ q : Nat, s.heap.size ≤ q → (wA 77 (fX cI cL cS ad) ad wr s.heap.size σ) q := fun q h => Or.inr h
  have hN : NX (wA 77 (fX cI cL cS ad) ad wr s.heap.size σ) s s.heap := hN
  generalize (wA 77 (fX cI cL cS ad) ad wr s.heap.size σ) = A at hD hA hN ⊢
  have C : wC TB "PreferenceCount$Fractions" c_F_multiply 6 none D cls (tyl cI cL cZ cS) A p s m ([.ref (ad o), .int x1, .long y2, .long y4].toArray) meth c := ⟨B.exec, B.bytes, B.returns, B.notSynchronized, fun w hw => atoms_spec (ws := Cond.code y_F_multiply c_F_multiply 6 none :: TB) B.pre w (List.mem_cons_of_mem _ hw), findClass_of_methodNamed B.named, hml, hK, hN, hA⟩
  have hx := C.1
  have hb := C.2.1
  have hts := C.2.2.2.2.1
  have hown := C.2.2.2.2.2.1
  have hS : va_S A s.heap s.heap [] := va_S.rf
  have hl := lv_entry ([.ref (ad o), .int x1, .long y2, .long y4]) (n := 6) (Nat.le_of_ble_eq_true rfl)
  rw [lg_entry_eq]
  generalize (lg_sl ([.ref (ad o), .int x1, .long y2, .long y4]) ++ List.replicate (6 - (lg_sl ([.ref (ad o), .int x1, .long y2, .long y4])).length) Slot.unset).toArray = ls at hl ⊢
  have hl : lv_has ls 6 [(0, .ref (ad o)), (1, .int x1), (2, .long y2), (4, .long y4)] := hl
  have h : vp_in x1 (frLen o) ∧ (vp_in x1 (frLen o) ∧ (wp_F_put (fun σ19 => Q σ19) o x1 ((σ.2 (o + 1) (Int32.toNatClampNeg x1)) * y2) ((σ.2 (o + 2) (Int32.toNatClampNeg x1)) * y4) σ)) := h
  refine lv_aload_n hx hb d_F_multiply_0 rfl (lv_at hl 0 rfl) ?_
  refine lv_iload_n hx hb d_F_multiply_1 rfl (lv_at hl 1 rfl) ?_
  refine lv_aload_n hx hb d_F_multiply_2 rfl (lv_at hl 0 rfl) ?_
  refine r_get C ku_F hP (fr_lt ho) (fr_cell ho _ _) rfl 0 (by decide) kw_67 rfl d_F_multiply_3 ?_
  refine lv_iload_n hx hb d_F_multiply_6 rfl (lv_at hl 1 rfl) ?_
  obtain ⟨hi7, h⟩ := h
  refine r_lald C hP (fr_lt1 ho) (fr_cell1 ho _ _) rfl hi7 d_F_multiply_7 ?_
  refine lv_lload_n hx hb d_F_multiply_8 rfl (lv_at hl 2 rfl) ?_
  refine lv_lmul hx hb d_F_multiply_9 ?_
  refine lv_aload_n hx hb d_F_multiply_10 rfl (lv_at hl 0 rfl) ?_
  refine r_get C ku_F hP (fr_lt ho) (fr_cell ho _ _) rfl 1 (by decide) kw_69 rfl d_F_multiply_11 ?_
  refine lv_iload_n hx hb d_F_multiply_14 rfl (lv_at hl 1 rfl) ?_
  obtain ⟨hi15, h⟩ := h
  refine r_lald C hP (fr_lt2 ho) (fr_cell2 ho _ _) rfl hi15 d_F_multiply_15 ?_
  refine lv_lload hx hb d_F_multiply_16 (lv_at hl 3 rfl) ?_
  refine lv_lmul hx hb d_F_multiply_18 ?_
  refine r_callv C hD hS (va_runV (As := [.int x1, .long ((σ.2 (o + 1) (Int32.toNatClampNeg x1)) * y2), .long ((σ.2 (o + 2) (Int32.toNatClampNeg x1)) * y4)]) (rest := []) ⟨hx, hb, hml, hown, hts⟩ (m_F_put ho h) (cwV 3 hts (g_V kw_361 kw_323 kw_324 kw_4 kw_325) rfl rfl rfl (by decide +kernel) ⟨Nat.le_of_ble_eq_true rfl, Nat.le_of_ble_eq_true rfl⟩) (r_preV (o := o) C hP hD hS (fr_lt ho) (fr_cell ho _ _) rfl) rfl rfl hl.1 rfl (lv_room (Nat.le_of_ble_eq_true rfl)) d_F_multiply_19 ⟨Nat.le_of_ble_eq_true rfl, Nat.le_of_ble_eq_true rfl⟩) (fun σ19 H locs h hP hD hS => ?_)
  exact r_vret C hP hD hS d_F_multiply_22 h
def rm_F_compare : Room := { frames := 1, cells := 0, slots := 0, locals := 30 }
set_option maxHeartbeats 4000000 in
set_option maxRecDepth 100000 in
theorem m_F_compare {l : Launch} {D : va_G} {cI cL cZ cS : ClassId} {ad : Nat → Nat} {wr : va_W} {sz : Nat} {Q : Int32 → Mem → Prop} {o : Nat} {x1 : Int32} {y2 : Int64} {y4 : Int64} {σ : Mem} (ho : isFr o) (h : wp_F_compare Q o x1 y2 y4 σ) : Met l y_F_compare (Cond.code y_F_compare c_F_compare 8 (some .int) :: TB) rm_F_compare (wPc D cls (tyl cI cL cZ cS) 77 (fX cI cL cS ad) ad wr sz σ [.ref (ad o), .int x1, .long y2, .long y4]) (va_Qi Q (wB D cls (tyl cI cL cZ cS) 77 (fX cI cL cS ad) ad wr (wA 77 (fX cI cL cS ad) ad wr sz σ)) (wA 77 (fX cI cL cS ad) ad wr sz σ)) 0 0 (wA 77 (fX cI cL cS ad) ad wr sz σ) := by
  refine Met.ofW (cc := c_F_compare) (maxL := 8) (ret := (some .int)) (by decide) rfl ?_
  intro p e s m args below meth c s₁ B hml hv
  obtain ⟨rfl, hsz, hP, hK, hD0, hN⟩ := hv
  subst hsz
  have hD : va_D (wA 77 (fX cI cL cS ad) ad wr s.heap.size σ) (wW 77 (fX cI cL cS ad) ad σ ++ wr) := hD0.self (sz := s.heap.size)
  have hA : ∀ q : Nat, s.heap.size ≤ q → (wA 77 (fX cI cL cS ad) ad wr s.heap.size σ) q := fun q h => Or.inr h
  have hN : NX (wA 77 (fX cI cL cS ad) ad wr s.heap.size σ) s s.heap := hN
  generalize (wA 77 (fX cI cL cS ad) ad wr s.heap.size σ) = A at hD hA hN ⊢
  have C : wC TB "PreferenceCount$Fractions" c_F_compare 8 (some .int) D cls (tyl cI cL cZ cS) A p s m ([.ref (ad o), .int x1, .long y2, .long y4].toArray) meth c := ⟨B.exec, B.bytes, B.returns, B.notSynchronized, fun w hw => atoms_spec (ws := Cond.code y_F_compare c_F_compare 8 (some .int) :: TB) B.pre w (List.mem_cons_of_mem _ hw), findClass_of_methodNamed B.named, hml, hK, hN, hA⟩
  have hx := C.1
  have hb := C.2.1
  have hts := C.2.2.2.2.1
  have hown := C.2.2.2.2.2.1
  have hS : va_S A s.heap s.heap [] := va_S.rf
  have hl := lv_entry ([.ref (ad o), .int x1, .long y2, .long y4]) (n := 8) (Nat.le_of_ble_eq_true rfl)
  rw [lg_entry_eq]
  generalize (lg_sl ([.ref (ad o), .int x1, .long y2, .long y4]) ++ List.replicate (8 - (lg_sl ([.ref (ad o), .int x1, .long y2, .long y4])).length) Slot.unset).toArray = ls at hl ⊢
  have hl : lv_has ls 8 [(0, .ref (ad o)), (1, .int x1), (2, .long y2), (4, .long y4)] := hl
  have h : vp_in x1 (frLen o) ∧ (wp_C_commonDivisor (fun r8 σ8 => vp_in x1 (frLen o) ∧ ((¬ r8 = 0) ∧ (vp_in x1 (frLen o) ∧ ((¬ r8 = 0) ∧ (wp_G_compare (fun r36 σ36 => Q r36 σ36) ((σ8.2 (o + 1) (Int32.toNatClampNeg x1)) * (y4 / r8)) (y2 * ((σ8.2 (o + 2) (Int32.toNatClampNeg x1)) / r8)) σ8))))) (σ.2 (o + 2) (Int32.toNatClampNeg x1)) y4 σ) := h
  refine lv_aload_n hx hb d_F_compare_0 rfl (lv_at hl 0 rfl) ?_
  refine r_get C ku_F hP (fr_lt ho) (fr_cell ho _ _) rfl 1 (by decide) kw_69 rfl d_F_compare_1 ?_
  refine lv_iload_n hx hb d_F_compare_4 rfl (lv_at hl 1 rfl) ?_
  obtain ⟨hi5, h⟩ := h
  refine r_lald C hP (fr_lt2 ho) (fr_cell2 ho _ _) rfl hi5 d_F_compare_5 ?_
  refine lv_lload hx hb d_F_compare_6 (lv_at hl 3 rfl) ?_
  refine r_calll C hD hS (va_runSN (As := [.long (σ.2 (o + 2) (Int32.toNatClampNeg x1)), .long y4]) (rest := []) ⟨hx, hb, hml, hown, hts⟩ (m_C_commonDivisor h) ⟨va_cnB 2 hts (g_C kw_328) rfl rfl rfl C.2.2.2.2.2.2.2.2.1.1.1 (hts _ kw_1) (by decide +kernel) ⟨Nat.le_of_ble_eq_true rfl, Nat.le_of_ble_eq_true rfl⟩, hts _ kw_327, trivial⟩ (r_preS C hP hD hS) rfl rfl hl.1 rfl (lv_room (Nat.le_of_ble_eq_true rfl)) d_F_compare_8 ⟨Nat.le_of_ble_eq_true rfl, Nat.le_of_ble_eq_true rfl⟩) (fun r8 σ8 H locs h hP hD hS => ?_)
  refine lv_lstore (lv' := [(6, .long r8), (0, .ref (ad o)), (1, .int x1), (2, .long y2), (4, .long y4)]) hx hb d_F_compare_11 hl (by decide) rfl (fun ls hl => ?_)
  refine lv_aload_n hx hb d_F_compare_13 rfl (lv_at hl 1 rfl) ?_
  refine r_get C ku_F hP (fr_lt ho) (fr_cell ho _ _) rfl 0 (by decide) kw_67 rfl d_F_compare_14 ?_
  refine lv_iload_n hx hb d_F_compare_17 rfl (lv_at hl 2 rfl) ?_
  obtain ⟨hi18, h⟩ := h
  refine r_lald C hP (fr_lt1 ho) (fr_cell1 ho _ _) rfl hi18 d_F_compare_18 ?_
  refine lv_lload hx hb d_F_compare_19 (lv_at hl 4 rfl) ?_
  refine lv_lload hx hb d_F_compare_21 (lv_at hl 0 rfl) ?_
  obtain ⟨hz23, h⟩ := h
  refine lv_ldiv hx hb d_F_compare_23 hz23 ?_
  refine lv_lmul hx hb d_F_compare_24 ?_
  refine lv_lload_n hx hb d_F_compare_25 rfl (lv_at hl 3 rfl) ?_
  refine lv_aload_n hx hb d_F_compare_26 rfl (lv_at hl 1 rfl) ?_
  refine r_get C ku_F hP (fr_lt ho) (fr_cell ho _ _) rfl 1 (by decide) kw_69 rfl d_F_compare_27 ?_
  refine lv_iload_n hx hb d_F_compare_30 rfl (lv_at hl 2 rfl) ?_
  obtain ⟨hi31, h⟩ := h
  refine r_lald C hP (fr_lt2 ho) (fr_cell2 ho _ _) rfl hi31 d_F_compare_31 ?_
  refine lv_lload hx hb d_F_compare_32 (lv_at hl 0 rfl) ?_
  obtain ⟨hz34, h⟩ := h
  refine lv_ldiv hx hb d_F_compare_34 hz34 ?_
  refine lv_lmul hx hb d_F_compare_35 ?_
  refine r_calli C hD hS (va_runS (As := [.long ((σ8.2 (o + 1) (Int32.toNatClampNeg x1)) * (y4 / r8)), .long (y2 * ((σ8.2 (o + 2) (Int32.toNatClampNeg x1)) / r8))]) (rest := []) ⟨hx, hb, hml, hown, hts⟩ (m_G_compare h) (va_cwS 2 hts (g_S kw_398 kw_399 kw_13 kw_400) rfl rfl rfl (by decide +kernel) ⟨Nat.le_of_ble_eq_true rfl, Nat.le_of_ble_eq_true rfl⟩) (r_preS C hP hD hS) rfl rfl hl.1 rfl (lv_room (Nat.le_of_ble_eq_true rfl)) d_F_compare_36 ⟨Nat.le_of_ble_eq_true rfl, Nat.le_of_ble_eq_true rfl⟩) (fun r36 σ36 H locs h hP hD hS => ?_)
  exact r_iret C hP hD hS d_F_compare_39 h
def rm_F_copy : Room := { frames := 1, cells := 0, slots := 0, locals := 40 }
set_option maxHeartbeats 4000000 in
set_option maxRecDepth 100000 in
theorem m_F_copy {l : Launch} {D : va_G} {cI cL cZ cS : ClassId} {ad : Nat → Nat} {wr : va_W} {sz : Nat} {Q : Mem → Prop} {o : Nat} {a1 : Nat} {σ : Mem} (ho : isFr o) (ha1 : isFr a1) (h : wp_F_copy Q o a1 σ) : Met l y_F_copy (Cond.code y_F_copy c_F_copy 2 none :: TB) rm_F_copy (wPc D cls (tyl cI cL cZ cS) 77 (fX cI cL cS ad) ad wr sz σ [.ref (ad o), .ref (ad a1)]) (va_Qv Q (wB D cls (tyl cI cL cZ cS) 77 (fX cI cL cS ad) ad wr (wA 77 (fX cI cL cS ad) ad wr sz σ)) (wA 77 (fX cI cL cS ad) ad wr sz σ)) 0 0 (wA 77 (fX cI cL cS ad) ad wr sz σ) := by
  refine Met.ofW (cc := c_F_copy) (maxL := 2) (ret := none) (by decide) rfl ?_
  intro p e s m args below meth c s₁ B hml hv
  obtain ⟨rfl, hsz, hP, hK, hD0, hN⟩ := hv
  subst hsz
  have hD : va_D (wA 77 (fX cI cL cS ad) ad wr s.heap.size σ) (wW 77 (fX cI cL cS ad) ad σ ++ wr) := hD0.self (sz := s.heap.size)
  have hA : ∀ q : Nat, s.heap.size ≤ q → (wA 77 (fX cI cL cS ad) ad wr s.heap.size σ) q := fun q h => Or.inr h
  have hN : NX (wA 77 (fX cI cL cS ad) ad wr s.heap.size σ) s s.heap := hN
  generalize (wA 77 (fX cI cL cS ad) ad wr s.heap.size σ) = A at hD hA hN ⊢
  have C : wC TB "PreferenceCount$Fractions" c_F_copy 2 none D cls (tyl cI cL cZ cS) A p s m ([.ref (ad o), .ref (ad a1)].toArray) meth c := ⟨B.exec, B.bytes, B.returns, B.notSynchronized, fun w hw => atoms_spec (ws := Cond.code y_F_copy c_F_copy 2 none :: TB) B.pre w (List.mem_cons_of_mem _ hw), findClass_of_methodNamed B.named, hml, hK, hN, hA⟩
  have hx := C.1
  have hb := C.2.1
  have hts := C.2.2.2.2.1
  have hown := C.2.2.2.2.2.1
  have hS : va_S A s.heap s.heap [] := va_S.rf
  have hl := lv_entry ([.ref (ad o), .ref (ad a1)]) (n := 2) (Nat.le_of_ble_eq_true rfl)
  rw [lg_entry_eq]
  generalize (lg_sl ([.ref (ad o), .ref (ad a1)]) ++ List.replicate (2 - (lg_sl ([.ref (ad o), .ref (ad a1)])).length) Slot.unset).toArray = ls at hl ⊢
  have hl : lv_has ls 2 [(0, .ref (ad o)), (1, .ref (ad a1))] := hl
  have h : (¬ (0 : Int32) < 0) ∧ (¬ (0 : Int32) < 0) ∧ (¬ (Int32.ofNat (frLen o)) < 0) ∧ ((Int32.toNatClampNeg (0 : Int32)) + (Int32.toNatClampNeg (Int32.ofNat (frLen o))) ≤ (frLen a1)) ∧ ((Int32.toNatClampNeg (0 : Int32)) + (Int32.toNatClampNeg (Int32.ofNat (frLen o))) ≤ (frLen o)) ∧ (∀ σ15 : Mem, σ15 = mC σ (a1 + 1) (o + 1) (Int32.toNatClampNeg (0 : Int32)) (Int32.toNatClampNeg (0 : Int32)) (Int32.toNatClampNeg (Int32.ofNat (frLen o))) → ((¬ (0 : Int32) < 0) ∧ (¬ (0 : Int32) < 0) ∧ (¬ (Int32.ofNat (frLen o)) < 0) ∧ ((Int32.toNatClampNeg (0 : Int32)) + (Int32.toNatClampNeg (Int32.ofNat (frLen o))) ≤ (frLen a1)) ∧ ((Int32.toNatClampNeg (0 : Int32)) + (Int32.toNatClampNeg (Int32.ofNat (frLen o))) ≤ (frLen o)) ∧ (∀ σ33 : Mem, σ33 = mC σ15 (a1 + 2) (o + 2) (Int32.toNatClampNeg (0 : Int32)) (Int32.toNatClampNeg (0 : Int32)) (Int32.toNatClampNeg (Int32.ofNat (frLen o))) → (Q σ33)))) := h
  refine lv_aload_n hx hb d_F_copy_0 rfl (lv_at hl 1 rfl) ?_
  refine r_get C ku_F hP (fr_lt ha1) (fr_cell ha1 _ _) rfl 0 (by decide) kw_67 rfl d_F_copy_1 ?_
  refine lv_iconst (v := 0) hx hb d_F_copy_4 (by decide) ?_
  refine lv_aload_n hx hb d_F_copy_5 rfl (lv_at hl 0 rfl) ?_
  refine r_get C ku_F hP (fr_lt ho) (fr_cell ho _ _) rfl 0 (by decide) kw_67 rfl d_F_copy_6 ?_
  refine lv_iconst (v := 0) hx hb d_F_copy_9 (by decide) ?_
  refine lv_aload_n hx hb d_F_copy_10 rfl (lv_at hl 0 rfl) ?_
  refine r_get C ku_F hP (fr_lt ho) (fr_cell ho _ _) rfl 0 (by decide) kw_67 rfl d_F_copy_11 ?_
  refine r_alen C hP (fr_lt1 ho) (fr_cell1 ho _ _) 1 rfl d_F_copy_14 ?_
  obtain ⟨hq15a, hq15b, hq15c, hq15d, hq15e, h⟩ := h
  refine r_copy C kw_429 kw_431 kw_430 kw_14 hl.1 hP hD hS (fr_lt1 ha1) (fr_lt1 ho) (fr_cell1 ha1) (fr_cell1 ho) rfl hq15a hq15b hq15c hq15d hq15e (Nat.le_of_ble_eq_true rfl) (by decide +kernel) d_F_copy_15 (fun σ15 e15 H locs hP hD hS => ?_)
  have h := h σ15 e15
  refine lv_aload_n hx hb d_F_copy_18 rfl (lv_at hl 1 rfl) ?_
  refine r_get C ku_F hP (fr_lt ha1) (fr_cell ha1 _ _) rfl 1 (by decide) kw_69 rfl d_F_copy_19 ?_
  refine lv_iconst (v := 0) hx hb d_F_copy_22 (by decide) ?_
  refine lv_aload_n hx hb d_F_copy_23 rfl (lv_at hl 0 rfl) ?_
  refine r_get C ku_F hP (fr_lt ho) (fr_cell ho _ _) rfl 1 (by decide) kw_69 rfl d_F_copy_24 ?_
  refine lv_iconst (v := 0) hx hb d_F_copy_27 (by decide) ?_
  refine lv_aload_n hx hb d_F_copy_28 rfl (lv_at hl 0 rfl) ?_
  refine r_get C ku_F hP (fr_lt ho) (fr_cell ho _ _) rfl 1 (by decide) kw_69 rfl d_F_copy_29 ?_
  refine r_alen C hP (fr_lt2 ho) (fr_cell2 ho _ _) 1 rfl d_F_copy_32 ?_
  obtain ⟨hq33a, hq33b, hq33c, hq33d, hq33e, h⟩ := h
  refine r_copy C kw_429 kw_431 kw_430 kw_14 hl.1 hP hD hS (fr_lt2 ha1) (fr_lt2 ho) (fr_cell2 ha1) (fr_cell2 ho) rfl hq33a hq33b hq33c hq33d hq33e (Nat.le_of_ble_eq_true rfl) (by decide +kernel) d_F_copy_33 (fun σ33 e33 H locs hP hD hS => ?_)
  have h := h σ33 e33
  exact r_vret C hP hD hS d_F_copy_36 h
def rm_P_clear : Room := { frames := 0, cells := 0, slots := 0, locals := 0 }
set_option maxHeartbeats 4000000 in
set_option maxRecDepth 100000 in
theorem m_P_clear {l : Launch} {D : va_G} {cI cL cZ cS : ClassId} {ad : Nat → Nat} {wr : va_W} {sz : Nat} {Q : Mem → Prop} {σ : Mem} (h : wp_P_clear Q σ) : Met l y_P_clear (Cond.code y_P_clear c_P_clear 1 none :: TB) rm_P_clear (wPc D cls (tyl cI cL cZ cS) 77 (fX cI cL cS ad) ad wr sz σ [.ref (ad 4)]) (va_Qv Q (wB D cls (tyl cI cL cZ cS) 77 (fX cI cL cS ad) ad wr (wA 77 (fX cI cL cS ad) ad wr sz σ)) (wA 77 (fX cI cL cS ad) ad wr sz σ)) 0 0 (wA 77 (fX cI cL cS ad) ad wr sz σ) := by
  refine Met.ofW (cc := c_P_clear) (maxL := 1) (ret := none) (by decide) rfl ?_
  intro p e s m args below meth c s₁ B hml hv
  obtain ⟨rfl, hsz, hP, hK, hD0, hN⟩ := hv
  subst hsz
  have hD : va_D (wA 77 (fX cI cL cS ad) ad wr s.heap.size σ) (wW 77 (fX cI cL cS ad) ad σ ++ wr) := hD0.self (sz := s.heap.size)
  have hA : ∀ q : Nat, s.heap.size ≤ q → (wA 77 (fX cI cL cS ad) ad wr s.heap.size σ) q := fun q h => Or.inr h
  have hN : NX (wA 77 (fX cI cL cS ad) ad wr s.heap.size σ) s s.heap := hN
  generalize (wA 77 (fX cI cL cS ad) ad wr s.heap.size σ) = A at hD hA hN ⊢
  have C : wC TB "PreferenceCount$Pile" c_P_clear 1 none D cls (tyl cI cL cZ cS) A p s m ([.ref (ad 4)].toArray) meth c := ⟨B.exec, B.bytes, B.returns, B.notSynchronized, fun w hw => atoms_spec (ws := Cond.code y_P_clear c_P_clear 1 none :: TB) B.pre w (List.mem_cons_of_mem _ hw), findClass_of_methodNamed B.named, hml, hK, hN, hA⟩
  have hx := C.1
  have hb := C.2.1
  have hts := C.2.2.2.2.1
  have hown := C.2.2.2.2.2.1
  have hS : va_S A s.heap s.heap [] := va_S.rf
  have hl := lv_entry ([.ref (ad 4)]) (n := 1) (Nat.le_of_ble_eq_true rfl)
  rw [lg_entry_eq]
  generalize (lg_sl ([.ref (ad 4)]) ++ List.replicate (1 - (lg_sl ([.ref (ad 4)])).length) Slot.unset).toArray = ls at hl ⊢
  have hl : lv_has ls 1 [(0, .ref (ad 4))] := hl
  have h : ∀ σ2 : Mem, σ2 = mI σ 4 4 (0 : Int32) → (∀ σ7 : Mem, σ7 = mI σ2 4 5 (0 : Int32) → (Q σ7)) := h
  refine lv_aload_n hx hb d_P_clear_0 rfl (lv_at hl 0 rfl) ?_
  refine lv_iconst (v := 0) hx hb d_P_clear_1 (by decide) ?_
  refine r_putI (ty := .int) C ku_P ft_P fo_P fn_P hP hD hS (by decide) rfl rfl 4 (by decide) kw_85 rfl (by decide +kernel) rfl rfl (Nat.le_of_ble_eq_true rfl) d_P_clear_2 rfl (fun σ2 e2 H locs hP hD hS => ?_)
  have h := h σ2 e2
  refine lv_aload_n hx hb d_P_clear_5 rfl (lv_at hl 0 rfl) ?_
  refine lv_iconst (v := 0) hx hb d_P_clear_6 (by decide) ?_
  refine r_putI (ty := .int) C ku_P ft_P fo_P fn_P hP hD hS (by decide) rfl rfl 5 (by decide) kw_87 rfl (by decide +kernel) rfl rfl (Nat.le_of_ble_eq_true rfl) d_P_clear_7 rfl (fun σ7 e7 H locs hP hD hS => ?_)
  have h := h σ7 e7
  exact r_vret C hP hD hS d_P_clear_10 h
def rm_P_put : Room := { frames := 2, cells := 0, slots := 0, locals := 57 }
set_option maxHeartbeats 4000000 in
set_option maxRecDepth 100000 in
theorem m_P_put {l : Launch} {D : va_G} {cI cL cZ cS : ClassId} {ad : Nat → Nat} {wr : va_W} {sz : Nat} {Q : Mem → Prop} {y1 : Int64} {x3 : Int32} {σ : Mem} (h : wp_P_put Q y1 x3 σ) : Met l y_P_put (Cond.code y_P_put c_P_put 4 none :: TB) rm_P_put (wPc D cls (tyl cI cL cZ cS) 77 (fX cI cL cS ad) ad wr sz σ [.ref (ad 4), .long y1, .int x3]) (va_Qv Q (wB D cls (tyl cI cL cZ cS) 77 (fX cI cL cS ad) ad wr (wA 77 (fX cI cL cS ad) ad wr sz σ)) (wA 77 (fX cI cL cS ad) ad wr sz σ)) 0 0 (wA 77 (fX cI cL cS ad) ad wr sz σ) := by
  refine Met.ofW (cc := c_P_put) (maxL := 4) (ret := none) (by decide) rfl ?_
  intro p e s m args below meth c s₁ B hml hv
  obtain ⟨rfl, hsz, hP, hK, hD0, hN⟩ := hv
  subst hsz
  have hD : va_D (wA 77 (fX cI cL cS ad) ad wr s.heap.size σ) (wW 77 (fX cI cL cS ad) ad σ ++ wr) := hD0.self (sz := s.heap.size)
  have hA : ∀ q : Nat, s.heap.size ≤ q → (wA 77 (fX cI cL cS ad) ad wr s.heap.size σ) q := fun q h => Or.inr h
  have hN : NX (wA 77 (fX cI cL cS ad) ad wr s.heap.size σ) s s.heap := hN
  generalize (wA 77 (fX cI cL cS ad) ad wr s.heap.size σ) = A at hD hA hN ⊢
  have C : wC TB "PreferenceCount$Pile" c_P_put 4 none D cls (tyl cI cL cZ cS) A p s m ([.ref (ad 4), .long y1, .int x3].toArray) meth c := ⟨B.exec, B.bytes, B.returns, B.notSynchronized, fun w hw => atoms_spec (ws := Cond.code y_P_put c_P_put 4 none :: TB) B.pre w (List.mem_cons_of_mem _ hw), findClass_of_methodNamed B.named, hml, hK, hN, hA⟩
  have hx := C.1
  have hb := C.2.1
  have hts := C.2.2.2.2.1
  have hown := C.2.2.2.2.2.1
  have hS : va_S A s.heap s.heap [] := va_S.rf
  have hl := lv_entry ([.ref (ad 4), .long y1, .int x3]) (n := 4) (Nat.le_of_ble_eq_true rfl)
  rw [lg_entry_eq]
  generalize (lg_sl ([.ref (ad 4), .long y1, .int x3]) ++ List.replicate (4 - (lg_sl ([.ref (ad 4), .long y1, .int x3])).length) Slot.unset).toArray = ls at hl ⊢
  have hl : lv_has ls 4 [(0, .ref (ad 4)), (1, .long y1), (3, .int x3)] := hl
  have h : vp_in (σ.1 4 4) 50 ∧ (∀ σ9 : Mem, σ9 = mL σ 5 (Int32.toNatClampNeg (σ.1 4 4)) y1 → (vp_in (σ9.1 4 4) 50 ∧ (∀ σ19 : Mem, σ19 = mI σ9 6 (Int32.toNatClampNeg (σ9.1 4 4)) x3 → (vp_in (σ19.1 4 4) 50 ∧ (∀ σ29 : Mem, σ29 = mI σ19 7 (Int32.toNatClampNeg (σ19.1 4 4)) (-1 : Int32) → (wp_F_put (fun σ40 => ∀ σ50 : Mem, σ50 = mI σ40 4 4 ((σ40.1 4 4) + (1 : Int32)) → (∀ σ60 : Mem, σ60 = mI σ50 4 5 ((σ50.1 4 5) + x3) → (Q σ60))) 8 (σ29.1 4 4) (1 : Int64) (1 : Int64) σ29)))))) := h
  refine lv_aload_n hx hb d_P_put_0 rfl (lv_at hl 0 rfl) ?_
  refine r_get C ku_P hP (by decide) rfl rfl 0 (by decide) kw_77 rfl d_P_put_1 ?_
  refine lv_aload_n hx hb d_P_put_4 rfl (lv_at hl 0 rfl) ?_
  refine r_get C ku_P hP (by decide) rfl rfl 4 (by decide) kw_85 rfl d_P_put_5 ?_
  refine lv_lload_n hx hb d_P_put_8 rfl (lv_at hl 1 rfl) ?_
  obtain ⟨hi9, h⟩ := h
  refine r_last C hP hD hS (by decide) (fun _ _ => rfl) rfl hi9 d_P_put_9 (fun σ9 e9 H locs hP hD hS => ?_)
  have h := h σ9 e9
  refine lv_aload_n hx hb d_P_put_10 rfl (lv_at hl 0 rfl) ?_
  refine r_get C ku_P hP (by decide) rfl rfl 1 (by decide) kw_79 rfl d_P_put_11 ?_
  refine lv_aload_n hx hb d_P_put_14 rfl (lv_at hl 0 rfl) ?_
  refine r_get C ku_P hP (by decide) rfl rfl 4 (by decide) kw_85 rfl d_P_put_15 ?_
  refine lv_iload_n hx hb d_P_put_18 rfl (lv_at hl 2 rfl) ?_
  obtain ⟨hi19, h⟩ := h
  refine r_iast C hP hD hS (by decide) (fun _ _ => rfl) rfl hi19 d_P_put_19 (fun σ19 e19 H locs hP hD hS => ?_)
  have h := h σ19 e19
  refine lv_aload_n hx hb d_P_put_20 rfl (lv_at hl 0 rfl) ?_
  refine r_get C ku_P hP (by decide) rfl rfl 2 (by decide) kw_81 rfl d_P_put_21 ?_
  refine lv_aload_n hx hb d_P_put_24 rfl (lv_at hl 0 rfl) ?_
  refine r_get C ku_P hP (by decide) rfl rfl 4 (by decide) kw_85 rfl d_P_put_25 ?_
  refine lv_iconst (v := (-1)) hx hb d_P_put_28 (by decide) ?_
  obtain ⟨hi29, h⟩ := h
  refine r_iast C hP hD hS (by decide) (fun _ _ => rfl) rfl hi29 d_P_put_29 (fun σ29 e29 H locs hP hD hS => ?_)
  have h := h σ29 e29
  refine lv_aload_n hx hb d_P_put_30 rfl (lv_at hl 0 rfl) ?_
  refine r_get C ku_P hP (by decide) rfl rfl 3 (by decide) kw_83 rfl d_P_put_31 ?_
  refine lv_aload_n hx hb d_P_put_34 rfl (lv_at hl 0 rfl) ?_
  refine r_get C ku_P hP (by decide) rfl rfl 4 (by decide) kw_85 rfl d_P_put_35 ?_
  refine lv_lconst (v := 1) hx hb d_P_put_38 (by decide) ?_
  refine lv_lconst (v := 1) hx hb d_P_put_39 (by decide) ?_
  refine r_callv C hD hS (va_runV (As := [.int (σ29.1 4 4), .long (1 : Int64), .long (1 : Int64)]) (rest := []) ⟨hx, hb, hml, hown, hts⟩ (m_F_put fr_8 h) (cwV 3 hts (g_V kw_322 kw_323 kw_324 kw_4 kw_325) rfl rfl rfl (by decide +kernel) ⟨Nat.le_of_ble_eq_true rfl, Nat.le_of_ble_eq_true rfl⟩) (r_preV (o := 8) C hP hD hS (by decide) rfl rfl) rfl rfl hl.1 rfl (lv_room (Nat.le_of_ble_eq_true rfl)) d_P_put_40 ⟨Nat.le_of_ble_eq_true rfl, Nat.le_of_ble_eq_true rfl⟩) (fun σ40 H locs h hP hD hS => ?_)
  refine lv_aload_n hx hb d_P_put_43 rfl (lv_at hl 0 rfl) ?_
  refine lv_dup hx hb d_P_put_44 rfl ?_
  refine r_get C ku_P hP (by decide) rfl rfl 4 (by decide) kw_85 rfl d_P_put_45 ?_
  refine lv_iconst (v := 1) hx hb d_P_put_48 (by decide) ?_
  refine lv_iadd hx hb d_P_put_49 ?_
  refine r_putI (ty := .int) C ku_P ft_P fo_P fn_P hP hD hS (by decide) rfl rfl 4 (by decide) kw_85 rfl (by decide +kernel) rfl rfl (Nat.le_of_ble_eq_true rfl) d_P_put_50 rfl (fun σ50 e50 H locs hP hD hS => ?_)
  have h := h σ50 e50
  refine lv_aload_n hx hb d_P_put_53 rfl (lv_at hl 0 rfl) ?_
  refine lv_dup hx hb d_P_put_54 rfl ?_
  refine r_get C ku_P hP (by decide) rfl rfl 5 (by decide) kw_87 rfl d_P_put_55 ?_
  refine lv_iload_n hx hb d_P_put_58 rfl (lv_at hl 2 rfl) ?_
  refine lv_iadd hx hb d_P_put_59 ?_
  refine r_putI (ty := .int) C ku_P ft_P fo_P fn_P hP hD hS (by decide) rfl rfl 5 (by decide) kw_87 rfl (by decide +kernel) rfl rfl (Nat.le_of_ble_eq_true rfl) d_P_put_60 rfl (fun σ60 e60 H locs hP hD hS => ?_)
  have h := h σ60 e60
  exact r_vret C hP hD hS d_P_put_63 h
def rm_P_lyingWith : Room := { frames := 0, cells := 0, slots := 0, locals := 0 }
set_option maxHeartbeats 4000000 in
set_option maxRecDepth 100000 in
theorem b_P_lyingWith_31 {p : Program} {l : Launch} {e : Env} {s : State} {m : MethodId} {args : Array Value} {below : List Frame} {meth : Method} {c : Code} {D : va_G} {cI cL cZ cS : ClassId} {ad : Nat → Nat} {wr : va_W} {A : Nat → Prop} {Q : Int32 → Mem → Prop} {K4 : Int32 → Int32 → Int32 → Mem → Prop} {x1 : Int32} {x2 : Int32} {x3 : Int32} {σ : Mem} {H : Heap} {locs : List Loc} {ls : Array Slot} (C : wC TB "PreferenceCount$Pile" c_P_lyingWith 4 (some .int) D cls (tyl cI cL cZ cS) A p s m args meth c) (hK4 : ∀ {σ : Mem} {H : Heap} {locs : List Loc} {ls : Array Slot} {x1 : Int32} {x2 : Int32} {x3 : Int32}, K4 x1 x2 x3 σ → lv_has ls 4 [(0, .ref (ad 4)), (1, .int x1), (2, .int x2), (3, .int x3)] → va_P D cls (wW 77 (fX cI cL cS ad) ad σ ++ wr) H → va_D A (wW 77 (fX cI cL cS ad) ad σ ++ wr) → va_S A s.heap H locs → W p l e (headSpec (Cond.code y_P_lyingWith c_P_lyingWith 4 (some .int) :: TB) rm_P_lyingWith).room s m args below meth c H locs 0 0 (MQ below (va_Qi Q (wB D cls (tyl cI cL cZ cS) 77 (fX cI cL cS ad) ad wr A) A) args s 0 0 A) (F0 m 4 ls [])) (h : wp_P_lyingWith_31 Q K4 x1 x2 x3 σ) (hl : lv_has ls 4 [(0, .ref (ad 4)), (1, .int x1), (2, .int x2), (3, .int x3)]) (hP : va_P D cls (wW 77 (fX cI cL cS ad) ad σ ++ wr) H) (hD : va_D A (wW 77 (fX cI cL cS ad) ad σ ++ wr)) (hS : va_S A s.heap H locs) : W p l e (headSpec (Cond.code y_P_lyingWith c_P_lyingWith 4 (some .int) :: TB) rm_P_lyingWith).room s m args below meth c H locs 0 0 (MQ below (va_Qi Q (wB D cls (tyl cI cL cZ cS) 77 (fX cI cL cS ad) ad wr A) A) args s 0 0 A) (F0 m 31 ls []) := by
  have hx := C.1
  have hb := C.2.1
  have hts := C.2.2.2.2.1
  have hown := C.2.2.2.2.2.1
  have hml := C.2.2.2.2.2.2.1
  have h : ∀ v31 : Int32, v31 = (x3 + 1) → (K4 x1 x2 v31 σ) := h
  obtain ⟨v31, e31⟩ : ∃ z : Int32, z = (x3 + 1) := ⟨_, rfl⟩
  have h := h v31 e31
  refine lv_iinc (k := 3) (v := v31) (lv' := [(3, .int v31), (0, .ref (ad 4)), (1, .int x1), (2, .int x2)]) hx hb d_P_lyingWith_31 hl rfl (by rw [e31] <;> rfl) (by decide) rfl (fun ls hl => ?_)
  refine lv_goto hx hb d_P_lyingWith_34 rfl ?_
  exact hK4 h (lv_sub hl [1, 2, 3, 0] rfl) hP hD hS
set_option maxHeartbeats 4000000 in
set_option maxRecDepth 100000 in
theorem b_P_lyingWith_4 {p : Program} {l : Launch} {e : Env} {s : State} {m : MethodId} {args : Array Value} {below : List Frame} {meth : Method} {c : Code} {D : va_G} {cI cL cZ cS : ClassId} {ad : Nat → Nat} {wr : va_W} {A : Nat → Prop} {Q : Int32 → Mem → Prop} (C : wC TB "PreferenceCount$Pile" c_P_lyingWith 4 (some .int) D cls (tyl cI cL cZ cS) A p s m args meth c) : ∀ (n : Nat) {σ : Mem} {H : Heap} {locs : List Loc} {ls : Array Slot} {x1 : Int32} {x2 : Int32} {x3 : Int32}, wp_P_lyingWith_4 Q n x1 x2 x3 σ → lv_has ls 4 [(0, .ref (ad 4)), (1, .int x1), (2, .int x2), (3, .int x3)] → va_P D cls (wW 77 (fX cI cL cS ad) ad σ ++ wr) H → va_D A (wW 77 (fX cI cL cS ad) ad σ ++ wr) → va_S A s.heap H locs → W p l e (headSpec (Cond.code y_P_lyingWith c_P_lyingWith 4 (some .int) :: TB) rm_P_lyingWith).room s m args below meth c H locs 0 0 (MQ below (va_Qi Q (wB D cls (tyl cI cL cZ cS) 77 (fX cI cL cS ad) ad wr A) A) args s 0 0 A) (F0 m 4 ls []) := by
  have hx := C.1
  have hb := C.2.1
  have hts := C.2.2.2.2.1
  have hown := C.2.2.2.2.2.1
  have hml := C.2.2.2.2.2.2.1
  intro n
  induction n with
  | zero => intro σ H locs ls x1 x2 x3 h; exact h.elim
  | succ j4 ih =>
    intro σ H locs ls x1 x2 x3 h hl hP hD hS
    have hK4 := @ih
    have h : ((σ.1 4 4) ≤ x3 → (Q x2 σ)) ∧ (¬ (σ.1 4 4) ≤ x3 → (vp_in x3 50 ∧ (((σ.1 7 (Int32.toNatClampNeg x3)) = x1 → (vp_in x3 50 ∧ (∀ v30 : Int32, v30 = (x2 + (σ.1 6 (Int32.toNatClampNeg x3))) → (wp_P_lyingWith_31 Q (wp_P_lyingWith_4 Q j4) x1 v30 x3 σ)))) ∧ (¬ (σ.1 7 (Int32.toNatClampNeg x3)) = x1 → (wp_P_lyingWith_31 Q (wp_P_lyingWith_4 Q j4) x1 x2 x3 σ))))) := h
    refine lv_iload_n hx hb d_P_lyingWith_4 rfl (lv_at hl 3 rfl) ?_
    refine lv_aload_n hx hb d_P_lyingWith_5 rfl (lv_at hl 0 rfl) ?_
    refine r_get C ku_P hP (by decide) rfl rfl 4 (by decide) kw_85 rfl d_P_lyingWith_6 ?_
    refine lv_icmp_ge hx hb d_P_lyingWith_9 rfl (fun hc9 => ?_) (fun hc9 => ?_)
    · have h := h.1 hc9
      refine lv_iload_n hx hb d_P_lyingWith_37 rfl (lv_at hl 2 rfl) ?_
      exact r_iret C hP hD hS d_P_lyingWith_38 h
    · have h := h.2 hc9
      refine lv_aload_n hx hb d_P_lyingWith_12 rfl (lv_at hl 0 rfl) ?_
      refine r_get C ku_P hP (by decide) rfl rfl 2 (by decide) kw_81 rfl d_P_lyingWith_13 ?_
      refine lv_iload_n hx hb d_P_lyingWith_16 rfl (lv_at hl 3 rfl) ?_
      obtain ⟨hi17, h⟩ := h
      refine r_iald C hP (by decide) rfl rfl hi17 d_P_lyingWith_17 ?_
      refine lv_iload_n hx hb d_P_lyingWith_18 rfl (lv_at hl 1 rfl) ?_
      refine lv_icmp_ne hx hb d_P_lyingWith_19 rfl (fun hc19 => ?_) (fun hc19 => ?_)
      · have h := h.2 hc19
        exact b_P_lyingWith_31 C hK4 h (lv_sub hl [0, 1, 2, 3] rfl) hP hD hS
      · have h := h.1 hc19
        refine lv_iload_n hx hb d_P_lyingWith_22 rfl (lv_at hl 2 rfl) ?_
        refine lv_aload_n hx hb d_P_lyingWith_23 rfl (lv_at hl 0 rfl) ?_
        refine r_get C ku_P hP (by decide) rfl rfl 1 (by decide) kw_79 rfl d_P_lyingWith_24 ?_
        refine lv_iload_n hx hb d_P_lyingWith_27 rfl (lv_at hl 3 rfl) ?_
        obtain ⟨hi28, h⟩ := h
        refine r_iald C hP (by decide) rfl rfl hi28 d_P_lyingWith_28 ?_
        refine lv_iadd hx hb d_P_lyingWith_29 ?_
        refine lv_topi (fun v30 e30 => ?_)
        have h := h v30 e30
        refine lv_istore_n (lv' := [(2, .int v30), (0, .ref (ad 4)), (1, .int x1), (3, .int x3)]) hx hb d_P_lyingWith_30 rfl hl (by decide) rfl (fun ls hl => ?_)
        exact b_P_lyingWith_31 C hK4 h (lv_sub hl [1, 2, 0, 3] rfl) hP hD hS
set_option maxHeartbeats 4000000 in
set_option maxRecDepth 100000 in
theorem m_P_lyingWith {l : Launch} {D : va_G} {cI cL cZ cS : ClassId} {ad : Nat → Nat} {wr : va_W} {sz : Nat} {Q : Int32 → Mem → Prop} {x1 : Int32} {σ : Mem} (h : wp_P_lyingWith Q x1 σ) : Met l y_P_lyingWith (Cond.code y_P_lyingWith c_P_lyingWith 4 (some .int) :: TB) rm_P_lyingWith (wPc D cls (tyl cI cL cZ cS) 77 (fX cI cL cS ad) ad wr sz σ [.ref (ad 4), .int x1]) (va_Qi Q (wB D cls (tyl cI cL cZ cS) 77 (fX cI cL cS ad) ad wr (wA 77 (fX cI cL cS ad) ad wr sz σ)) (wA 77 (fX cI cL cS ad) ad wr sz σ)) 0 0 (wA 77 (fX cI cL cS ad) ad wr sz σ) := by
  refine Met.ofW (cc := c_P_lyingWith) (maxL := 4) (ret := (some .int)) (by decide) rfl ?_
  intro p e s m args below meth c s₁ B hml hv
  obtain ⟨rfl, hsz, hP, hK, hD0, hN⟩ := hv
  subst hsz
  have hD : va_D (wA 77 (fX cI cL cS ad) ad wr s.heap.size σ) (wW 77 (fX cI cL cS ad) ad σ ++ wr) := hD0.self (sz := s.heap.size)
  have hA : ∀ q : Nat, s.heap.size ≤ q → (wA 77 (fX cI cL cS ad) ad wr s.heap.size σ) q := fun q h => Or.inr h
  have hN : NX (wA 77 (fX cI cL cS ad) ad wr s.heap.size σ) s s.heap := hN
  generalize (wA 77 (fX cI cL cS ad) ad wr s.heap.size σ) = A at hD hA hN ⊢
  have C : wC TB "PreferenceCount$Pile" c_P_lyingWith 4 (some .int) D cls (tyl cI cL cZ cS) A p s m ([.ref (ad 4), .int x1].toArray) meth c := ⟨B.exec, B.bytes, B.returns, B.notSynchronized, fun w hw => atoms_spec (ws := Cond.code y_P_lyingWith c_P_lyingWith 4 (some .int) :: TB) B.pre w (List.mem_cons_of_mem _ hw), findClass_of_methodNamed B.named, hml, hK, hN, hA⟩
  have hx := C.1
  have hb := C.2.1
  have hts := C.2.2.2.2.1
  have hown := C.2.2.2.2.2.1
  have hS : va_S A s.heap s.heap [] := va_S.rf
  have hl := lv_entry ([.ref (ad 4), .int x1]) (n := 4) (Nat.le_of_ble_eq_true rfl)
  rw [lg_entry_eq]
  generalize (lg_sl ([.ref (ad 4), .int x1]) ++ List.replicate (4 - (lg_sl ([.ref (ad 4), .int x1])).length) Slot.unset).toArray = ls at hl ⊢
  have hl : lv_has ls 4 [(0, .ref (ad 4)), (1, .int x1)] := hl
  have h : ∃ k4 : Nat, wp_P_lyingWith_4 Q k4 x1 (0 : Int32) (0 : Int32) σ := h
  refine lv_iconst (v := 0) hx hb d_P_lyingWith_0 (by decide) ?_
  refine lv_istore_n (lv' := [(2, .int (0 : Int32)), (0, .ref (ad 4)), (1, .int x1)]) hx hb d_P_lyingWith_1 rfl hl (by decide) rfl (fun ls hl => ?_)
  refine lv_iconst (v := 0) hx hb d_P_lyingWith_2 (by decide) ?_
  refine lv_istore_n (lv' := [(3, .int (0 : Int32)), (2, .int (0 : Int32)), (0, .ref (ad 4)), (1, .int x1)]) hx hb d_P_lyingWith_3 rfl hl (by decide) rfl (fun ls hl => ?_)
  obtain ⟨n, h⟩ := h
  exact b_P_lyingWith_4 C n h (lv_sub hl [2, 3, 1, 0] rfl) hP hD hS
def rm_S_clear : Room := { frames := 2, cells := 0, slots := 0, locals := 44 }
set_option maxHeartbeats 4000000 in
set_option maxRecDepth 100000 in
theorem m_S_clear {l : Launch} {D : va_G} {cI cL cZ cS : ClassId} {ad : Nat → Nat} {wr : va_W} {sz : Nat} {Q : Mem → Prop} {o : Nat} {σ : Mem} (ho : isSt o) (h : wp_S_clear Q o σ) : Met l y_S_clear (Cond.code y_S_clear c_S_clear 1 none :: TB) rm_S_clear (wPc D cls (tyl cI cL cZ cS) 77 (fX cI cL cS ad) ad wr sz σ [.ref (ad o)]) (va_Qv Q (wB D cls (tyl cI cL cZ cS) 77 (fX cI cL cS ad) ad wr (wA 77 (fX cI cL cS ad) ad wr sz σ)) (wA 77 (fX cI cL cS ad) ad wr sz σ)) 0 0 (wA 77 (fX cI cL cS ad) ad wr sz σ) := by
  refine Met.ofW (cc := c_S_clear) (maxL := 1) (ret := none) (by decide) rfl ?_
  intro p e s m args below meth c s₁ B hml hv
  obtain ⟨rfl, hsz, hP, hK, hD0, hN⟩ := hv
  subst hsz
  have hD : va_D (wA 77 (fX cI cL cS ad) ad wr s.heap.size σ) (wW 77 (fX cI cL cS ad) ad σ ++ wr) := hD0.self (sz := s.heap.size)
  have hA : ∀ q : Nat, s.heap.size ≤ q → (wA 77 (fX cI cL cS ad) ad wr s.heap.size σ) q := fun q h => Or.inr h
  have hN : NX (wA 77 (fX cI cL cS ad) ad wr s.heap.size σ) s s.heap := hN
  generalize (wA 77 (fX cI cL cS ad) ad wr s.heap.size σ) = A at hD hA hN ⊢
  have C : wC TB "PreferenceCount$Stage" c_S_clear 1 none D cls (tyl cI cL cZ cS) A p s m ([.ref (ad o)].toArray) meth c := ⟨B.exec, B.bytes, B.returns, B.notSynchronized, fun w hw => atoms_spec (ws := Cond.code y_S_clear c_S_clear 1 none :: TB) B.pre w (List.mem_cons_of_mem _ hw), findClass_of_methodNamed B.named, hml, hK, hN, hA⟩
  have hx := C.1
  have hb := C.2.1
  have hts := C.2.2.2.2.1
  have hown := C.2.2.2.2.2.1
  have hS : va_S A s.heap s.heap [] := va_S.rf
  have hl := lv_entry ([.ref (ad o)]) (n := 1) (Nat.le_of_ble_eq_true rfl)
  rw [lg_entry_eq]
  generalize (lg_sl ([.ref (ad o)]) ++ List.replicate (1 - (lg_sl ([.ref (ad o)])).length) Slot.unset).toArray = ls at hl ⊢
  have hl : lv_has ls 1 [(0, .ref (ad o))] := hl
  have h : wp_F_clear (fun σ4 => wp_A_fillI (fun σ12 => Q σ12) (o + 4) 13 (0 : Int32) σ4) (o + 1) σ := h
  refine lv_aload_n hx hb d_S_clear_0 rfl (lv_at hl 0 rfl) ?_
  refine r_get C ku_S hP (st_lt ho) (st_cell ho _ _) rfl 0 (by decide) kw_111 rfl d_S_clear_1 ?_
  refine r_callv C hD hS (va_runV (As := []) (rest := []) ⟨hx, hb, hml, hown, hts⟩ (m_F_clear (st_fr ho) h) (cwV 0 hts (g_V kw_346 kw_347 kw_348 kw_4 kw_349) rfl rfl rfl (by decide +kernel) ⟨Nat.le_of_ble_eq_true rfl, Nat.le_of_ble_eq_true rfl⟩) (r_preV (o := (o + 1)) C hP hD hS (fr_lt (st_fr ho)) (fr_cell (st_fr ho) _ _) rfl) rfl rfl hl.1 rfl (lv_room (Nat.le_of_ble_eq_true rfl)) d_S_clear_4 ⟨Nat.le_of_ble_eq_true rfl, Nat.le_of_ble_eq_true rfl⟩) (fun σ4 H locs h hP hD hS => ?_)
  refine lv_aload_n hx hb d_S_clear_7 rfl (lv_at hl 0 rfl) ?_
  refine r_get C ku_S hP (st_lt ho) (st_cell ho _ _) rfl 1 (by decide) kw_113 rfl d_S_clear_8 ?_
  refine lv_iconst (v := 0) hx hb d_S_clear_11 (by decide) ?_
  refine r_callv C hD hS (va_runS (As := [.ref (ad (o + 4)), .int (0 : Int32)]) (rest := []) ⟨hx, hb, hml, hown, hts⟩ (m_A_fillI (st_lt4 ho) (st_cell4 ho) h) (va_cwS 2 hts (g_S kw_350 kw_351 kw_5 kw_352) rfl rfl rfl (by decide +kernel) ⟨Nat.le_of_ble_eq_true rfl, Nat.le_of_ble_eq_true rfl⟩) (r_preS C hP hD hS) rfl rfl hl.1 rfl (lv_room (Nat.le_of_ble_eq_true rfl)) d_S_clear_12 ⟨Nat.le_of_ble_eq_true rfl, Nat.le_of_ble_eq_true rfl⟩) (fun σ12 H locs h hP hD hS => ?_)
  exact r_vret C hP hD hS d_S_clear_15 h
def rm_S_followOn : Room := { frames := 2, cells := 0, slots := 0, locals := 61 }
set_option maxHeartbeats 4000000 in
set_option maxRecDepth 100000 in
theorem m_S_followOn {l : Launch} {D : va_G} {cI cL cZ cS : ClassId} {ad : Nat → Nat} {wr : va_W} {sz : Nat} {Q : Mem → Prop} {o : Nat} {a1 : Nat} {σ : Mem} (ho : isSt o) (ha1 : isSt a1) (h : wp_S_followOn Q o a1 σ) : Met l y_S_followOn (Cond.code y_S_followOn c_S_followOn 2 none :: TB) rm_S_followOn (wPc D cls (tyl cI cL cZ cS) 77 (fX cI cL cS ad) ad wr sz σ [.ref (ad o), .ref (ad a1)]) (va_Qv Q (wB D cls (tyl cI cL cZ cS) 77 (fX cI cL cS ad) ad wr (wA 77 (fX cI cL cS ad) ad wr sz σ)) (wA 77 (fX cI cL cS ad) ad wr sz σ)) 0 0 (wA 77 (fX cI cL cS ad) ad wr sz σ) := by
  refine Met.ofW (cc := c_S_followOn) (maxL := 2) (ret := none) (by decide) rfl ?_
  intro p e s m args below meth c s₁ B hml hv
  obtain ⟨rfl, hsz, hP, hK, hD0, hN⟩ := hv
  subst hsz
  have hD : va_D (wA 77 (fX cI cL cS ad) ad wr s.heap.size σ) (wW 77 (fX cI cL cS ad) ad σ ++ wr) := hD0.self (sz := s.heap.size)
  have hA : ∀ q : Nat, s.heap.size ≤ q → (wA 77 (fX cI cL cS ad) ad wr s.heap.size σ) q := fun q h => Or.inr h
  have hN : NX (wA 77 (fX cI cL cS ad) ad wr s.heap.size σ) s s.heap := hN
  generalize (wA 77 (fX cI cL cS ad) ad wr s.heap.size σ) = A at hD hA hN ⊢
  have C : wC TB "PreferenceCount$Stage" c_S_followOn 2 none D cls (tyl cI cL cZ cS) A p s m ([.ref (ad o), .ref (ad a1)].toArray) meth c := ⟨B.exec, B.bytes, B.returns, B.notSynchronized, fun w hw => atoms_spec (ws := Cond.code y_S_followOn c_S_followOn 2 none :: TB) B.pre w (List.mem_cons_of_mem _ hw), findClass_of_methodNamed B.named, hml, hK, hN, hA⟩
  have hx := C.1
  have hb := C.2.1
  have hts := C.2.2.2.2.1
  have hown := C.2.2.2.2.2.1
  have hS : va_S A s.heap s.heap [] := va_S.rf
  have hl := lv_entry ([.ref (ad o), .ref (ad a1)]) (n := 2) (Nat.le_of_ble_eq_true rfl)
  rw [lg_entry_eq]
  generalize (lg_sl ([.ref (ad o), .ref (ad a1)]) ++ List.replicate (2 - (lg_sl ([.ref (ad o), .ref (ad a1)])).length) Slot.unset).toArray = ls at hl ⊢
  have hl : lv_has ls 2 [(0, .ref (ad o)), (1, .ref (ad a1))] := hl
  have h : wp_F_copy (fun σ8 => wp_A_fillI (fun σ16 => Q σ16) (o + 4) 13 (0 : Int32) σ8) (o + 1) (a1 + 1) σ := h
  refine lv_aload_n hx hb d_S_followOn_0 rfl (lv_at hl 0 rfl) ?_
  refine r_get C ku_S hP (st_lt ho) (st_cell ho _ _) rfl 0 (by decide) kw_111 rfl d_S_followOn_1 ?_
  refine lv_aload_n hx hb d_S_followOn_4 rfl (lv_at hl 1 rfl) ?_
  refine r_get C ku_S hP (st_lt ha1) (st_cell ha1 _ _) rfl 0 (by decide) kw_111 rfl d_S_followOn_5 ?_
  refine r_callv C hD hS (va_runV (As := [.ref (ad (a1 + 1))]) (rest := []) ⟨hx, hb, hml, hown, hts⟩ (m_F_copy (st_fr ho) (st_fr ha1) h) (cwV 1 hts (g_V kw_425 kw_426 kw_427 kw_4 kw_428) rfl rfl rfl (by decide +kernel) ⟨Nat.le_of_ble_eq_true rfl, Nat.le_of_ble_eq_true rfl⟩) (r_preV (o := (o + 1)) C hP hD hS (fr_lt (st_fr ho)) (fr_cell (st_fr ho) _ _) rfl) rfl rfl hl.1 rfl (lv_room (Nat.le_of_ble_eq_true rfl)) d_S_followOn_8 ⟨Nat.le_of_ble_eq_true rfl, Nat.le_of_ble_eq_true rfl⟩) (fun σ8 H locs h hP hD hS => ?_)
  refine lv_aload_n hx hb d_S_followOn_11 rfl (lv_at hl 0 rfl) ?_
  refine r_get C ku_S hP (st_lt ho) (st_cell ho _ _) rfl 1 (by decide) kw_113 rfl d_S_followOn_12 ?_
  refine lv_iconst (v := 0) hx hb d_S_followOn_15 (by decide) ?_
  refine r_callv C hD hS (va_runS (As := [.ref (ad (o + 4)), .int (0 : Int32)]) (rest := []) ⟨hx, hb, hml, hown, hts⟩ (m_A_fillI (st_lt4 ho) (st_cell4 ho) h) (va_cwS 2 hts (g_S kw_350 kw_351 kw_5 kw_352) rfl rfl rfl (by decide +kernel) ⟨Nat.le_of_ble_eq_true rfl, Nat.le_of_ble_eq_true rfl⟩) (r_preS C hP hD hS) rfl rfl hl.1 rfl (lv_room (Nat.le_of_ble_eq_true rfl)) d_S_followOn_16 ⟨Nat.le_of_ble_eq_true rfl, Nat.le_of_ble_eq_true rfl⟩) (fun σ16 H locs h hP hD hS => ?_)
  exact r_vret C hP hD hS d_S_followOn_19 h
def rm_C_startAnew : Room := { frames := 1, cells := 0, slots := 0, locals := 22 }
set_option maxHeartbeats 4000000 in
set_option maxRecDepth 100000 in
theorem m_C_startAnew {l : Launch} {D : va_G} {cI cL cZ cS : ClassId} {ad : Nat → Nat} {wr : va_W} {sz : Nat} {Q : Mem → Prop} {x1 : Int32} {x2 : Int32} {σ : Mem} (h : wp_C_startAnew Q x1 x2 σ) : Met l y_C_startAnew (Cond.code y_C_startAnew c_C_startAnew 3 none :: TB) rm_C_startAnew (wPc D cls (tyl cI cL cZ cS) 77 (fX cI cL cS ad) ad wr sz σ [.ref (ad 0), .int x1, .int x2]) (va_Qv Q (wB D cls (tyl cI cL cZ cS) 77 (fX cI cL cS ad) ad wr (wA 77 (fX cI cL cS ad) ad wr sz σ)) (wA 77 (fX cI cL cS ad) ad wr sz σ)) 0 0 (wA 77 (fX cI cL cS ad) ad wr sz σ) := by
  refine Met.ofW (cc := c_C_startAnew) (maxL := 3) (ret := none) (by decide) rfl ?_
  intro p e s m args below meth c s₁ B hml hv
  obtain ⟨rfl, hsz, hP, hK, hD0, hN⟩ := hv
  subst hsz
  have hD : va_D (wA 77 (fX cI cL cS ad) ad wr s.heap.size σ) (wW 77 (fX cI cL cS ad) ad σ ++ wr) := hD0.self (sz := s.heap.size)
  have hA : ∀ q : Nat, s.heap.size ≤ q → (wA 77 (fX cI cL cS ad) ad wr s.heap.size σ) q := fun q h => Or.inr h
  have hN : NX (wA 77 (fX cI cL cS ad) ad wr s.heap.size σ) s s.heap := hN
  generalize (wA 77 (fX cI cL cS ad) ad wr s.heap.size σ) = A at hD hA hN ⊢
  have C : wC TB "PreferenceCount" c_C_startAnew 3 none D cls (tyl cI cL cZ cS) A p s m ([.ref (ad 0), .int x1, .int x2].toArray) meth c := ⟨B.exec, B.bytes, B.returns, B.notSynchronized, fun w hw => atoms_spec (ws := Cond.code y_C_startAnew c_C_startAnew 3 none :: TB) B.pre w (List.mem_cons_of_mem _ hw), findClass_of_methodNamed B.named, hml, hK, hN, hA⟩
  have hx := C.1
  have hb := C.2.1
  have hts := C.2.2.2.2.1
  have hown := C.2.2.2.2.2.1
  have hS : va_S A s.heap s.heap [] := va_S.rf
  have hl := lv_entry ([.ref (ad 0), .int x1, .int x2]) (n := 3) (Nat.le_of_ble_eq_true rfl)
  rw [lg_entry_eq]
  generalize (lg_sl ([.ref (ad 0), .int x1, .int x2]) ++ List.replicate (3 - (lg_sl ([.ref (ad 0), .int x1, .int x2])).length) Slot.unset).toArray = ls at hl ⊢
  have hl : lv_has ls 3 [(0, .ref (ad 0)), (1, .int x1), (2, .int x2)] := hl
  have h : wp_R_clear (fun σ5 => wp_P_clear (fun σ12 => ∀ σ17 : Mem, σ17 = mI σ12 0 3 x2 → (∀ σ22 : Mem, σ22 = mI σ17 0 4 (-1 : Int32) → (((0 : Int32) = 0 ∨ (0 : Int32) = 1) ∧ (∀ σ27 : Mem, σ27 = mI σ22 0 5 (0 : Int32) → (∀ σ32 : Mem, σ32 = mL σ27 0 6 (0 : Int64) → (∀ σ37 : Mem, σ37 = mL σ32 0 7 (0 : Int64) → (Q σ37))))))) σ5) x1 σ := h
  refine lv_aload_n hx hb d_C_startAnew_0 rfl (lv_at hl 0 rfl) ?_
  refine r_get C ku_C hP (by decide) rfl rfl 0 (by decide) kw_132 rfl d_C_startAnew_1 ?_
  refine lv_iload_n hx hb d_C_startAnew_4 rfl (lv_at hl 1 rfl) ?_
  refine r_callv C hD hS (va_runV (As := [.int x1]) (rest := []) ⟨hx, hb, hml, hown, hts⟩ (m_R_clear h) (cwV 1 hts (g_V kw_124 kw_125 kw_126 kw_2 kw_127) rfl rfl rfl (by decide +kernel) ⟨Nat.le_of_ble_eq_true rfl, Nat.le_of_ble_eq_true rfl⟩) (r_preV (o := 1) C hP hD hS (by decide) rfl rfl) rfl rfl hl.1 rfl (lv_room (Nat.le_of_ble_eq_true rfl)) d_C_startAnew_5 ⟨Nat.le_of_ble_eq_true rfl, Nat.le_of_ble_eq_true rfl⟩) (fun σ5 H locs h hP hD hS => ?_)
  refine lv_aload_n hx hb d_C_startAnew_8 rfl (lv_at hl 0 rfl) ?_
  refine r_get C ku_C hP (by decide) rfl rfl 1 (by decide) kw_133 rfl d_C_startAnew_9 ?_
  refine r_callv C hD hS (va_runV (As := []) (rest := []) ⟨hx, hb, hml, hown, hts⟩ (m_P_clear h) (cwV 0 hts (g_V kw_128 kw_129 kw_130 kw_3 kw_131) rfl rfl rfl (by decide +kernel) ⟨Nat.le_of_ble_eq_true rfl, Nat.le_of_ble_eq_true rfl⟩) (r_preV (o := 4) C hP hD hS (by decide) rfl rfl) rfl rfl hl.1 rfl (lv_room (Nat.le_of_ble_eq_true rfl)) d_C_startAnew_12 ⟨Nat.le_of_ble_eq_true rfl, Nat.le_of_ble_eq_true rfl⟩) (fun σ12 H locs h hP hD hS => ?_)
  refine lv_aload_n hx hb d_C_startAnew_15 rfl (lv_at hl 0 rfl) ?_
  refine lv_iload_n hx hb d_C_startAnew_16 rfl (lv_at hl 2 rfl) ?_
  refine r_putI (ty := .int) C ku_C ft_C fo_C fn_C hP hD hS (by decide) rfl rfl 3 (by decide) kw_135 rfl (by decide +kernel) rfl rfl (Nat.le_of_ble_eq_true rfl) d_C_startAnew_17 rfl (fun σ17 e17 H locs hP hD hS => ?_)
  have h := h σ17 e17
  refine lv_aload_n hx hb d_C_startAnew_20 rfl (lv_at hl 0 rfl) ?_
  refine lv_iconst (v := (-1)) hx hb d_C_startAnew_21 (by decide) ?_
  refine r_putI (ty := .int) C ku_C ft_C fo_C fn_C hP hD hS (by decide) rfl rfl 4 (by decide) kw_136 rfl (by decide +kernel) rfl rfl (Nat.le_of_ble_eq_true rfl) d_C_startAnew_22 rfl (fun σ22 e22 H locs hP hD hS => ?_)
  have h := h σ22 e22
  refine lv_aload_n hx hb d_C_startAnew_25 rfl (lv_at hl 0 rfl) ?_
  refine lv_iconst (v := 0) hx hb d_C_startAnew_26 (by decide) ?_
  obtain ⟨hb27, h⟩ := h
  refine r_putI (ty := .boolean) C ku_C ft_C fo_C fn_C hP hD hS (by decide) rfl rfl 5 (by decide) kw_137 rfl (by decide +kernel) (nar_b hb27) (fit_b hb27) (Nat.le_of_ble_eq_true rfl) d_C_startAnew_27 rfl (fun σ27 e27 H locs hP hD hS => ?_)
  have h := h σ27 e27
  refine lv_aload_n hx hb d_C_startAnew_30 rfl (lv_at hl 0 rfl) ?_
  refine lv_lconst (v := 0) hx hb d_C_startAnew_31 (by decide) ?_
  refine r_putL C ku_C ft_C fo_C fn_C hP hD hS (by decide) rfl rfl 6 (by decide) kw_138 rfl (by decide +kernel) (Nat.le_of_ble_eq_true rfl) d_C_startAnew_32 rfl (fun σ32 e32 H locs hP hD hS => ?_)
  have h := h σ32 e32
  refine lv_aload_n hx hb d_C_startAnew_35 rfl (lv_at hl 0 rfl) ?_
  refine lv_lconst (v := 0) hx hb d_C_startAnew_36 (by decide) ?_
  refine r_putL C ku_C ft_C fo_C fn_C hP hD hS (by decide) rfl rfl 7 (by decide) kw_139 rfl (by decide +kernel) (Nat.le_of_ble_eq_true rfl) d_C_startAnew_37 rfl (fun σ37 e37 H locs hP hD hS => ?_)
  have h := h σ37 e37
  exact r_vret C hP hD hS d_C_startAnew_40 h
def rm_C_hasBegun : Room := { frames := 0, cells := 0, slots := 0, locals := 0 }
set_option maxHeartbeats 4000000 in
set_option maxRecDepth 100000 in
theorem b_C_hasBegun_13 {p : Program} {l : Launch} {e : Env} {s : State} {m : MethodId} {args : Array Value} {below : List Frame} {meth : Method} {c : Code} {D : va_G} {cI cL cZ cS : ClassId} {ad : Nat → Nat} {wr : va_W} {A : Nat → Prop} {Q : Int32 → Mem → Prop} {t0 : Int32} {σ : Mem} {H : Heap} {locs : List Loc} {ls : Array Slot} (C : wC TB "PreferenceCount" c_C_hasBegun 1 (some .boolean) D cls (tyl cI cL cZ cS) A p s m args meth c) (h : wp_C_hasBegun_13 Q t0 σ) (hl : lv_has ls 1 []) (hP : va_P D cls (wW 77 (fX cI cL cS ad) ad σ ++ wr) H) (hD : va_D A (wW 77 (fX cI cL cS ad) ad σ ++ wr)) (hS : va_S A s.heap H locs) : W p l e (headSpec (Cond.code y_C_hasBegun c_C_hasBegun 1 (some .boolean) :: TB) rm_C_hasBegun).room s m args below meth c H locs 0 0 (MQ below (va_Qi Q (wB D cls (tyl cI cL cZ cS) 77 (fX cI cL cS ad) ad wr A) A) args s 0 0 A) (F0 m 13 ls [.int t0]) := by
  have hx := C.1
  have hb := C.2.1
  have hts := C.2.2.2.2.1
  have hown := C.2.2.2.2.2.1
  have hml := C.2.2.2.2.2.2.1
  have h : (t0 = 0 ∨ t0 = 1) ∧ Q t0 σ := h
  obtain ⟨hb13, h⟩ := h
  exact r_zret C hb13 hP hD hS d_C_hasBegun_13 h
set_option maxHeartbeats 4000000 in
set_option maxRecDepth 100000 in
theorem m_C_hasBegun {l : Launch} {D : va_G} {cI cL cZ cS : ClassId} {ad : Nat → Nat} {wr : va_W} {sz : Nat} {Q : Int32 → Mem → Prop} {σ : Mem} (h : wp_C_hasBegun Q σ) : Met l y_C_hasBegun (Cond.code y_C_hasBegun c_C_hasBegun 1 (some .boolean) :: TB) rm_C_hasBegun (wPc D cls (tyl cI cL cZ cS) 77 (fX cI cL cS ad) ad wr sz σ [.ref (ad 0)]) (va_Qi Q (wB D cls (tyl cI cL cZ cS) 77 (fX cI cL cS ad) ad wr (wA 77 (fX cI cL cS ad) ad wr sz σ)) (wA 77 (fX cI cL cS ad) ad wr sz σ)) 0 0 (wA 77 (fX cI cL cS ad) ad wr sz σ) := by
  refine Met.ofW (cc := c_C_hasBegun) (maxL := 1) (ret := (some .boolean)) (by decide) rfl ?_
  intro p e s m args below meth c s₁ B hml hv
  obtain ⟨rfl, hsz, hP, hK, hD0, hN⟩ := hv
  subst hsz
  have hD : va_D (wA 77 (fX cI cL cS ad) ad wr s.heap.size σ) (wW 77 (fX cI cL cS ad) ad σ ++ wr) := hD0.self (sz := s.heap.size)
  have hA : ∀ q : Nat, s.heap.size ≤ q → (wA 77 (fX cI cL cS ad) ad wr s.heap.size σ) q := fun q h => Or.inr h
  have hN : NX (wA 77 (fX cI cL cS ad) ad wr s.heap.size σ) s s.heap := hN
  generalize (wA 77 (fX cI cL cS ad) ad wr s.heap.size σ) = A at hD hA hN ⊢
  have C : wC TB "PreferenceCount" c_C_hasBegun 1 (some .boolean) D cls (tyl cI cL cZ cS) A p s m ([.ref (ad 0)].toArray) meth c := ⟨B.exec, B.bytes, B.returns, B.notSynchronized, fun w hw => atoms_spec (ws := Cond.code y_C_hasBegun c_C_hasBegun 1 (some .boolean) :: TB) B.pre w (List.mem_cons_of_mem _ hw), findClass_of_methodNamed B.named, hml, hK, hN, hA⟩
  have hx := C.1
  have hb := C.2.1
  have hts := C.2.2.2.2.1
  have hown := C.2.2.2.2.2.1
  have hS : va_S A s.heap s.heap [] := va_S.rf
  have hl := lv_entry ([.ref (ad 0)]) (n := 1) (Nat.le_of_ble_eq_true rfl)
  rw [lg_entry_eq]
  generalize (lg_sl ([.ref (ad 0)]) ++ List.replicate (1 - (lg_sl ([.ref (ad 0)])).length) Slot.unset).toArray = ls at hl ⊢
  have hl : lv_has ls 1 [(0, .ref (ad 0))] := hl
  have h : ((σ.1 0 4) = (-1 : Int32) → (wp_C_hasBegun_13 Q (0 : Int32) σ)) ∧ (¬ (σ.1 0 4) = (-1 : Int32) → (wp_C_hasBegun_13 Q (1 : Int32) σ)) := h
  refine lv_aload_n hx hb d_C_hasBegun_0 rfl (lv_at hl 0 rfl) ?_
  refine r_get C ku_C hP (by decide) rfl rfl 4 (by decide) kw_136 rfl d_C_hasBegun_1 ?_
  refine lv_iconst (v := (-1)) hx hb d_C_hasBegun_4 (by decide) ?_
  refine lv_icmp_eq hx hb d_C_hasBegun_5 rfl (fun hc5 => ?_) (fun hc5 => ?_)
  · have h := h.1 hc5
    refine lv_iconst (v := 0) hx hb d_C_hasBegun_12 (by decide) ?_
    exact b_C_hasBegun_13 C h (lv_sub hl [] rfl) hP hD hS
  · have h := h.2 hc5
    refine lv_iconst (v := 1) hx hb d_C_hasBegun_8 (by decide) ?_
    refine lv_goto hx hb d_C_hasBegun_9 rfl ?_
    exact b_C_hasBegun_13 C h (lv_sub hl [] rfl) hP hD hS
def rm_C_isRanking : Room := { frames := 1, cells := 0, slots := 0, locals := 22 }
set_option maxHeartbeats 4000000 in
set_option maxRecDepth 100000 in
theorem b_C_isRanking_62 {p : Program} {l : Launch} {e : Env} {s : State} {m : MethodId} {args : Array Value} {below : List Frame} {meth : Method} {c : Code} {D : va_G} {cI cL cZ cS : ClassId} {ad : Nat → Nat} {wr : va_W} {A : Nat → Prop} {Q : Int32 → Mem → Prop} {σ : Mem} {H : Heap} {locs : List Loc} {ls : Array Slot} (C : wC TB "PreferenceCount" c_C_isRanking 7 (some .boolean) D cls (tyl cI cL cZ cS) A p s m args meth c) (h : wp_C_isRanking_62 Q σ) (hl : lv_has ls 7 []) (hP : va_P D cls (wW 77 (fX cI cL cS ad) ad σ ++ wr) H) (hD : va_D A (wW 77 (fX cI cL cS ad) ad σ ++ wr)) (hS : va_S A s.heap H locs) : W p l e (headSpec (Cond.code y_C_isRanking c_C_isRanking 7 (some .boolean) :: TB) rm_C_isRanking).room s m args below meth c H locs 0 0 (MQ below (va_Qi Q (wB D cls (tyl cI cL cZ cS) 77 (fX cI cL cS ad) ad wr A) A) args s 0 0 A) (F0 m 62 ls []) := by
  have hx := C.1
  have hb := C.2.1
  have hts := C.2.2.2.2.1
  have hown := C.2.2.2.2.2.1
  have hml := C.2.2.2.2.2.2.1
  have h : ((0 : Int32) = 0 ∨ (0 : Int32) = 1) ∧ Q (0 : Int32) σ := h
  refine lv_iconst (v := 0) hx hb d_C_isRanking_62 (by decide) ?_
  obtain ⟨hb63, h⟩ := h
  exact r_zret C hb63 hP hD hS d_C_isRanking_63 h
set_option maxHeartbeats 4000000 in
set_option maxRecDepth 100000 in
theorem b_C_isRanking_36 {p : Program} {l : Launch} {e : Env} {s : State} {m : MethodId} {args : Array Value} {below : List Frame} {meth : Method} {c : Code} {D : va_G} {cI cL cZ cS : ClassId} {ad : Nat → Nat} {wr : va_W} {A : Nat → Prop} {Q : Int32 → Mem → Prop} {t0 : Int32} {σ : Mem} {H : Heap} {locs : List Loc} {ls : Array Slot} (C : wC TB "PreferenceCount" c_C_isRanking 7 (some .boolean) D cls (tyl cI cL cZ cS) A p s m args meth c) (h : wp_C_isRanking_36 Q t0 σ) (hl : lv_has ls 7 []) (hP : va_P D cls (wW 77 (fX cI cL cS ad) ad σ ++ wr) H) (hD : va_D A (wW 77 (fX cI cL cS ad) ad σ ++ wr)) (hS : va_S A s.heap H locs) : W p l e (headSpec (Cond.code y_C_isRanking c_C_isRanking 7 (some .boolean) :: TB) rm_C_isRanking).room s m args below meth c H locs 0 0 (MQ below (va_Qi Q (wB D cls (tyl cI cL cZ cS) 77 (fX cI cL cS ad) ad wr A) A) args s 0 0 A) (F0 m 36 ls [.int t0]) := by
  have hx := C.1
  have hb := C.2.1
  have hts := C.2.2.2.2.1
  have hown := C.2.2.2.2.2.1
  have hml := C.2.2.2.2.2.2.1
  have h : (t0 = 0 ∨ t0 = 1) ∧ Q t0 σ := h
  obtain ⟨hb36, h⟩ := h
  exact r_zret C hb36 hP hD hS d_C_isRanking_36 h
set_option maxHeartbeats 4000000 in
set_option maxRecDepth 100000 in
theorem b_C_isRanking_5 {p : Program} {l : Launch} {e : Env} {s : State} {m : MethodId} {args : Array Value} {below : List Frame} {meth : Method} {c : Code} {D : va_G} {cI cL cZ cS : ClassId} {ad : Nat → Nat} {wr : va_W} {A : Nat → Prop} {Q : Int32 → Mem → Prop} (C : wC TB "PreferenceCount" c_C_isRanking 7 (some .boolean) D cls (tyl cI cL cZ cS) A p s m args meth c) : ∀ (n : Nat) {σ : Mem} {H : Heap} {locs : List Loc} {ls : Array Slot} {y1 : Int64} {x3 : Int32} {x4 : Int32}, wp_C_isRanking_5 Q n y1 x3 x4 σ → lv_has ls 7 [(0, .ref (ad 0)), (1, .long y1), (3, .int x3), (4, .int x4)] → va_P D cls (wW 77 (fX cI cL cS ad) ad σ ++ wr) H → va_D A (wW 77 (fX cI cL cS ad) ad σ ++ wr) → va_S A s.heap H locs → W p l e (headSpec (Cond.code y_C_isRanking c_C_isRanking 7 (some .boolean) :: TB) rm_C_isRanking).room s m args below meth c H locs 0 0 (MQ below (va_Qi Q (wB D cls (tyl cI cL cZ cS) 77 (fX cI cL cS ad) ad wr A) A) args s 0 0 A) (F0 m 5 ls []) := by
  have hx := C.1
  have hb := C.2.1
  have hts := C.2.2.2.2.1
  have hown := C.2.2.2.2.2.1
  have hml := C.2.2.2.2.2.2.1
  intro n
  induction n with
  | zero => intro σ H locs ls y1 x3 x4 h; exact h.elim
  | succ j5 ih =>
    intro σ H locs ls y1 x3 x4 h hl hP hD hS
    have hK5 := @ih
    have h : ((7 : Int32) < x4 → (((0 : Int32) = 0 ∨ (0 : Int32) = 1) ∧ Q (0 : Int32) σ)) ∧ (¬ (7 : Int32) < x4 → (wp_C_candidateAt (fun r15 σ15 => (r15 = (-1 : Int32) → ((x4 ≤ 0 → (wp_C_isRanking_36 Q (0 : Int32) σ15)) ∧ (¬ x4 ≤ 0 → (wp_C_isRanking_36 Q (1 : Int32) σ15)))) ∧ (¬ r15 = (-1 : Int32) → (∀ v41 : Int32, v41 = ((1 : Int32) <<< (r15 &&& 31)) → (wp_R_has (fun r49 σ49 => (r49 = 0 → (wp_C_isRanking_62 Q σ49)) ∧ (¬ r49 = 0 → (((x3 &&& v41) = 0 → (∀ v68 : Int32, v68 = (x3 ||| v41) → (∀ v69 : Int32, v69 = (x4 + 1) → ((wp_C_isRanking_5 Q j5) y1 v68 v69 σ49)))) ∧ (¬ (x3 &&& v41) = 0 → (wp_C_isRanking_62 Q σ49))))) r15 σ15)))) y1 x4 σ)) := h
    refine lv_iload hx hb d_C_isRanking_5 (lv_at hl 3 rfl) ?_
    refine lv_bipush (v := 7) hx hb d_C_isRanking_7 (by decide) ?_
    refine lv_icmp_gt hx hb d_C_isRanking_9 rfl (fun hc9 => ?_) (fun hc9 => ?_)
    · have h := h.1 hc9
      refine lv_iconst (v := 0) hx hb d_C_isRanking_75 (by decide) ?_
      obtain ⟨hb76, h⟩ := h
      exact r_zret C hb76 hP hD hS d_C_isRanking_76 h
    · have h := h.2 hc9
      refine lv_lload_n hx hb d_C_isRanking_12 rfl (lv_at hl 1 rfl) ?_
      refine lv_iload hx hb d_C_isRanking_13 (lv_at hl 3 rfl) ?_
      refine r_calli C hD hS (va_runS (As := [.long y1, .int x4]) (rest := []) ⟨hx, hb, hml, hown, hts⟩ (m_C_candidateAt h) (va_cwS 2 hts (g_S kw_313 kw_314 kw_1 kw_315) rfl rfl rfl (by decide +kernel) ⟨Nat.le_of_ble_eq_true rfl, Nat.le_of_ble_eq_true rfl⟩) (r_preS C hP hD hS) rfl rfl hl.1 rfl (lv_room (Nat.le_of_ble_eq_true rfl)) d_C_isRanking_15 ⟨Nat.le_of_ble_eq_true rfl, Nat.le_of_ble_eq_true rfl⟩) (fun r15 σ15 H locs h hP hD hS => ?_)
      refine lv_istore (lv' := [(5, .int r15), (0, .ref (ad 0)), (1, .long y1), (3, .int x3), (4, .int x4)]) hx hb d_C_isRanking_18 hl (by decide) rfl (fun ls hl => ?_)
      refine lv_iload hx hb d_C_isRanking_20 (lv_at hl 0 rfl) ?_
      refine lv_iconst (v := (-1)) hx hb d_C_isRanking_22 (by decide) ?_
      refine lv_icmp_ne hx hb d_C_isRanking_23 rfl (fun hc23 => ?_) (fun hc23 => ?_)
      · have h := h.2 hc23
        refine lv_iconst (v := 1) hx hb d_C_isRanking_37 (by decide) ?_
        refine lv_iload hx hb d_C_isRanking_38 (lv_at hl 0 rfl) ?_
        refine lv_ishl hx hb d_C_isRanking_40 ?_
        refine lv_topi (fun v41 e41 => ?_)
        have h := h v41 e41
        refine lv_istore (lv' := [(6, .int v41), (5, .int r15), (0, .ref (ad 0)), (1, .long y1), (3, .int x3), (4, .int x4)]) hx hb d_C_isRanking_41 hl (by decide) rfl (fun ls hl => ?_)
        refine lv_aload_n hx hb d_C_isRanking_43 rfl (lv_at hl 2 rfl) ?_
        refine r_get C ku_C hP (by decide) rfl rfl 0 (by decide) kw_132 rfl d_C_isRanking_44 ?_
        refine lv_iload hx hb d_C_isRanking_47 (lv_at hl 1 rfl) ?_
        refine r_calli C hD hS (va_runV (As := [.int r15]) (rest := []) ⟨hx, hb, hml, hown, hts⟩ (m_R_has h) (cwV 1 hts (g_V kw_277 kw_278 kw_279 kw_2 kw_280) rfl rfl rfl (by decide +kernel) ⟨Nat.le_of_ble_eq_true rfl, Nat.le_of_ble_eq_true rfl⟩) (r_preV (o := 1) C hP hD hS (by decide) rfl rfl) rfl rfl hl.1 rfl (lv_room (Nat.le_of_ble_eq_true rfl)) d_C_isRanking_49 ⟨Nat.le_of_ble_eq_true rfl, Nat.le_of_ble_eq_true rfl⟩) (fun r49 σ49 H locs h hP hD hS => ?_)
        refine lv_if_eq hx hb d_C_isRanking_52 rfl (fun hc52 => ?_) (fun hc52 => ?_)
        · have h := h.1 hc52
          exact b_C_isRanking_62 C h (lv_sub hl [] rfl) hP hD hS
        · have h := h.2 hc52
          refine lv_iload_n hx hb d_C_isRanking_55 rfl (lv_at hl 4 rfl) ?_
          refine lv_iload hx hb d_C_isRanking_56 (lv_at hl 0 rfl) ?_
          refine lv_iand hx hb d_C_isRanking_58 ?_
          refine lv_if_eq hx hb d_C_isRanking_59 rfl (fun hc59 => ?_) (fun hc59 => ?_)
          · have h := h.1 hc59
            refine lv_iload_n hx hb d_C_isRanking_64 rfl (lv_at hl 4 rfl) ?_
            refine lv_iload hx hb d_C_isRanking_65 (lv_at hl 0 rfl) ?_
            refine lv_ior hx hb d_C_isRanking_67 ?_
            refine lv_topi (fun v68 e68 => ?_)
            have h := h v68 e68
            refine lv_istore_n (lv' := [(3, .int v68), (6, .int v41), (5, .int r15), (0, .ref (ad 0)), (1, .long y1), (4, .int x4)]) hx hb d_C_isRanking_68 rfl hl (by decide) rfl (fun ls hl => ?_)
            obtain ⟨v69, e69⟩ : ∃ z : Int32, z = (x4 + 1) := ⟨_, rfl⟩
            have h := h v69 e69
            refine lv_iinc (k := 5) (v := v69) (lv' := [(4, .int v69), (3, .int v68), (6, .int v41), (5, .int r15), (0, .ref (ad 0)), (1, .long y1)]) hx hb d_C_isRanking_69 hl rfl (by rw [e69] <;> rfl) (by decide) rfl (fun ls hl => ?_)
            refine lv_goto hx hb d_C_isRanking_72 rfl ?_
            exact hK5 h (lv_sub hl [4, 5, 1, 0] rfl) hP hD hS
          · have h := h.2 hc59
            exact b_C_isRanking_62 C h (lv_sub hl [] rfl) hP hD hS
      · have h := h.1 hc23
        refine lv_iload hx hb d_C_isRanking_26 (lv_at hl 4 rfl) ?_
        refine lv_if_le hx hb d_C_isRanking_28 rfl (fun hc28 => ?_) (fun hc28 => ?_)
        · have h := h.1 hc28
          refine lv_iconst (v := 0) hx hb d_C_isRanking_35 (by decide) ?_
          exact b_C_isRanking_36 C h (lv_sub hl [] rfl) hP hD hS
        · have h := h.2 hc28
          refine lv_iconst (v := 1) hx hb d_C_isRanking_31 (by decide) ?_
          refine lv_goto hx hb d_C_isRanking_32 rfl ?_
          exact b_C_isRanking_36 C h (lv_sub hl [] rfl) hP hD hS
set_option maxHeartbeats 4000000 in
set_option maxRecDepth 100000 in
theorem m_C_isRanking {l : Launch} {D : va_G} {cI cL cZ cS : ClassId} {ad : Nat → Nat} {wr : va_W} {sz : Nat} {Q : Int32 → Mem → Prop} {y1 : Int64} {σ : Mem} (h : wp_C_isRanking Q y1 σ) : Met l y_C_isRanking (Cond.code y_C_isRanking c_C_isRanking 7 (some .boolean) :: TB) rm_C_isRanking (wPc D cls (tyl cI cL cZ cS) 77 (fX cI cL cS ad) ad wr sz σ [.ref (ad 0), .long y1]) (va_Qi Q (wB D cls (tyl cI cL cZ cS) 77 (fX cI cL cS ad) ad wr (wA 77 (fX cI cL cS ad) ad wr sz σ)) (wA 77 (fX cI cL cS ad) ad wr sz σ)) 0 0 (wA 77 (fX cI cL cS ad) ad wr sz σ) := by
  refine Met.ofW (cc := c_C_isRanking) (maxL := 7) (ret := (some .boolean)) (by decide) rfl ?_
  intro p e s m args below meth c s₁ B hml hv
  obtain ⟨rfl, hsz, hP, hK, hD0, hN⟩ := hv
  subst hsz
  have hD : va_D (wA 77 (fX cI cL cS ad) ad wr s.heap.size σ) (wW 77 (fX cI cL cS ad) ad σ ++ wr) := hD0.self (sz := s.heap.size)
  have hA : ∀ q : Nat, s.heap.size ≤ q → (wA 77 (fX cI cL cS ad) ad wr s.heap.size σ) q := fun q h => Or.inr h
  have hN : NX (wA 77 (fX cI cL cS ad) ad wr s.heap.size σ) s s.heap := hN
  generalize (wA 77 (fX cI cL cS ad) ad wr s.heap.size σ) = A at hD hA hN ⊢
  have C : wC TB "PreferenceCount" c_C_isRanking 7 (some .boolean) D cls (tyl cI cL cZ cS) A p s m ([.ref (ad 0), .long y1].toArray) meth c := ⟨B.exec, B.bytes, B.returns, B.notSynchronized, fun w hw => atoms_spec (ws := Cond.code y_C_isRanking c_C_isRanking 7 (some .boolean) :: TB) B.pre w (List.mem_cons_of_mem _ hw), findClass_of_methodNamed B.named, hml, hK, hN, hA⟩
  have hx := C.1
  have hb := C.2.1
  have hts := C.2.2.2.2.1
  have hown := C.2.2.2.2.2.1
  have hS : va_S A s.heap s.heap [] := va_S.rf
  have hl := lv_entry ([.ref (ad 0), .long y1]) (n := 7) (Nat.le_of_ble_eq_true rfl)
  rw [lg_entry_eq]
  generalize (lg_sl ([.ref (ad 0), .long y1]) ++ List.replicate (7 - (lg_sl ([.ref (ad 0), .long y1])).length) Slot.unset).toArray = ls at hl ⊢
  have hl : lv_has ls 7 [(0, .ref (ad 0)), (1, .long y1)] := hl
  have h : ∃ k5 : Nat, wp_C_isRanking_5 Q k5 y1 (0 : Int32) (0 : Int32) σ := h
  refine lv_iconst (v := 0) hx hb d_C_isRanking_0 (by decide) ?_
  refine lv_istore_n (lv' := [(3, .int (0 : Int32)), (0, .ref (ad 0)), (1, .long y1)]) hx hb d_C_isRanking_1 rfl hl (by decide) rfl (fun ls hl => ?_)
  refine lv_iconst (v := 0) hx hb d_C_isRanking_2 (by decide) ?_
  refine lv_istore (lv' := [(4, .int (0 : Int32)), (3, .int (0 : Int32)), (0, .ref (ad 0)), (1, .long y1)]) hx hb d_C_isRanking_3 hl (by decide) rfl (fun ls hl => ?_)
  obtain ⟨n, h⟩ := h
  exact b_C_isRanking_5 C n h (lv_sub hl [2, 3, 1, 0] rfl) hP hD hS
def rm_C_setQuota : Room := { frames := 1, cells := 0, slots := 0, locals := 30 }
set_option maxHeartbeats 4000000 in
set_option maxRecDepth 100000 in
theorem m_C_setQuota {l : Launch} {D : va_G} {cI cL cZ cS : ClassId} {ad : Nat → Nat} {wr : va_W} {sz : Nat} {Q : Mem → Prop} {σ : Mem} (h : wp_C_setQuota Q σ) : Met l y_C_setQuota (Cond.code y_C_setQuota c_C_setQuota 3 none :: TB) rm_C_setQuota (wPc D cls (tyl cI cL cZ cS) 77 (fX cI cL cS ad) ad wr sz σ [.ref (ad 0)]) (va_Qv Q (wB D cls (tyl cI cL cZ cS) 77 (fX cI cL cS ad) ad wr (wA 77 (fX cI cL cS ad) ad wr sz σ)) (wA 77 (fX cI cL cS ad) ad wr sz σ)) 0 0 (wA 77 (fX cI cL cS ad) ad wr sz σ) := by
  refine Met.ofW (cc := c_C_setQuota) (maxL := 3) (ret := none) (by decide) rfl ?_
  intro p e s m args below meth c s₁ B hml hv
  obtain ⟨rfl, hsz, hP, hK, hD0, hN⟩ := hv
  subst hsz
  have hD : va_D (wA 77 (fX cI cL cS ad) ad wr s.heap.size σ) (wW 77 (fX cI cL cS ad) ad σ ++ wr) := hD0.self (sz := s.heap.size)
  have hA : ∀ q : Nat, s.heap.size ≤ q → (wA 77 (fX cI cL cS ad) ad wr s.heap.size σ) q := fun q h => Or.inr h
  have hN : NX (wA 77 (fX cI cL cS ad) ad wr s.heap.size σ) s s.heap := hN
  generalize (wA 77 (fX cI cL cS ad) ad wr s.heap.size σ) = A at hD hA hN ⊢
  have C : wC TB "PreferenceCount" c_C_setQuota 3 none D cls (tyl cI cL cZ cS) A p s m ([.ref (ad 0)].toArray) meth c := ⟨B.exec, B.bytes, B.returns, B.notSynchronized, fun w hw => atoms_spec (ws := Cond.code y_C_setQuota c_C_setQuota 3 none :: TB) B.pre w (List.mem_cons_of_mem _ hw), findClass_of_methodNamed B.named, hml, hK, hN, hA⟩
  have hx := C.1
  have hb := C.2.1
  have hts := C.2.2.2.2.1
  have hown := C.2.2.2.2.2.1
  have hS : va_S A s.heap s.heap [] := va_S.rf
  have hl := lv_entry ([.ref (ad 0)]) (n := 3) (Nat.le_of_ble_eq_true rfl)
  rw [lg_entry_eq]
  generalize (lg_sl ([.ref (ad 0)]) ++ List.replicate (3 - (lg_sl ([.ref (ad 0)])).length) Slot.unset).toArray = ls at hl ⊢
  have hl : lv_has ls 3 [(0, .ref (ad 0))] := hl
  have h : wp_C_commonDivisor (fun r15 σ15 => (¬ r15 = 0) ∧ (∀ σ30 : Mem, σ30 = mL σ15 0 6 ((Int32.toInt64 (σ15.1 4 5)) / r15) → ((¬ r15 = 0) ∧ (∀ σ43 : Mem, σ43 = mL σ30 0 7 ((Int32.toInt64 ((σ30.1 0 3) + (1 : Int32))) / r15) → (Q σ43))))) (Int32.toInt64 (σ.1 4 5)) (Int32.toInt64 ((σ.1 0 3) + (1 : Int32))) σ := h
  refine lv_aload_n hx hb d_C_setQuota_0 rfl (lv_at hl 0 rfl) ?_
  refine r_get C ku_C hP (by decide) rfl rfl 1 (by decide) kw_133 rfl d_C_setQuota_1 ?_
  refine r_get C ku_P hP (by decide) rfl rfl 5 (by decide) kw_88 rfl d_C_setQuota_4 ?_
  refine lv_i2l hx hb d_C_setQuota_7 rfl ?_
  refine lv_aload_n hx hb d_C_setQuota_8 rfl (lv_at hl 0 rfl) ?_
  refine r_get C ku_C hP (by decide) rfl rfl 3 (by decide) kw_135 rfl d_C_setQuota_9 ?_
  refine lv_iconst (v := 1) hx hb d_C_setQuota_12 (by decide) ?_
  refine lv_iadd hx hb d_C_setQuota_13 ?_
  refine lv_i2l hx hb d_C_setQuota_14 rfl ?_
  refine r_calll C hD hS (va_runS (As := [.long (Int32.toInt64 (σ.1 4 5)), .long (Int32.toInt64 ((σ.1 0 3) + (1 : Int32)))]) (rest := []) ⟨hx, hb, hml, hown, hts⟩ (m_C_commonDivisor h) (va_cwS 2 hts (g_S kw_341 kw_327 kw_1 kw_328) rfl rfl rfl (by decide +kernel) ⟨Nat.le_of_ble_eq_true rfl, Nat.le_of_ble_eq_true rfl⟩) (r_preS C hP hD hS) rfl rfl hl.1 rfl (lv_room (Nat.le_of_ble_eq_true rfl)) d_C_setQuota_15 ⟨Nat.le_of_ble_eq_true rfl, Nat.le_of_ble_eq_true rfl⟩) (fun r15 σ15 H locs h hP hD hS => ?_)
  refine lv_lstore_n (lv' := [(1, .long r15), (0, .ref (ad 0))]) hx hb d_C_setQuota_18 rfl hl (by decide) rfl (fun ls hl => ?_)
  refine lv_aload_n hx hb d_C_setQuota_19 rfl (lv_at hl 1 rfl) ?_
  refine lv_aload_n hx hb d_C_setQuota_20 rfl (lv_at hl 1 rfl) ?_
  refine r_get C ku_C hP (by decide) rfl rfl 1 (by decide) kw_133 rfl d_C_setQuota_21 ?_
  refine r_get C ku_P hP (by decide) rfl rfl 5 (by decide) kw_88 rfl d_C_setQuota_24 ?_
  refine lv_i2l hx hb d_C_setQuota_27 rfl ?_
  refine lv_lload_n hx hb d_C_setQuota_28 rfl (lv_at hl 0 rfl) ?_
  obtain ⟨hz29, h⟩ := h
  refine lv_ldiv hx hb d_C_setQuota_29 hz29 ?_
  refine r_putL C ku_C ft_C fo_C fn_C hP hD hS (by decide) rfl rfl 6 (by decide) kw_138 rfl (by decide +kernel) (Nat.le_of_ble_eq_true rfl) d_C_setQuota_30 rfl (fun σ30 e30 H locs hP hD hS => ?_)
  have h := h σ30 e30
  refine lv_aload_n hx hb d_C_setQuota_33 rfl (lv_at hl 1 rfl) ?_
  refine lv_aload_n hx hb d_C_setQuota_34 rfl (lv_at hl 1 rfl) ?_
  refine r_get C ku_C hP (by decide) rfl rfl 3 (by decide) kw_135 rfl d_C_setQuota_35 ?_
  refine lv_iconst (v := 1) hx hb d_C_setQuota_38 (by decide) ?_
  refine lv_iadd hx hb d_C_setQuota_39 ?_
  refine lv_i2l hx hb d_C_setQuota_40 rfl ?_
  refine lv_lload_n hx hb d_C_setQuota_41 rfl (lv_at hl 0 rfl) ?_
  obtain ⟨hz42, h⟩ := h
  refine lv_ldiv hx hb d_C_setQuota_42 hz42 ?_
  refine r_putL C ku_C ft_C fo_C fn_C hP hD hS (by decide) rfl rfl 7 (by decide) kw_139 rfl (by decide +kernel) (Nat.le_of_ble_eq_true rfl) d_C_setQuota_43 rfl (fun σ43 e43 H locs hP hD hS => ?_)
  have h := h σ43 e43
  exact r_vret C hP hD hS d_C_setQuota_46 h
def rm_C_isAboveQuota : Room := { frames := 2, cells := 0, slots := 0, locals := 57 }
set_option maxHeartbeats 4000000 in
set_option maxRecDepth 100000 in
theorem b_C_isAboveQuota_32 {p : Program} {l : Launch} {e : Env} {s : State} {m : MethodId} {args : Array Value} {below : List Frame} {meth : Method} {c : Code} {D : va_G} {cI cL cZ cS : ClassId} {ad : Nat → Nat} {wr : va_W} {A : Nat → Prop} {Q : Int32 → Mem → Prop} {t0 : Int32} {σ : Mem} {H : Heap} {locs : List Loc} {ls : Array Slot} (C : wC TB "PreferenceCount" c_C_isAboveQuota 2 (some .boolean) D cls (tyl cI cL cZ cS) A p s m args meth c) (h : wp_C_isAboveQuota_32 Q t0 σ) (hl : lv_has ls 2 []) (hP : va_P D cls (wW 77 (fX cI cL cS ad) ad σ ++ wr) H) (hD : va_D A (wW 77 (fX cI cL cS ad) ad σ ++ wr)) (hS : va_S A s.heap H locs) : W p l e (headSpec (Cond.code y_C_isAboveQuota c_C_isAboveQuota 2 (some .boolean) :: TB) rm_C_isAboveQuota).room s m args below meth c H locs 0 0 (MQ below (va_Qi Q (wB D cls (tyl cI cL cZ cS) 77 (fX cI cL cS ad) ad wr A) A) args s 0 0 A) (F0 m 32 ls [.int t0]) := by
  have hx := C.1
  have hb := C.2.1
  have hts := C.2.2.2.2.1
  have hown := C.2.2.2.2.2.1
  have hml := C.2.2.2.2.2.2.1
  have h : (t0 = 0 ∨ t0 = 1) ∧ Q t0 σ := h
  obtain ⟨hb32, h⟩ := h
  exact r_zret C hb32 hP hD hS d_C_isAboveQuota_32 h
set_option maxHeartbeats 4000000 in
set_option maxRecDepth 100000 in
theorem m_C_isAboveQuota {l : Launch} {D : va_G} {cI cL cZ cS : ClassId} {ad : Nat → Nat} {wr : va_W} {sz : Nat} {Q : Int32 → Mem → Prop} {x1 : Int32} {σ : Mem} (h : wp_C_isAboveQuota Q x1 σ) : Met l y_C_isAboveQuota (Cond.code y_C_isAboveQuota c_C_isAboveQuota 2 (some .boolean) :: TB) rm_C_isAboveQuota (wPc D cls (tyl cI cL cZ cS) 77 (fX cI cL cS ad) ad wr sz σ [.ref (ad 0), .int x1]) (va_Qi Q (wB D cls (tyl cI cL cZ cS) 77 (fX cI cL cS ad) ad wr (wA 77 (fX cI cL cS ad) ad wr sz σ)) (wA 77 (fX cI cL cS ad) ad wr sz σ)) 0 0 (wA 77 (fX cI cL cS ad) ad wr sz σ) := by
  refine Met.ofW (cc := c_C_isAboveQuota) (maxL := 2) (ret := (some .boolean)) (by decide) rfl ?_
  intro p e s m args below meth c s₁ B hml hv
  obtain ⟨rfl, hsz, hP, hK, hD0, hN⟩ := hv
  subst hsz
  have hD : va_D (wA 77 (fX cI cL cS ad) ad wr s.heap.size σ) (wW 77 (fX cI cL cS ad) ad σ ++ wr) := hD0.self (sz := s.heap.size)
  have hA : ∀ q : Nat, s.heap.size ≤ q → (wA 77 (fX cI cL cS ad) ad wr s.heap.size σ) q := fun q h => Or.inr h
  have hN : NX (wA 77 (fX cI cL cS ad) ad wr s.heap.size σ) s s.heap := hN
  generalize (wA 77 (fX cI cL cS ad) ad wr s.heap.size σ) = A at hD hA hN ⊢
  have C : wC TB "PreferenceCount" c_C_isAboveQuota 2 (some .boolean) D cls (tyl cI cL cZ cS) A p s m ([.ref (ad 0), .int x1].toArray) meth c := ⟨B.exec, B.bytes, B.returns, B.notSynchronized, fun w hw => atoms_spec (ws := Cond.code y_C_isAboveQuota c_C_isAboveQuota 2 (some .boolean) :: TB) B.pre w (List.mem_cons_of_mem _ hw), findClass_of_methodNamed B.named, hml, hK, hN, hA⟩
  have hx := C.1
  have hb := C.2.1
  have hts := C.2.2.2.2.1
  have hown := C.2.2.2.2.2.1
  have hS : va_S A s.heap s.heap [] := va_S.rf
  have hl := lv_entry ([.ref (ad 0), .int x1]) (n := 2) (Nat.le_of_ble_eq_true rfl)
  rw [lg_entry_eq]
  generalize (lg_sl ([.ref (ad 0), .int x1]) ++ List.replicate (2 - (lg_sl ([.ref (ad 0), .int x1])).length) Slot.unset).toArray = ls at hl ⊢
  have hl : lv_has ls 2 [(0, .ref (ad 0)), (1, .int x1)] := hl
  have h : vp_in (σ.1 0 4) 13 ∧ (wp_F_compare (fun r21 σ21 => (r21 ≤ 0 → (wp_C_isAboveQuota_32 Q (0 : Int32) σ21)) ∧ (¬ r21 ≤ 0 → (wp_C_isAboveQuota_32 Q (1 : Int32) σ21))) ((12 + 5 * (Int32.toNatClampNeg (σ.1 0 4))) + 1) x1 (σ.2 0 6) (σ.2 0 7) σ) := h
  refine lv_aload_n hx hb d_C_isAboveQuota_0 rfl (lv_at hl 0 rfl) ?_
  refine r_get C ku_C hP (by decide) rfl rfl 2 (by decide) kw_134 rfl d_C_isAboveQuota_1 ?_
  refine lv_aload_n hx hb d_C_isAboveQuota_4 rfl (lv_at hl 0 rfl) ?_
  refine r_get C ku_C hP (by decide) rfl rfl 4 (by decide) kw_136 rfl d_C_isAboveQuota_5 ?_
  obtain ⟨hi8, h⟩ := h
  refine r_aald C hP (by decide) rfl rfl hi8 d_C_isAboveQuota_8 ?_
  refine r_get C ku_S hP (st_lt (st_in hi8)) (st_cell (st_in hi8) _ _) rfl 0 (by decide) kw_112 rfl d_C_isAboveQuota_9 ?_
  refine lv_iload_n hx hb d_C_isAboveQuota_12 rfl (lv_at hl 1 rfl) ?_
  refine lv_aload_n hx hb d_C_isAboveQuota_13 rfl (lv_at hl 0 rfl) ?_
  refine r_get C ku_C hP (by decide) rfl rfl 6 (by decide) kw_138 rfl d_C_isAboveQuota_14 ?_
  refine lv_aload_n hx hb d_C_isAboveQuota_17 rfl (lv_at hl 0 rfl) ?_
  refine r_get C ku_C hP (by decide) rfl rfl 7 (by decide) kw_139 rfl d_C_isAboveQuota_18 ?_
  refine r_calli C hD hS (va_runV (As := [.int x1, .long (σ.2 0 6), .long (σ.2 0 7)]) (rest := []) ⟨hx, hb, hml, hown, hts⟩ (m_F_compare (st_fr (st_in hi8)) h) (cwV 3 hts (g_V kw_394 kw_395 kw_396 kw_4 kw_397) rfl rfl rfl (by decide +kernel) ⟨Nat.le_of_ble_eq_true rfl, Nat.le_of_ble_eq_true rfl⟩) (r_preV (o := ((12 + 5 * (Int32.toNatClampNeg (σ.1 0 4))) + 1)) C hP hD hS (fr_lt (st_fr (st_in hi8))) (fr_cell (st_fr (st_in hi8)) _ _) rfl) rfl rfl hl.1 rfl (lv_room (Nat.le_of_ble_eq_true rfl)) d_C_isAboveQuota_21 ⟨Nat.le_of_ble_eq_true rfl, Nat.le_of_ble_eq_true rfl⟩) (fun r21 σ21 H locs h hP hD hS => ?_)
  refine lv_if_le hx hb d_C_isAboveQuota_24 rfl (fun hc24 => ?_) (fun hc24 => ?_)
  · have h := h.1 hc24
    refine lv_iconst (v := 0) hx hb d_C_isAboveQuota_31 (by decide) ?_
    exact b_C_isAboveQuota_32 C h (lv_sub hl [] rfl) hP hD hS
  · have h := h.2 hc24
    refine lv_iconst (v := 1) hx hb d_C_isAboveQuota_27 (by decide) ?_
    refine lv_goto hx hb d_C_isAboveQuota_28 rfl ?_
    exact b_C_isAboveQuota_32 C h (lv_sub hl [] rfl) hP hD hS
def rm_C_firstContinuing : Room := { frames := 1, cells := 0, slots := 0, locals := 22 }
set_option maxHeartbeats 4000000 in
set_option maxRecDepth 100000 in
theorem b_C_firstContinuing_45 {p : Program} {l : Launch} {e : Env} {s : State} {m : MethodId} {args : Array Value} {below : List Frame} {meth : Method} {c : Code} {D : va_G} {cI cL cZ cS : ClassId} {ad : Nat → Nat} {wr : va_W} {A : Nat → Prop} {Q : Int32 → Mem → Prop} {σ : Mem} {H : Heap} {locs : List Loc} {ls : Array Slot} (C : wC TB "PreferenceCount" c_C_firstContinuing 5 (some .int) D cls (tyl cI cL cZ cS) A p s m args meth c) (h : wp_C_firstContinuing_45 Q σ) (hl : lv_has ls 5 [(0, .ref (ad 0))]) (hP : va_P D cls (wW 77 (fX cI cL cS ad) ad σ ++ wr) H) (hD : va_D A (wW 77 (fX cI cL cS ad) ad σ ++ wr)) (hS : va_S A s.heap H locs) : W p l e (headSpec (Cond.code y_C_firstContinuing c_C_firstContinuing 5 (some .int) :: TB) rm_C_firstContinuing).room s m args below meth c H locs 0 0 (MQ below (va_Qi Q (wB D cls (tyl cI cL cZ cS) 77 (fX cI cL cS ad) ad wr A) A) args s 0 0 A) (F0 m 45 ls []) := by
  have hx := C.1
  have hb := C.2.1
  have hts := C.2.2.2.2.1
  have hown := C.2.2.2.2.2.1
  have hml := C.2.2.2.2.2.2.1
  have h : Q (σ.1 1 2) σ := h
  refine lv_aload_n hx hb d_C_firstContinuing_45 rfl (lv_at hl 0 rfl) ?_
  refine r_get C ku_C hP (by decide) rfl rfl 0 (by decide) kw_132 rfl d_C_firstContinuing_46 ?_
  refine r_get C ku_R hP (by decide) rfl rfl 2 (by decide) kw_35 rfl d_C_firstContinuing_49 ?_
  exact r_iret C hP hD hS d_C_firstContinuing_52 h
set_option maxHeartbeats 4000000 in
set_option maxRecDepth 100000 in
theorem b_C_firstContinuing_2 {p : Program} {l : Launch} {e : Env} {s : State} {m : MethodId} {args : Array Value} {below : List Frame} {meth : Method} {c : Code} {D : va_G} {cI cL cZ cS : ClassId} {ad : Nat → Nat} {wr : va_W} {A : Nat → Prop} {Q : Int32 → Mem → Prop} (C : wC TB "PreferenceCount" c_C_firstContinuing 5 (some .int) D cls (tyl cI cL cZ cS) A p s m args meth c) : ∀ (n : Nat) {σ : Mem} {H : Heap} {locs : List Loc} {ls : Array Slot} {y1 : Int64} {x3 : Int32}, wp_C_firstContinuing_2 Q n y1 x3 σ → lv_has ls 5 [(0, .ref (ad 0)), (1, .long y1), (3, .int x3)] → va_P D cls (wW 77 (fX cI cL cS ad) ad σ ++ wr) H → va_D A (wW 77 (fX cI cL cS ad) ad σ ++ wr) → va_S A s.heap H locs → W p l e (headSpec (Cond.code y_C_firstContinuing c_C_firstContinuing 5 (some .int) :: TB) rm_C_firstContinuing).room s m args below meth c H locs 0 0 (MQ below (va_Qi Q (wB D cls (tyl cI cL cZ cS) 77 (fX cI cL cS ad) ad wr A) A) args s 0 0 A) (F0 m 2 ls []) := by
  have hx := C.1
  have hb := C.2.1
  have hts := C.2.2.2.2.1
  have hown := C.2.2.2.2.2.1
  have hml := C.2.2.2.2.2.2.1
  intro n
  induction n with
  | zero => intro σ H locs ls y1 x3 h; exact h.elim
  | succ j2 ih =>
    intro σ H locs ls y1 x3 h hl hP hD hS
    have hK2 := @ih
    have h : ((7 : Int32) ≤ x3 → (wp_C_firstContinuing_45 Q σ)) ∧ (¬ (7 : Int32) ≤ x3 → (wp_C_candidateAt (fun r10 σ10 => (r10 = (-1 : Int32) → (wp_C_firstContinuing_45 Q σ10)) ∧ (¬ r10 = (-1 : Int32) → (wp_R_isContinuing (fun r30 σ30 => (r30 = 0 → (∀ v39 : Int32, v39 = (x3 + 1) → ((wp_C_firstContinuing_2 Q j2) y1 v39 σ30))) ∧ (¬ r30 = 0 → (Q r10 σ30))) r10 σ10))) y1 x3 σ)) := h
    refine lv_iload_n hx hb d_C_firstContinuing_2 rfl (lv_at hl 2 rfl) ?_
    refine lv_bipush (v := 7) hx hb d_C_firstContinuing_3 (by decide) ?_
    refine lv_icmp_ge hx hb d_C_firstContinuing_5 rfl (fun hc5 => ?_) (fun hc5 => ?_)
    · have h := h.1 hc5
      exact b_C_firstContinuing_45 C h (lv_sub hl [0] rfl) hP hD hS
    · have h := h.2 hc5
      refine lv_lload_n hx hb d_C_firstContinuing_8 rfl (lv_at hl 1 rfl) ?_
      refine lv_iload_n hx hb d_C_firstContinuing_9 rfl (lv_at hl 2 rfl) ?_
      refine r_calli C hD hS (va_runS (As := [.long y1, .int x3]) (rest := []) ⟨hx, hb, hml, hown, hts⟩ (m_C_candidateAt h) (va_cwS 2 hts (g_S kw_313 kw_314 kw_1 kw_315) rfl rfl rfl (by decide +kernel) ⟨Nat.le_of_ble_eq_true rfl, Nat.le_of_ble_eq_true rfl⟩) (r_preS C hP hD hS) rfl rfl hl.1 rfl (lv_room (Nat.le_of_ble_eq_true rfl)) d_C_firstContinuing_10 ⟨Nat.le_of_ble_eq_true rfl, Nat.le_of_ble_eq_true rfl⟩) (fun r10 σ10 H locs h hP hD hS => ?_)
      refine lv_istore (lv' := [(4, .int r10), (0, .ref (ad 0)), (1, .long y1), (3, .int x3)]) hx hb d_C_firstContinuing_13 hl (by decide) rfl (fun ls hl => ?_)
      refine lv_iload hx hb d_C_firstContinuing_15 (lv_at hl 0 rfl) ?_
      refine lv_iconst (v := (-1)) hx hb d_C_firstContinuing_17 (by decide) ?_
      refine lv_icmp_ne hx hb d_C_firstContinuing_18 rfl (fun hc18 => ?_) (fun hc18 => ?_)
      · have h := h.2 hc18
        refine lv_aload_n hx hb d_C_firstContinuing_24 rfl (lv_at hl 1 rfl) ?_
        refine r_get C ku_C hP (by decide) rfl rfl 0 (by decide) kw_132 rfl d_C_firstContinuing_25 ?_
        refine lv_iload hx hb d_C_firstContinuing_28 (lv_at hl 0 rfl) ?_
        refine r_calli C hD hS (va_runV (As := [.int r10]) (rest := []) ⟨hx, hb, hml, hown, hts⟩ (m_R_isContinuing h) (cwV 1 hts (g_V kw_293 kw_294 kw_295 kw_2 kw_296) rfl rfl rfl (by decide +kernel) ⟨Nat.le_of_ble_eq_true rfl, Nat.le_of_ble_eq_true rfl⟩) (r_preV (o := 1) C hP hD hS (by decide) rfl rfl) rfl rfl hl.1 rfl (lv_room (Nat.le_of_ble_eq_true rfl)) d_C_firstContinuing_30 ⟨Nat.le_of_ble_eq_true rfl, Nat.le_of_ble_eq_true rfl⟩) (fun r30 σ30 H locs h hP hD hS => ?_)
        refine lv_if_eq hx hb d_C_firstContinuing_33 rfl (fun hc33 => ?_) (fun hc33 => ?_)
        · have h := h.1 hc33
          obtain ⟨v39, e39⟩ : ∃ z : Int32, z = (x3 + 1) := ⟨_, rfl⟩
          have h := h v39 e39
          refine lv_iinc (k := 3) (v := v39) (lv' := [(3, .int v39), (4, .int r10), (0, .ref (ad 0)), (1, .long y1)]) hx hb d_C_firstContinuing_39 hl rfl (by rw [e39] <;> rfl) (by decide) rfl (fun ls hl => ?_)
          refine lv_goto hx hb d_C_firstContinuing_42 rfl ?_
          exact hK2 h (lv_sub hl [2, 3, 0] rfl) hP hD hS
        · have h := h.2 hc33
          refine lv_iload hx hb d_C_firstContinuing_36 (lv_at hl 0 rfl) ?_
          exact r_iret C hP hD hS d_C_firstContinuing_38 h
      · have h := h.1 hc18
        refine lv_goto hx hb d_C_firstContinuing_21 rfl ?_
        exact b_C_firstContinuing_45 C h (lv_sub hl [1] rfl) hP hD hS
set_option maxHeartbeats 4000000 in
set_option maxRecDepth 100000 in
theorem m_C_firstContinuing {l : Launch} {D : va_G} {cI cL cZ cS : ClassId} {ad : Nat → Nat} {wr : va_W} {sz : Nat} {Q : Int32 → Mem → Prop} {y1 : Int64} {σ : Mem} (h : wp_C_firstContinuing Q y1 σ) : Met l y_C_firstContinuing (Cond.code y_C_firstContinuing c_C_firstContinuing 5 (some .int) :: TB) rm_C_firstContinuing (wPc D cls (tyl cI cL cZ cS) 77 (fX cI cL cS ad) ad wr sz σ [.ref (ad 0), .long y1]) (va_Qi Q (wB D cls (tyl cI cL cZ cS) 77 (fX cI cL cS ad) ad wr (wA 77 (fX cI cL cS ad) ad wr sz σ)) (wA 77 (fX cI cL cS ad) ad wr sz σ)) 0 0 (wA 77 (fX cI cL cS ad) ad wr sz σ) := by
  refine Met.ofW (cc := c_C_firstContinuing) (maxL := 5) (ret := (some .int)) (by decide) rfl ?_
  intro p e s m args below meth c s₁ B hml hv
  obtain ⟨rfl, hsz, hP, hK, hD0, hN⟩ := hv
  subst hsz
  have hD : va_D (wA 77 (fX cI cL cS ad) ad wr s.heap.size σ) (wW 77 (fX cI cL cS ad) ad σ ++ wr) := hD0.self (sz := s.heap.size)
  have hA : ∀ q : Nat, s.heap.size ≤ q → (wA 77 (fX cI cL cS ad) ad wr s.heap.size σ) q := fun q h => Or.inr h
  have hN : NX (wA 77 (fX cI cL cS ad) ad wr s.heap.size σ) s s.heap := hN
  generalize (wA 77 (fX cI cL cS ad) ad wr s.heap.size σ) = A at hD hA hN ⊢
  have C : wC TB "PreferenceCount" c_C_firstContinuing 5 (some .int) D cls (tyl cI cL cZ cS) A p s m ([.ref (ad 0), .long y1].toArray) meth c := ⟨B.exec, B.bytes, B.returns, B.notSynchronized, fun w hw => atoms_spec (ws := Cond.code y_C_firstContinuing c_C_firstContinuing 5 (some .int) :: TB) B.pre w (List.mem_cons_of_mem _ hw), findClass_of_methodNamed B.named, hml, hK, hN, hA⟩
  have hx := C.1
  have hb := C.2.1
  have hts := C.2.2.2.2.1
  have hown := C.2.2.2.2.2.1
  have hS : va_S A s.heap s.heap [] := va_S.rf
  have hl := lv_entry ([.ref (ad 0), .long y1]) (n := 5) (Nat.le_of_ble_eq_true rfl)
  rw [lg_entry_eq]
  generalize (lg_sl ([.ref (ad 0), .long y1]) ++ List.replicate (5 - (lg_sl ([.ref (ad 0), .long y1])).length) Slot.unset).toArray = ls at hl ⊢
  have hl : lv_has ls 5 [(0, .ref (ad 0)), (1, .long y1)] := hl
  have h : ∃ k2 : Nat, wp_C_firstContinuing_2 Q k2 y1 (0 : Int32) σ := h
  refine lv_iconst (v := 0) hx hb d_C_firstContinuing_0 (by decide) ?_
  refine lv_istore_n (lv' := [(3, .int (0 : Int32)), (0, .ref (ad 0)), (1, .long y1)]) hx hb d_C_firstContinuing_1 rfl hl (by decide) rfl (fun ls hl => ?_)
  obtain ⟨n, h⟩ := h
  exact b_C_firstContinuing_2 C n h (lv_sub hl [1, 2, 0] rfl) hP hD hS
def rm_C_hand : Room := { frames := 3, cells := 0, slots := 0, locals := 86 }
set_option maxHeartbeats 4000000 in
set_option maxRecDepth 100000 in
theorem m_C_hand {l : Launch} {D : va_G} {cI cL cZ cS : ClassId} {ad : Nat → Nat} {wr : va_W} {sz : Nat} {Q : Mem → Prop} {x1 : Int32} {x2 : Int32} {σ : Mem} (h : wp_C_hand Q x1 x2 σ) : Met l y_C_hand (Cond.code y_C_hand c_C_hand 4 none :: TB) rm_C_hand (wPc D cls (tyl cI cL cZ cS) 77 (fX cI cL cS ad) ad wr sz σ [.ref (ad 0), .int x1, .int x2]) (va_Qv Q (wB D cls (tyl cI cL cZ cS) 77 (fX cI cL cS ad) ad wr (wA 77 (fX cI cL cS ad) ad wr sz σ)) (wA 77 (fX cI cL cS ad) ad wr sz σ)) 0 0 (wA 77 (fX cI cL cS ad) ad wr sz σ) := by
  refine Met.ofW (cc := c_C_hand) (maxL := 4) (ret := none) (by decide) rfl ?_
  intro p e s m args below meth c s₁ B hml hv
  obtain ⟨rfl, hsz, hP, hK, hD0, hN⟩ := hv
  subst hsz
  have hD : va_D (wA 77 (fX cI cL cS ad) ad wr s.heap.size σ) (wW 77 (fX cI cL cS ad) ad σ ++ wr) := hD0.self (sz := s.heap.size)
  have hA : ∀ q : Nat, s.heap.size ≤ q → (wA 77 (fX cI cL cS ad) ad wr s.heap.size σ) q := fun q h => Or.inr h
  have hN : NX (wA 77 (fX cI cL cS ad) ad wr s.heap.size σ) s s.heap := hN
  generalize (wA 77 (fX cI cL cS ad) ad wr s.heap.size σ) = A at hD hA hN ⊢
  have C : wC TB "PreferenceCount" c_C_hand 4 none D cls (tyl cI cL cZ cS) A p s m ([.ref (ad 0), .int x1, .int x2].toArray) meth c := ⟨B.exec, B.bytes, B.returns, B.notSynchronized, fun w hw => atoms_spec (ws := Cond.code y_C_hand c_C_hand 4 none :: TB) B.pre w (List.mem_cons_of_mem _ hw), findClass_of_methodNamed B.named, hml, hK, hN, hA⟩
  have hx := C.1
  have hb := C.2.1
  have hts := C.2.2.2.2.1
  have hown := C.2.2.2.2.2.1
  have hS : va_S A s.heap s.heap [] := va_S.rf
  have hl := lv_entry ([.ref (ad 0), .int x1, .int x2]) (n := 4) (Nat.le_of_ble_eq_true rfl)
  rw [lg_entry_eq]
  generalize (lg_sl ([.ref (ad 0), .int x1, .int x2]) ++ List.replicate (4 - (lg_sl ([.ref (ad 0), .int x1, .int x2])).length) Slot.unset).toArray = ls at hl ⊢
  have hl : lv_has ls 4 [(0, .ref (ad 0)), (1, .int x1), (2, .int x2)] := hl
  have h : vp_in x1 50 ∧ (∀ v9 : Int32, v9 = (σ.1 6 (Int32.toNatClampNeg x1)) → (vp_in x1 50 ∧ (∀ σ19 : Mem, σ19 = mI σ 7 (Int32.toNatClampNeg x1) x2 → (vp_in (σ19.1 0 4) 13 ∧ (vp_in x2 13 ∧ (vp_in x2 13 ∧ (∀ σ37 : Mem, σ37 = mI σ19 ((12 + 5 * (Int32.toNatClampNeg (σ19.1 0 4))) + 4) (Int32.toNatClampNeg x2) ((σ19.1 ((12 + 5 * (Int32.toNatClampNeg (σ19.1 0 4))) + 4) (Int32.toNatClampNeg x2)) + v9) → (vp_in (σ37.1 0 4) 13 ∧ (vp_in x1 50 ∧ (vp_in x1 50 ∧ (wp_F_add (fun σ78 => Q σ78) ((12 + 5 * (Int32.toNatClampNeg (σ37.1 0 4))) + 1) x2 ((Int32.toInt64 v9) * (σ37.2 9 (Int32.toNatClampNeg x1))) (σ37.2 10 (Int32.toNatClampNeg x1)) σ37))))))))))) := h
  refine lv_aload_n hx hb d_C_hand_0 rfl (lv_at hl 0 rfl) ?_
  refine r_get C ku_C hP (by decide) rfl rfl 1 (by decide) kw_133 rfl d_C_hand_1 ?_
  refine r_get C ku_P hP (by decide) rfl rfl 1 (by decide) kw_80 rfl d_C_hand_4 ?_
  refine lv_iload_n hx hb d_C_hand_7 rfl (lv_at hl 1 rfl) ?_
  obtain ⟨hi8, h⟩ := h
  refine r_iald C hP (by decide) rfl rfl hi8 d_C_hand_8 ?_
  refine lv_topi (fun v9 e9 => ?_)
  have h := h v9 e9
  refine lv_istore_n (lv' := [(3, .int v9), (0, .ref (ad 0)), (1, .int x1), (2, .int x2)]) hx hb d_C_hand_9 rfl hl (by decide) rfl (fun ls hl => ?_)
  refine lv_aload_n hx hb d_C_hand_10 rfl (lv_at hl 1 rfl) ?_
  refine r_get C ku_C hP (by decide) rfl rfl 1 (by decide) kw_133 rfl d_C_hand_11 ?_
  refine r_get C ku_P hP (by decide) rfl rfl 2 (by decide) kw_82 rfl d_C_hand_14 ?_
  refine lv_iload_n hx hb d_C_hand_17 rfl (lv_at hl 2 rfl) ?_
  refine lv_iload_n hx hb d_C_hand_18 rfl (lv_at hl 3 rfl) ?_
  obtain ⟨hi19, h⟩ := h
  refine r_iast C hP hD hS (by decide) (fun _ _ => rfl) rfl hi19 d_C_hand_19 (fun σ19 e19 H locs hP hD hS => ?_)
  have h := h σ19 e19
  refine lv_aload_n hx hb d_C_hand_20 rfl (lv_at hl 1 rfl) ?_
  refine r_get C ku_C hP (by decide) rfl rfl 2 (by decide) kw_134 rfl d_C_hand_21 ?_
  refine lv_aload_n hx hb d_C_hand_24 rfl (lv_at hl 1 rfl) ?_
  refine r_get C ku_C hP (by decide) rfl rfl 4 (by decide) kw_136 rfl d_C_hand_25 ?_
  obtain ⟨hi28, h⟩ := h
  refine r_aald C hP (by decide) rfl rfl hi28 d_C_hand_28 ?_
  refine r_get C ku_S hP (st_lt (st_in hi28)) (st_cell (st_in hi28) _ _) rfl 1 (by decide) kw_114 rfl d_C_hand_29 ?_
  refine lv_iload_n hx hb d_C_hand_32 rfl (lv_at hl 3 rfl) ?_
  refine lv_dup2_11 hx hb d_C_hand_33 rfl rfl ?_
  obtain ⟨hi34, h⟩ := h
  refine r_iald C hP (st_lt4 (st_in hi28)) (st_cell4 (st_in hi28) _ _) rfl hi34 d_C_hand_34 ?_
  refine lv_iload_n hx hb d_C_hand_35 rfl (lv_at hl 0 rfl) ?_
  refine lv_iadd hx hb d_C_hand_36 ?_
  obtain ⟨hi37, h⟩ := h
  refine r_iast C hP hD hS (st_lt4 (st_in hi28)) (st_cell4 (st_in hi28)) rfl hi37 d_C_hand_37 (fun σ37 e37 H locs hP hD hS => ?_)
  have h := h σ37 e37
  refine lv_aload_n hx hb d_C_hand_38 rfl (lv_at hl 1 rfl) ?_
  refine r_get C ku_C hP (by decide) rfl rfl 2 (by decide) kw_134 rfl d_C_hand_39 ?_
  refine lv_aload_n hx hb d_C_hand_42 rfl (lv_at hl 1 rfl) ?_
  refine r_get C ku_C hP (by decide) rfl rfl 4 (by decide) kw_136 rfl d_C_hand_43 ?_
  obtain ⟨hi46, h⟩ := h
  refine r_aald C hP (by decide) rfl rfl hi46 d_C_hand_46 ?_
  refine r_get C ku_S hP (st_lt (st_in hi46)) (st_cell (st_in hi46) _ _) rfl 0 (by decide) kw_112 rfl d_C_hand_47 ?_
  refine lv_iload_n hx hb d_C_hand_50 rfl (lv_at hl 3 rfl) ?_
  refine lv_iload_n hx hb d_C_hand_51 rfl (lv_at hl 0 rfl) ?_
  refine lv_i2l hx hb d_C_hand_52 rfl ?_
  refine lv_aload_n hx hb d_C_hand_53 rfl (lv_at hl 1 rfl) ?_
  refine r_get C ku_C hP (by decide) rfl rfl 1 (by decide) kw_133 rfl d_C_hand_54 ?_
  refine r_get C ku_P hP (by decide) rfl rfl 3 (by decide) kw_84 rfl d_C_hand_57 ?_
  refine r_get C ku_F hP (by decide) rfl rfl 0 (by decide) kw_68 rfl d_C_hand_60 ?_
  refine lv_iload_n hx hb d_C_hand_63 rfl (lv_at hl 2 rfl) ?_
  obtain ⟨hi64, h⟩ := h
  refine r_lald C hP (by decide) rfl rfl hi64 d_C_hand_64 ?_
  refine lv_lmul hx hb d_C_hand_65 ?_
  refine lv_aload_n hx hb d_C_hand_66 rfl (lv_at hl 1 rfl) ?_
  refine r_get C ku_C hP (by decide) rfl rfl 1 (by decide) kw_133 rfl d_C_hand_67 ?_
  refine r_get C ku_P hP (by decide) rfl rfl 3 (by decide) kw_84 rfl d_C_hand_70 ?_
  refine r_get C ku_F hP (by decide) rfl rfl 1 (by decide) kw_70 rfl d_C_hand_73 ?_
  refine lv_iload_n hx hb d_C_hand_76 rfl (lv_at hl 2 rfl) ?_
  obtain ⟨hi77, h⟩ := h
  refine r_lald C hP (by decide) rfl rfl hi77 d_C_hand_77 ?_
  refine r_callv C hD hS (va_runV (As := [.int x2, .long ((Int32.toInt64 v9) * (σ37.2 9 (Int32.toNatClampNeg x1))), .long (σ37.2 10 (Int32.toNatClampNeg x1))]) (rest := []) ⟨hx, hb, hml, hown, hts⟩ (m_F_add (st_fr (st_in hi46)) h) (cwV 3 hts (g_V kw_370 kw_371 kw_372 kw_4 kw_373) rfl rfl rfl (by decide +kernel) ⟨Nat.le_of_ble_eq_true rfl, Nat.le_of_ble_eq_true rfl⟩) (r_preV (o := ((12 + 5 * (Int32.toNatClampNeg (σ37.1 0 4))) + 1)) C hP hD hS (fr_lt (st_fr (st_in hi46))) (fr_cell (st_fr (st_in hi46)) _ _) rfl) rfl rfl hl.1 rfl (lv_room (Nat.le_of_ble_eq_true rfl)) d_C_hand_78 ⟨Nat.le_of_ble_eq_true rfl, Nat.le_of_ble_eq_true rfl⟩) (fun σ78 H locs h hP hD hS => ?_)
  exact r_vret C hP hD hS d_C_hand_81 h
def rm_C_passOn : Room := { frames := 4, cells := 0, slots := 0, locals := 109 }
set_option maxHeartbeats 4000000 in
set_option maxRecDepth 100000 in
theorem b_C_passOn_64 {p : Program} {l : Launch} {e : Env} {s : State} {m : MethodId} {args : Array Value} {below : List Frame} {meth : Method} {c : Code} {D : va_G} {cI cL cZ cS : ClassId} {ad : Nat → Nat} {wr : va_W} {A : Nat → Prop} {Q : Mem → Prop} {K3 : Int32 → Int64 → Int64 → Int32 → Mem → Prop} {x1 : Int32} {y2 : Int64} {y4 : Int64} {x6 : Int32} {σ : Mem} {H : Heap} {locs : List Loc} {ls : Array Slot} (C : wC TB "PreferenceCount" c_C_passOn 7 none D cls (tyl cI cL cZ cS) A p s m args meth c) (hK3 : ∀ {σ : Mem} {H : Heap} {locs : List Loc} {ls : Array Slot} {x1 : Int32} {y2 : Int64} {y4 : Int64} {x6 : Int32}, K3 x1 y2 y4 x6 σ → lv_has ls 7 [(0, .ref (ad 0)), (1, .int x1), (2, .long y2), (4, .long y4), (6, .int x6)] → va_P D cls (wW 77 (fX cI cL cS ad) ad σ ++ wr) H → va_D A (wW 77 (fX cI cL cS ad) ad σ ++ wr) → va_S A s.heap H locs → W p l e (headSpec (Cond.code y_C_passOn c_C_passOn 7 none :: TB) rm_C_passOn).room s m args below meth c H locs 0 0 (MQ below (va_Qv Q (wB D cls (tyl cI cL cZ cS) 77 (fX cI cL cS ad) ad wr A) A) args s 0 0 A) (F0 m 3 ls [])) (h : wp_C_passOn_64 Q K3 x1 y2 y4 x6 σ) (hl : lv_has ls 7 [(0, .ref (ad 0)), (1, .int x1), (2, .long y2), (4, .long y4), (6, .int x6)]) (hP : va_P D cls (wW 77 (fX cI cL cS ad) ad σ ++ wr) H) (hD : va_D A (wW 77 (fX cI cL cS ad) ad σ ++ wr)) (hS : va_S A s.heap H locs) : W p l e (headSpec (Cond.code y_C_passOn c_C_passOn 7 none :: TB) rm_C_passOn).room s m args below meth c H locs 0 0 (MQ below (va_Qv Q (wB D cls (tyl cI cL cZ cS) 77 (fX cI cL cS ad) ad wr A) A) args s 0 0 A) (F0 m 64 ls []) := by
  have hx := C.1
  have hb := C.2.1
  have hts := C.2.2.2.2.1
  have hown := C.2.2.2.2.2.1
  have hml := C.2.2.2.2.2.2.1
  have h : ∀ v64 : Int32, v64 = (x6 + 1) → (K3 x1 y2 y4 v64 σ) := h
  obtain ⟨v64, e64⟩ : ∃ z : Int32, z = (x6 + 1) := ⟨_, rfl⟩
  have h := h v64 e64
  refine lv_iinc (k := 4) (v := v64) (lv' := [(6, .int v64), (0, .ref (ad 0)), (1, .int x1), (2, .long y2), (4, .long y4)]) hx hb d_C_passOn_64 hl rfl (by rw [e64] <;> rfl) (by decide) rfl (fun ls hl => ?_)
  refine lv_goto hx hb d_C_passOn_67 rfl ?_
  exact hK3 h (lv_sub hl [1, 2, 3, 4, 0] rfl) hP hD hS
set_option maxHeartbeats 4000000 in
set_option maxRecDepth 100000 in
theorem b_C_passOn_3 {p : Program} {l : Launch} {e : Env} {s : State} {m : MethodId} {args : Array Value} {below : List Frame} {meth : Method} {c : Code} {D : va_G} {cI cL cZ cS : ClassId} {ad : Nat → Nat} {wr : va_W} {A : Nat → Prop} {Q : Mem → Prop} (C : wC TB "PreferenceCount" c_C_passOn 7 none D cls (tyl cI cL cZ cS) A p s m args meth c) : ∀ (n : Nat) {σ : Mem} {H : Heap} {locs : List Loc} {ls : Array Slot} {x1 : Int32} {y2 : Int64} {y4 : Int64} {x6 : Int32}, wp_C_passOn_3 Q n x1 y2 y4 x6 σ → lv_has ls 7 [(0, .ref (ad 0)), (1, .int x1), (2, .long y2), (4, .long y4), (6, .int x6)] → va_P D cls (wW 77 (fX cI cL cS ad) ad σ ++ wr) H → va_D A (wW 77 (fX cI cL cS ad) ad σ ++ wr) → va_S A s.heap H locs → W p l e (headSpec (Cond.code y_C_passOn c_C_passOn 7 none :: TB) rm_C_passOn).room s m args below meth c H locs 0 0 (MQ below (va_Qv Q (wB D cls (tyl cI cL cZ cS) 77 (fX cI cL cS ad) ad wr A) A) args s 0 0 A) (F0 m 3 ls []) := by
  have hx := C.1
  have hb := C.2.1
  have hts := C.2.2.2.2.1
  have hown := C.2.2.2.2.2.1
  have hml := C.2.2.2.2.2.2.1
  intro n
  induction n with
  | zero => intro σ H locs ls x1 y2 y4 x6 h; exact h.elim
  | succ j3 ih =>
    intro σ H locs ls x1 y2 y4 x6 h hl hP hD hS
    have hK3 := @ih
    have h : ((σ.1 4 4) ≤ x6 → (Q σ)) ∧ (¬ (σ.1 4 4) ≤ x6 → (vp_in x6 50 ∧ (((σ.1 7 (Int32.toNatClampNeg x6)) = x1 → (wp_F_multiply (fun σ41 => vp_in x6 50 ∧ (wp_C_firstContinuing (fun r58 σ58 => wp_C_hand (fun σ61 => wp_C_passOn_64 Q (wp_C_passOn_3 Q j3) x1 y2 y4 x6 σ61) x6 r58 σ58) (σ41.2 5 (Int32.toNatClampNeg x6)) σ41)) 8 x6 y2 y4 σ)) ∧ (¬ (σ.1 7 (Int32.toNatClampNeg x6)) = x1 → (wp_C_passOn_64 Q (wp_C_passOn_3 Q j3) x1 y2 y4 x6 σ))))) := h
    refine lv_iload hx hb d_C_passOn_3 (lv_at hl 4 rfl) ?_
    refine lv_aload_n hx hb d_C_passOn_5 rfl (lv_at hl 0 rfl) ?_
    refine r_get C ku_C hP (by decide) rfl rfl 1 (by decide) kw_133 rfl d_C_passOn_6 ?_
    refine r_get C ku_P hP (by decide) rfl rfl 4 (by decide) kw_86 rfl d_C_passOn_9 ?_
    refine lv_icmp_ge hx hb d_C_passOn_12 rfl (fun hc12 => ?_) (fun hc12 => ?_)
    · have h := h.1 hc12
      exact r_vret C hP hD hS d_C_passOn_70 h
    · have h := h.2 hc12
      refine lv_aload_n hx hb d_C_passOn_15 rfl (lv_at hl 0 rfl) ?_
      refine r_get C ku_C hP (by decide) rfl rfl 1 (by decide) kw_133 rfl d_C_passOn_16 ?_
      refine r_get C ku_P hP (by decide) rfl rfl 2 (by decide) kw_82 rfl d_C_passOn_19 ?_
      refine lv_iload hx hb d_C_passOn_22 (lv_at hl 4 rfl) ?_
      obtain ⟨hi24, h⟩ := h
      refine r_iald C hP (by decide) rfl rfl hi24 d_C_passOn_24 ?_
      refine lv_iload_n hx hb d_C_passOn_25 rfl (lv_at hl 1 rfl) ?_
      refine lv_icmp_ne hx hb d_C_passOn_26 rfl (fun hc26 => ?_) (fun hc26 => ?_)
      · have h := h.2 hc26
        exact b_C_passOn_64 C hK3 h (lv_sub hl [0, 1, 2, 3, 4] rfl) hP hD hS
      · have h := h.1 hc26
        refine lv_aload_n hx hb d_C_passOn_29 rfl (lv_at hl 0 rfl) ?_
        refine r_get C ku_C hP (by decide) rfl rfl 1 (by decide) kw_133 rfl d_C_passOn_30 ?_
        refine r_get C ku_P hP (by decide) rfl rfl 3 (by decide) kw_84 rfl d_C_passOn_33 ?_
        refine lv_iload hx hb d_C_passOn_36 (lv_at hl 4 rfl) ?_
        refine lv_lload_n hx hb d_C_passOn_38 rfl (lv_at hl 2 rfl) ?_
        refine lv_lload hx hb d_C_passOn_39 (lv_at hl 3 rfl) ?_
        refine r_callv C hD hS (va_runV (As := [.int x6, .long y2, .long y4]) (rest := []) ⟨hx, hb, hml, hown, hts⟩ (m_F_multiply fr_8 h) (cwV 3 hts (g_V kw_357 kw_358 kw_359 kw_4 kw_360) rfl rfl rfl (by decide +kernel) ⟨Nat.le_of_ble_eq_true rfl, Nat.le_of_ble_eq_true rfl⟩) (r_preV (o := 8) C hP hD hS (by decide) rfl rfl) rfl rfl hl.1 rfl (lv_room (Nat.le_of_ble_eq_true rfl)) d_C_passOn_41 ⟨Nat.le_of_ble_eq_true rfl, Nat.le_of_ble_eq_true rfl⟩) (fun σ41 H locs h hP hD hS => ?_)
        refine lv_aload_n hx hb d_C_passOn_44 rfl (lv_at hl 0 rfl) ?_
        refine lv_iload hx hb d_C_passOn_45 (lv_at hl 4 rfl) ?_
        refine lv_aload_n hx hb d_C_passOn_47 rfl (lv_at hl 0 rfl) ?_
        refine lv_aload_n hx hb d_C_passOn_48 rfl (lv_at hl 0 rfl) ?_
        refine r_get C ku_C hP (by decide) rfl rfl 1 (by decide) kw_133 rfl d_C_passOn_49 ?_
        refine r_get C ku_P hP (by decide) rfl rfl 0 (by decide) kw_78 rfl d_C_passOn_52 ?_
        refine lv_iload hx hb d_C_passOn_55 (lv_at hl 4 rfl) ?_
        obtain ⟨hi57, h⟩ := h
        refine r_lald C hP (by decide) rfl rfl hi57 d_C_passOn_57 ?_
        refine r_calli C hD hS (va_runV (As := [.long (σ41.2 5 (Int32.toNatClampNeg x6))]) (rest := [.int x6, .ref (ad 0)]) ⟨hx, hb, hml, hown, hts⟩ (m_C_firstContinuing h) (cwV 1 hts (g_V kw_362 kw_364 kp_7 kw_1 kw_365) rfl rfl rfl (by decide +kernel) ⟨Nat.le_of_ble_eq_true rfl, Nat.le_of_ble_eq_true rfl⟩) (r_preV (o := 0) C hP hD hS (by decide) rfl rfl) rfl rfl hl.1 rfl (lv_room (Nat.le_of_ble_eq_true rfl)) d_C_passOn_58 ⟨Nat.le_of_ble_eq_true rfl, Nat.le_of_ble_eq_true rfl⟩) (fun r58 σ58 H locs h hP hD hS => ?_)
        refine r_callv C hD hS (va_runV (As := [.int x6, .int r58]) (rest := []) ⟨hx, hb, hml, hown, hts⟩ (m_C_hand h) (cwV 2 hts (g_V kw_366 kw_368 kp_8 kw_1 kw_369) rfl rfl rfl (by decide +kernel) ⟨Nat.le_of_ble_eq_true rfl, Nat.le_of_ble_eq_true rfl⟩) (r_preV (o := 0) C hP hD hS (by decide) rfl rfl) rfl rfl hl.1 rfl (lv_room (Nat.le_of_ble_eq_true rfl)) d_C_passOn_61 ⟨Nat.le_of_ble_eq_true rfl, Nat.le_of_ble_eq_true rfl⟩) (fun σ61 H locs h hP hD hS => ?_)
        exact b_C_passOn_64 C hK3 h (lv_sub hl [0, 1, 2, 3, 4] rfl) hP hD hS
set_option maxHeartbeats 4000000 in
set_option maxRecDepth 100000 in
theorem m_C_passOn {l : Launch} {D : va_G} {cI cL cZ cS : ClassId} {ad : Nat → Nat} {wr : va_W} {sz : Nat} {Q : Mem → Prop} {x1 : Int32} {y2 : Int64} {y4 : Int64} {σ : Mem} (h : wp_C_passOn Q x1 y2 y4 σ) : Met l y_C_passOn (Cond.code y_C_passOn c_C_passOn 7 none :: TB) rm_C_passOn (wPc D cls (tyl cI cL cZ cS) 77 (fX cI cL cS ad) ad wr sz σ [.ref (ad 0), .int x1, .long y2, .long y4]) (va_Qv Q (wB D cls (tyl cI cL cZ cS) 77 (fX cI cL cS ad) ad wr (wA 77 (fX cI cL cS ad) ad wr sz σ)) (wA 77 (fX cI cL cS ad) ad wr sz σ)) 0 0 (wA 77 (fX cI cL cS ad) ad wr sz σ) := by
  refine Met.ofW (cc := c_C_passOn) (maxL := 7) (ret := none) (by decide) rfl ?_
  intro p e s m args below meth c s₁ B hml hv
  obtain ⟨rfl, hsz, hP, hK, hD0, hN⟩ := hv
  subst hsz
  have hD : va_D (wA 77 (fX cI cL cS ad) ad wr s.heap.size σ) (wW 77 (fX cI cL cS ad) ad σ ++ wr) := hD0.self (sz := s.heap.size)
  have hA : ∀ q : Nat, s.heap.size ≤ q → (wA 77 (fX cI cL cS ad) ad wr s.heap.size σ) q := fun q h => Or.inr h
  have hN : NX (wA 77 (fX cI cL cS ad) ad wr s.heap.size σ) s s.heap := hN
  generalize (wA 77 (fX cI cL cS ad) ad wr s.heap.size σ) = A at hD hA hN ⊢
  have C : wC TB "PreferenceCount" c_C_passOn 7 none D cls (tyl cI cL cZ cS) A p s m ([.ref (ad 0), .int x1, .long y2, .long y4].toArray) meth c := ⟨B.exec, B.bytes, B.returns, B.notSynchronized, fun w hw => atoms_spec (ws := Cond.code y_C_passOn c_C_passOn 7 none :: TB) B.pre w (List.mem_cons_of_mem _ hw), findClass_of_methodNamed B.named, hml, hK, hN, hA⟩
  have hx := C.1
  have hb := C.2.1
  have hts := C.2.2.2.2.1
  have hown := C.2.2.2.2.2.1
  have hS : va_S A s.heap s.heap [] := va_S.rf
  have hl := lv_entry ([.ref (ad 0), .int x1, .long y2, .long y4]) (n := 7) (Nat.le_of_ble_eq_true rfl)
  rw [lg_entry_eq]
  generalize (lg_sl ([.ref (ad 0), .int x1, .long y2, .long y4]) ++ List.replicate (7 - (lg_sl ([.ref (ad 0), .int x1, .long y2, .long y4])).length) Slot.unset).toArray = ls at hl ⊢
  have hl : lv_has ls 7 [(0, .ref (ad 0)), (1, .int x1), (2, .long y2), (4, .long y4)] := hl
  have h : ∃ k3 : Nat, wp_C_passOn_3 Q k3 x1 y2 y4 (0 : Int32) σ := h
  refine lv_iconst (v := 0) hx hb d_C_passOn_0 (by decide) ?_
  refine lv_istore (lv' := [(6, .int (0 : Int32)), (0, .ref (ad 0)), (1, .int x1), (2, .long y2), (4, .long y4)]) hx hb d_C_passOn_1 hl (by decide) rfl (fun ls hl => ?_)
  obtain ⟨n, h⟩ := h
  exact b_C_passOn_3 C n h (lv_sub hl [1, 2, 3, 4, 0] rfl) hP hD hS
def rm_C_passSurplus : Room := { frames := 5, cells := 0, slots := 0, locals := 135 }
set_option maxHeartbeats 4000000 in
set_option maxRecDepth 100000 in
theorem m_C_passSurplus {l : Launch} {D : va_G} {cI cL cZ cS : ClassId} {ad : Nat → Nat} {wr : va_W} {sz : Nat} {Q : Mem → Prop} {x1 : Int32} {σ : Mem} (h : wp_C_passSurplus Q x1 σ) : Met l y_C_passSurplus (Cond.code y_C_passSurplus c_C_passSurplus 7 none :: TB) rm_C_passSurplus (wPc D cls (tyl cI cL cZ cS) 77 (fX cI cL cS ad) ad wr sz σ [.ref (ad 0), .int x1]) (va_Qv Q (wB D cls (tyl cI cL cZ cS) 77 (fX cI cL cS ad) ad wr (wA 77 (fX cI cL cS ad) ad wr sz σ)) (wA 77 (fX cI cL cS ad) ad wr sz σ)) 0 0 (wA 77 (fX cI cL cS ad) ad wr sz σ) := by
  refine Met.ofW (cc := c_C_passSurplus) (maxL := 7) (ret := none) (by decide) rfl ?_
  intro p e s m args below meth c s₁ B hml hv
  obtain ⟨rfl, hsz, hP, hK, hD0, hN⟩ := hv
  subst hsz
  have hD : va_D (wA 77 (fX cI cL cS ad) ad wr s.heap.size σ) (wW 77 (fX cI cL cS ad) ad σ ++ wr) := hD0.self (sz := s.heap.size)
  have hA : ∀ q : Nat, s.heap.size ≤ q → (wA 77 (fX cI cL cS ad) ad wr s.heap.size σ) q := fun q h => Or.inr h
  have hN : NX (wA 77 (fX cI cL cS ad) ad wr s.heap.size σ) s s.heap := hN
  generalize (wA 77 (fX cI cL cS ad) ad wr s.heap.size σ) = A at hD hA hN ⊢
  have C : wC TB "PreferenceCount" c_C_passSurplus 7 none D cls (tyl cI cL cZ cS) A p s m ([.ref (ad 0), .int x1].toArray) meth c := ⟨B.exec, B.bytes, B.returns, B.notSynchronized, fun w hw => atoms_spec (ws := Cond.code y_C_passSurplus c_C_passSurplus 7 none :: TB) B.pre w (List.mem_cons_of_mem _ hw), findClass_of_methodNamed B.named, hml, hK, hN, hA⟩
  have hx := C.1
  have hb := C.2.1
  have hts := C.2.2.2.2.1
  have hown := C.2.2.2.2.2.1
  have hS : va_S A s.heap s.heap [] := va_S.rf
  have hl := lv_entry ([.ref (ad 0), .int x1]) (n := 7) (Nat.le_of_ble_eq_true rfl)
  rw [lg_entry_eq]
  generalize (lg_sl ([.ref (ad 0), .int x1]) ++ List.replicate (7 - (lg_sl ([.ref (ad 0), .int x1])).length) Slot.unset).toArray = ls at hl ⊢
  have hl : lv_has ls 7 [(0, .ref (ad 0)), (1, .int x1)] := hl
  have h : vp_in (σ.1 0 4) 13 ∧ (vp_in x1 (frLen ((12 + 5 * (Int32.toNatClampNeg (σ.1 0 4))) + 1)) ∧ (∀ v24 : Int64, v24 = ((σ.2 0 7) * (σ.2 (((12 + 5 * (Int32.toNatClampNeg (σ.1 0 4))) + 1) + 1) (Int32.toNatClampNeg x1))) → (vp_in x1 (frLen ((12 + 5 * (Int32.toNatClampNeg (σ.1 0 4))) + 1)) ∧ (∀ v38 : Int64, v38 = (v24 - ((σ.2 0 6) * (σ.2 (((12 + 5 * (Int32.toNatClampNeg (σ.1 0 4))) + 1) + 2) (Int32.toNatClampNeg x1)))) → (wp_F_put (fun σ50 => wp_C_passOn (fun σ58 => Q σ58) x1 v38 v24 σ50) ((12 + 5 * (Int32.toNatClampNeg (σ.1 0 4))) + 1) x1 (σ.2 0 6) (σ.2 0 7) σ))))) := h
  refine lv_aload_n hx hb d_C_passSurplus_0 rfl (lv_at hl 0 rfl) ?_
  refine r_get C ku_C hP (by decide) rfl rfl 2 (by decide) kw_134 rfl d_C_passSurplus_1 ?_
  refine lv_aload_n hx hb d_C_passSurplus_4 rfl (lv_at hl 0 rfl) ?_
  refine r_get C ku_C hP (by decide) rfl rfl 4 (by decide) kw_136 rfl d_C_passSurplus_5 ?_
  obtain ⟨hi8, h⟩ := h
  refine r_aald C hP (by decide) rfl rfl hi8 d_C_passSurplus_8 ?_
  refine r_get C ku_S hP (st_lt (st_in hi8)) (st_cell (st_in hi8) _ _) rfl 0 (by decide) kw_112 rfl d_C_passSurplus_9 ?_
  refine lv_astore_n (lv' := [(2, .ref (ad ((12 + 5 * (Int32.toNatClampNeg (σ.1 0 4))) + 1))), (0, .ref (ad 0)), (1, .int x1)]) hx hb d_C_passSurplus_12 rfl hl (by decide) rfl (fun ls hl => ?_)
  refine lv_aload_n hx hb d_C_passSurplus_13 rfl (lv_at hl 1 rfl) ?_
  refine r_get C ku_C hP (by decide) rfl rfl 7 (by decide) kw_139 rfl d_C_passSurplus_14 ?_
  refine lv_aload_n hx hb d_C_passSurplus_17 rfl (lv_at hl 0 rfl) ?_
  refine r_get C ku_F hP (fr_lt (st_fr (st_in hi8))) (fr_cell (st_fr (st_in hi8)) _ _) rfl 0 (by decide) kw_68 rfl d_C_passSurplus_18 ?_
  refine lv_iload_n hx hb d_C_passSurplus_21 rfl (lv_at hl 2 rfl) ?_
  obtain ⟨hi22, h⟩ := h
  refine r_lald C hP (fr_lt1 (st_fr (st_in hi8))) (fr_cell1 (st_fr (st_in hi8)) _ _) rfl hi22 d_C_passSurplus_22 ?_
  refine lv_lmul hx hb d_C_passSurplus_23 ?_
  refine lv_topl (fun v24 e24 => ?_)
  have h := h v24 e24
  refine lv_lstore_n (lv' := [(3, .long v24), (2, .ref (ad ((12 + 5 * (Int32.toNatClampNeg (σ.1 0 4))) + 1))), (0, .ref (ad 0)), (1, .int x1)]) hx hb d_C_passSurplus_24 rfl hl (by decide) rfl (fun ls hl => ?_)
  refine lv_lload_n hx hb d_C_passSurplus_25 rfl (lv_at hl 0 rfl) ?_
  refine lv_aload_n hx hb d_C_passSurplus_26 rfl (lv_at hl 2 rfl) ?_
  refine r_get C ku_C hP (by decide) rfl rfl 6 (by decide) kw_138 rfl d_C_passSurplus_27 ?_
  refine lv_aload_n hx hb d_C_passSurplus_30 rfl (lv_at hl 1 rfl) ?_
  refine r_get C ku_F hP (fr_lt (st_fr (st_in hi8))) (fr_cell (st_fr (st_in hi8)) _ _) rfl 1 (by decide) kw_70 rfl d_C_passSurplus_31 ?_
  refine lv_iload_n hx hb d_C_passSurplus_34 rfl (lv_at hl 3 rfl) ?_
  obtain ⟨hi35, h⟩ := h
  refine r_lald C hP (fr_lt2 (st_fr (st_in hi8))) (fr_cell2 (st_fr (st_in hi8)) _ _) rfl hi35 d_C_passSurplus_35 ?_
  refine lv_lmul hx hb d_C_passSurplus_36 ?_
  refine lv_lsub hx hb d_C_passSurplus_37 ?_
  refine lv_topl (fun v38 e38 => ?_)
  have h := h v38 e38
  refine lv_lstore (lv' := [(5, .long v38), (3, .long v24), (2, .ref (ad ((12 + 5 * (Int32.toNatClampNeg (σ.1 0 4))) + 1))), (0, .ref (ad 0)), (1, .int x1)]) hx hb d_C_passSurplus_38 hl (by decide) rfl (fun ls hl => ?_)
  refine lv_aload_n hx hb d_C_passSurplus_40 rfl (lv_at hl 2 rfl) ?_
  refine lv_iload_n hx hb d_C_passSurplus_41 rfl (lv_at hl 4 rfl) ?_
  refine lv_aload_n hx hb d_C_passSurplus_42 rfl (lv_at hl 3 rfl) ?_
  refine r_get C ku_C hP (by decide) rfl rfl 6 (by decide) kw_138 rfl d_C_passSurplus_43 ?_
  refine lv_aload_n hx hb d_C_passSurplus_46 rfl (lv_at hl 3 rfl) ?_
  refine r_get C ku_C hP (by decide) rfl rfl 7 (by decide) kw_139 rfl d_C_passSurplus_47 ?_
  refine r_callv C hD hS (va_runV (As := [.int x1, .long (σ.2 0 6), .long (σ.2 0 7)]) (rest := []) ⟨hx, hb, hml, hown, hts⟩ (m_F_put (st_fr (st_in hi8)) h) (cwV 3 hts (g_V kw_436 kw_323 kw_324 kw_4 kw_325) rfl rfl rfl (by decide +kernel) ⟨Nat.le_of_ble_eq_true rfl, Nat.le_of_ble_eq_true rfl⟩) (r_preV (o := ((12 + 5 * (Int32.toNatClampNeg (σ.1 0 4))) + 1)) C hP hD hS (fr_lt (st_fr (st_in hi8))) (fr_cell (st_fr (st_in hi8)) _ _) rfl) rfl rfl hl.1 rfl (lv_room (Nat.le_of_ble_eq_true rfl)) d_C_passSurplus_50 ⟨Nat.le_of_ble_eq_true rfl, Nat.le_of_ble_eq_true rfl⟩) (fun σ50 H locs h hP hD hS => ?_)
  refine lv_aload_n hx hb d_C_passSurplus_53 rfl (lv_at hl 3 rfl) ?_
  refine lv_iload_n hx hb d_C_passSurplus_54 rfl (lv_at hl 4 rfl) ?_
  refine lv_lload hx hb d_C_passSurplus_55 (lv_at hl 0 rfl) ?_
  refine lv_lload_n hx hb d_C_passSurplus_57 rfl (lv_at hl 1 rfl) ?_
  refine r_callv C hD hS (va_runV (As := [.int x1, .long v38, .long v24]) (rest := []) ⟨hx, hb, hml, hown, hts⟩ (m_C_passOn h) (cwV 3 hts (g_V kw_353 kw_355 kp_6 kw_1 kw_356) rfl rfl rfl (by decide +kernel) ⟨Nat.le_of_ble_eq_true rfl, Nat.le_of_ble_eq_true rfl⟩) (r_preV (o := 0) C hP hD hS (by decide) rfl rfl) rfl rfl hl.1 rfl (lv_room (Nat.le_of_ble_eq_true rfl)) d_C_passSurplus_58 ⟨Nat.le_of_ble_eq_true rfl, Nat.le_of_ble_eq_true rfl⟩) (fun σ58 H locs h hP hD hS => ?_)
  exact r_vret C hP hD hS d_C_passSurplus_61 h
def rm_C_excludeAndPass : Room := { frames := 5, cells := 0, slots := 0, locals := 135 }
set_option maxHeartbeats 4000000 in
set_option maxRecDepth 100000 in
theorem m_C_excludeAndPass {l : Launch} {D : va_G} {cI cL cZ cS : ClassId} {ad : Nat → Nat} {wr : va_W} {sz : Nat} {Q : Mem → Prop} {x1 : Int32} {σ : Mem} (h : wp_C_excludeAndPass Q x1 σ) : Met l y_C_excludeAndPass (Cond.code y_C_excludeAndPass c_C_excludeAndPass 2 none :: TB) rm_C_excludeAndPass (wPc D cls (tyl cI cL cZ cS) 77 (fX cI cL cS ad) ad wr sz σ [.ref (ad 0), .int x1]) (va_Qv Q (wB D cls (tyl cI cL cZ cS) 77 (fX cI cL cS ad) ad wr (wA 77 (fX cI cL cS ad) ad wr sz σ)) (wA 77 (fX cI cL cS ad) ad wr sz σ)) 0 0 (wA 77 (fX cI cL cS ad) ad wr sz σ) := by
  refine Met.ofW (cc := c_C_excludeAndPass) (maxL := 2) (ret := none) (by decide) rfl ?_
  intro p e s m args below meth c s₁ B hml hv
  obtain ⟨rfl, hsz, hP, hK, hD0, hN⟩ := hv
  subst hsz
  have hD : va_D (wA 77 (fX cI cL cS ad) ad wr s.heap.size σ) (wW 77 (fX cI cL cS ad) ad σ ++ wr) := hD0.self (sz := s.heap.size)
  have hA : ∀ q : Nat, s.heap.size ≤ q → (wA 77 (fX cI cL cS ad) ad wr s.heap.size σ) q := fun q h => Or.inr h
  have hN : NX (wA 77 (fX cI cL cS ad) ad wr s.heap.size σ) s s.heap := hN
  generalize (wA 77 (fX cI cL cS ad) ad wr s.heap.size σ) = A at hD hA hN ⊢
  have C : wC TB "PreferenceCount" c_C_excludeAndPass 2 none D cls (tyl cI cL cZ cS) A p s m ([.ref (ad 0), .int x1].toArray) meth c := ⟨B.exec, B.bytes, B.returns, B.notSynchronized, fun w hw => atoms_spec (ws := Cond.code y_C_excludeAndPass c_C_excludeAndPass 2 none :: TB) B.pre w (List.mem_cons_of_mem _ hw), findClass_of_methodNamed B.named, hml, hK, hN, hA⟩
  have hx := C.1
  have hb := C.2.1
  have hts := C.2.2.2.2.1
  have hown := C.2.2.2.2.2.1
  have hS : va_S A s.heap s.heap [] := va_S.rf
  have hl := lv_entry ([.ref (ad 0), .int x1]) (n := 2) (Nat.le_of_ble_eq_true rfl)
  rw [lg_entry_eq]
  generalize (lg_sl ([.ref (ad 0), .int x1]) ++ List.replicate (2 - (lg_sl ([.ref (ad 0), .int x1])).length) Slot.unset).toArray = ls at hl ⊢
  have hl : lv_has ls 2 [(0, .ref (ad 0)), (1, .int x1)] := hl
  have h : wp_R_exclude (fun σ5 => vp_in (σ5.1 0 4) 13 ∧ (wp_F_put (fun σ23 => wp_C_passOn (fun σ30 => Q σ30) x1 (1 : Int64) (1 : Int64) σ23) ((12 + 5 * (Int32.toNatClampNeg (σ5.1 0 4))) + 1) x1 (0 : Int64) (1 : Int64) σ5)) x1 σ := h
  refine lv_aload_n hx hb d_C_excludeAndPass_0 rfl (lv_at hl 0 rfl) ?_
  refine r_get C ku_C hP (by decide) rfl rfl 0 (by decide) kw_132 rfl d_C_excludeAndPass_1 ?_
  refine lv_iload_n hx hb d_C_excludeAndPass_4 rfl (lv_at hl 1 rfl) ?_
  refine r_callv C hD hS (va_runV (As := [.int x1]) (rest := []) ⟨hx, hb, hml, hown, hts⟩ (m_R_exclude h) (cwV 1 hts (g_V kw_298 kw_299 kw_300 kw_2 kw_301) rfl rfl rfl (by decide +kernel) ⟨Nat.le_of_ble_eq_true rfl, Nat.le_of_ble_eq_true rfl⟩) (r_preV (o := 1) C hP hD hS (by decide) rfl rfl) rfl rfl hl.1 rfl (lv_room (Nat.le_of_ble_eq_true rfl)) d_C_excludeAndPass_5 ⟨Nat.le_of_ble_eq_true rfl, Nat.le_of_ble_eq_true rfl⟩) (fun σ5 H locs h hP hD hS => ?_)
  refine lv_aload_n hx hb d_C_excludeAndPass_8 rfl (lv_at hl 0 rfl) ?_
  refine r_get C ku_C hP (by decide) rfl rfl 2 (by decide) kw_134 rfl d_C_excludeAndPass_9 ?_
  refine lv_aload_n hx hb d_C_excludeAndPass_12 rfl (lv_at hl 0 rfl) ?_
  refine r_get C ku_C hP (by decide) rfl rfl 4 (by decide) kw_136 rfl d_C_excludeAndPass_13 ?_
  obtain ⟨hi16, h⟩ := h
  refine r_aald C hP (by decide) rfl rfl hi16 d_C_excludeAndPass_16 ?_
  refine r_get C ku_S hP (st_lt (st_in hi16)) (st_cell (st_in hi16) _ _) rfl 0 (by decide) kw_112 rfl d_C_excludeAndPass_17 ?_
  refine lv_iload_n hx hb d_C_excludeAndPass_20 rfl (lv_at hl 1 rfl) ?_
  refine lv_lconst (v := 0) hx hb d_C_excludeAndPass_21 (by decide) ?_
  refine lv_lconst (v := 1) hx hb d_C_excludeAndPass_22 (by decide) ?_
  refine r_callv C hD hS (va_runV (As := [.int x1, .long (0 : Int64), .long (1 : Int64)]) (rest := []) ⟨hx, hb, hml, hown, hts⟩ (m_F_put (st_fr (st_in hi16)) h) (cwV 3 hts (g_V kw_436 kw_323 kw_324 kw_4 kw_325) rfl rfl rfl (by decide +kernel) ⟨Nat.le_of_ble_eq_true rfl, Nat.le_of_ble_eq_true rfl⟩) (r_preV (o := ((12 + 5 * (Int32.toNatClampNeg (σ5.1 0 4))) + 1)) C hP hD hS (fr_lt (st_fr (st_in hi16))) (fr_cell (st_fr (st_in hi16)) _ _) rfl) rfl rfl hl.1 rfl (lv_room (Nat.le_of_ble_eq_true rfl)) d_C_excludeAndPass_23 ⟨Nat.le_of_ble_eq_true rfl, Nat.le_of_ble_eq_true rfl⟩) (fun σ23 H locs h hP hD hS => ?_)
  refine lv_aload_n hx hb d_C_excludeAndPass_26 rfl (lv_at hl 0 rfl) ?_
  refine lv_iload_n hx hb d_C_excludeAndPass_27 rfl (lv_at hl 1 rfl) ?_
  refine lv_lconst (v := 1) hx hb d_C_excludeAndPass_28 (by decide) ?_
  refine lv_lconst (v := 1) hx hb d_C_excludeAndPass_29 (by decide) ?_
  refine r_callv C hD hS (va_runV (As := [.int x1, .long (1 : Int64), .long (1 : Int64)]) (rest := []) ⟨hx, hb, hml, hown, hts⟩ (m_C_passOn h) (cwV 3 hts (g_V kw_353 kw_355 kp_6 kw_1 kw_356) rfl rfl rfl (by decide +kernel) ⟨Nat.le_of_ble_eq_true rfl, Nat.le_of_ble_eq_true rfl⟩) (r_preV (o := 0) C hP hD hS (by decide) rfl rfl) rfl rfl hl.1 rfl (lv_room (Nat.le_of_ble_eq_true rfl)) d_C_excludeAndPass_30 ⟨Nat.le_of_ble_eq_true rfl, Nat.le_of_ble_eq_true rfl⟩) (fun σ30 H locs h hP hD hS => ?_)
  exact r_vret C hP hD hS d_C_excludeAndPass_33 h
def rm_C_isAhead : Room := { frames := 2, cells := 0, slots := 0, locals := 57 }
set_option maxHeartbeats 4000000 in
set_option maxRecDepth 100000 in
theorem b_C_isAhead_90 {p : Program} {l : Launch} {e : Env} {s : State} {m : MethodId} {args : Array Value} {below : List Frame} {meth : Method} {c : Code} {D : va_G} {cI cL cZ cS : ClassId} {ad : Nat → Nat} {wr : va_W} {A : Nat → Prop} {Q : Int32 → Mem → Prop} {t0 : Int32} {σ : Mem} {H : Heap} {locs : List Loc} {ls : Array Slot} (C : wC TB "PreferenceCount" c_C_isAhead 6 (some .boolean) D cls (tyl cI cL cZ cS) A p s m args meth c) (h : wp_C_isAhead_90 Q t0 σ) (hl : lv_has ls 6 []) (hP : va_P D cls (wW 77 (fX cI cL cS ad) ad σ ++ wr) H) (hD : va_D A (wW 77 (fX cI cL cS ad) ad σ ++ wr)) (hS : va_S A s.heap H locs) : W p l e (headSpec (Cond.code y_C_isAhead c_C_isAhead 6 (some .boolean) :: TB) rm_C_isAhead).room s m args below meth c H locs 0 0 (MQ below (va_Qi Q (wB D cls (tyl cI cL cZ cS) 77 (fX cI cL cS ad) ad wr A) A) args s 0 0 A) (F0 m 90 ls [.int t0]) := by
  have hx := C.1
  have hb := C.2.1
  have hts := C.2.2.2.2.1
  have hown := C.2.2.2.2.2.1
  have hml := C.2.2.2.2.2.2.1
  have h : (t0 = 0 ∨ t0 = 1) ∧ Q t0 σ := h
  obtain ⟨hb90, h⟩ := h
  exact r_zret C hb90 hP hD hS d_C_isAhead_90 h
set_option maxHeartbeats 4000000 in
set_option maxRecDepth 100000 in
theorem b_C_isAhead_57 {p : Program} {l : Launch} {e : Env} {s : State} {m : MethodId} {args : Array Value} {below : List Frame} {meth : Method} {c : Code} {D : va_G} {cI cL cZ cS : ClassId} {ad : Nat → Nat} {wr : va_W} {A : Nat → Prop} {Q : Int32 → Mem → Prop} {t0 : Int32} {σ : Mem} {H : Heap} {locs : List Loc} {ls : Array Slot} (C : wC TB "PreferenceCount" c_C_isAhead 6 (some .boolean) D cls (tyl cI cL cZ cS) A p s m args meth c) (h : wp_C_isAhead_57 Q t0 σ) (hl : lv_has ls 6 []) (hP : va_P D cls (wW 77 (fX cI cL cS ad) ad σ ++ wr) H) (hD : va_D A (wW 77 (fX cI cL cS ad) ad σ ++ wr)) (hS : va_S A s.heap H locs) : W p l e (headSpec (Cond.code y_C_isAhead c_C_isAhead 6 (some .boolean) :: TB) rm_C_isAhead).room s m args below meth c H locs 0 0 (MQ below (va_Qi Q (wB D cls (tyl cI cL cZ cS) 77 (fX cI cL cS ad) ad wr A) A) args s 0 0 A) (F0 m 57 ls [.int t0]) := by
  have hx := C.1
  have hb := C.2.1
  have hts := C.2.2.2.2.1
  have hown := C.2.2.2.2.2.1
  have hml := C.2.2.2.2.2.2.1
  have h : (t0 = 0 ∨ t0 = 1) ∧ Q t0 σ := h
  obtain ⟨hb57, h⟩ := h
  exact r_zret C hb57 hP hD hS d_C_isAhead_57 h
set_option maxHeartbeats 4000000 in
set_option maxRecDepth 100000 in
theorem b_C_isAhead_5 {p : Program} {l : Launch} {e : Env} {s : State} {m : MethodId} {args : Array Value} {below : List Frame} {meth : Method} {c : Code} {D : va_G} {cI cL cZ cS : ClassId} {ad : Nat → Nat} {wr : va_W} {A : Nat → Prop} {Q : Int32 → Mem → Prop} (C : wC TB "PreferenceCount" c_C_isAhead 6 (some .boolean) D cls (tyl cI cL cZ cS) A p s m args meth c) : ∀ (n : Nat) {σ : Mem} {H : Heap} {locs : List Loc} {ls : Array Slot} {x1 : Int32} {x2 : Int32} {x3 : Int32}, wp_C_isAhead_5 Q n x1 x2 x3 σ → lv_has ls 6 [(0, .ref (ad 0)), (1, .int x1), (2, .int x2), (3, .int x3)] → va_P D cls (wW 77 (fX cI cL cS ad) ad σ ++ wr) H → va_D A (wW 77 (fX cI cL cS ad) ad σ ++ wr) → va_S A s.heap H locs → W p l e (headSpec (Cond.code y_C_isAhead c_C_isAhead 6 (some .boolean) :: TB) rm_C_isAhead).room s m args below meth c H locs 0 0 (MQ below (va_Qi Q (wB D cls (tyl cI cL cZ cS) 77 (fX cI cL cS ad) ad wr A) A) args s 0 0 A) (F0 m 5 ls []) := by
  have hx := C.1
  have hb := C.2.1
  have hts := C.2.2.2.2.1
  have hown := C.2.2.2.2.2.1
  have hml := C.2.2.2.2.2.2.1
  intro n
  induction n with
  | zero => intro σ H locs ls x1 x2 x3 h; exact h.elim
  | succ j5 ih =>
    intro σ H locs ls x1 x2 x3 h hl hP hD hS
    have hK5 := @ih
    have h : (x3 < 0 → (vp_in x1 12 ∧ (vp_in x2 12 ∧ (((σ.1 2 (Int32.toNatClampNeg x2)) ≤ (σ.1 2 (Int32.toNatClampNeg x1)) → (wp_C_isAhead_90 Q (0 : Int32) σ)) ∧ (¬ (σ.1 2 (Int32.toNatClampNeg x2)) ≤ (σ.1 2 (Int32.toNatClampNeg x1)) → (wp_C_isAhead_90 Q (1 : Int32) σ)))))) ∧ (¬ x3 < 0 → (vp_in x3 13 ∧ (vp_in x2 (frLen ((12 + 5 * (Int32.toNatClampNeg x3)) + 1)) ∧ (vp_in x2 (frLen ((12 + 5 * (Int32.toNatClampNeg x3)) + 1)) ∧ (wp_F_compare (fun r37 σ37 => (r37 = 0 → (∀ v58 : Int32, v58 = (x3 + (-1)) → ((wp_C_isAhead_5 Q j5) x1 x2 v58 σ37))) ∧ (¬ r37 = 0 → ((r37 ≤ 0 → (wp_C_isAhead_57 Q (0 : Int32) σ37)) ∧ (¬ r37 ≤ 0 → (wp_C_isAhead_57 Q (1 : Int32) σ37))))) ((12 + 5 * (Int32.toNatClampNeg x3)) + 1) x1 (σ.2 (((12 + 5 * (Int32.toNatClampNeg x3)) + 1) + 1) (Int32.toNatClampNeg x2)) (σ.2 (((12 + 5 * (Int32.toNatClampNeg x3)) + 1) + 2) (Int32.toNatClampNeg x2)) σ))))) := h
    refine lv_iload_n hx hb d_C_isAhead_5 rfl (lv_at hl 3 rfl) ?_
    refine lv_if_lt hx hb d_C_isAhead_6 rfl (fun hc6 => ?_) (fun hc6 => ?_)
    · have h := h.1 hc6
      refine lv_aload_n hx hb d_C_isAhead_64 rfl (lv_at hl 0 rfl) ?_
      refine r_get C ku_C hP (by decide) rfl rfl 0 (by decide) kw_132 rfl d_C_isAhead_65 ?_
      refine r_get C ku_R hP (by decide) rfl rfl 0 (by decide) kw_31 rfl d_C_isAhead_68 ?_
      refine lv_iload_n hx hb d_C_isAhead_71 rfl (lv_at hl 1 rfl) ?_
      obtain ⟨hi72, h⟩ := h
      refine r_iald C hP (by decide) rfl rfl hi72 d_C_isAhead_72 ?_
      refine lv_aload_n hx hb d_C_isAhead_73 rfl (lv_at hl 0 rfl) ?_
      refine r_get C ku_C hP (by decide) rfl rfl 0 (by decide) kw_132 rfl d_C_isAhead_74 ?_
      refine r_get C ku_R hP (by decide) rfl rfl 0 (by decide) kw_31 rfl d_C_isAhead_77 ?_
      refine lv_iload_n hx hb d_C_isAhead_80 rfl (lv_at hl 2 rfl) ?_
      obtain ⟨hi81, h⟩ := h
      refine r_iald C hP (by decide) rfl rfl hi81 d_C_isAhead_81 ?_
      refine lv_icmp_ge hx hb d_C_isAhead_82 rfl (fun hc82 => ?_) (fun hc82 => ?_)
      · have h := h.1 hc82
        refine lv_iconst (v := 0) hx hb d_C_isAhead_89 (by decide) ?_
        exact b_C_isAhead_90 C h (lv_sub hl [] rfl) hP hD hS
      · have h := h.2 hc82
        refine lv_iconst (v := 1) hx hb d_C_isAhead_85 (by decide) ?_
        refine lv_goto hx hb d_C_isAhead_86 rfl ?_
        exact b_C_isAhead_90 C h (lv_sub hl [] rfl) hP hD hS
    · have h := h.2 hc6
      refine lv_aload_n hx hb d_C_isAhead_9 rfl (lv_at hl 0 rfl) ?_
      refine r_get C ku_C hP (by decide) rfl rfl 2 (by decide) kw_134 rfl d_C_isAhead_10 ?_
      refine lv_iload_n hx hb d_C_isAhead_13 rfl (lv_at hl 3 rfl) ?_
      obtain ⟨hi14, h⟩ := h
      refine r_aald C hP (by decide) rfl rfl hi14 d_C_isAhead_14 ?_
      refine r_get C ku_S hP (st_lt (st_in hi14)) (st_cell (st_in hi14) _ _) rfl 0 (by decide) kw_112 rfl d_C_isAhead_15 ?_
      refine lv_astore (lv' := [(4, .ref (ad ((12 + 5 * (Int32.toNatClampNeg x3)) + 1))), (0, .ref (ad 0)), (1, .int x1), (2, .int x2), (3, .int x3)]) hx hb d_C_isAhead_18 hl (by decide) rfl (fun ls hl => ?_)
      refine lv_aload hx hb d_C_isAhead_20 (lv_at hl 0 rfl) ?_
      refine lv_iload_n hx hb d_C_isAhead_22 rfl (lv_at hl 2 rfl) ?_
      refine lv_aload hx hb d_C_isAhead_23 (lv_at hl 0 rfl) ?_
      refine r_get C ku_F hP (fr_lt (st_fr (st_in hi14))) (fr_cell (st_fr (st_in hi14)) _ _) rfl 0 (by decide) kw_68 rfl d_C_isAhead_25 ?_
      refine lv_iload_n hx hb d_C_isAhead_28 rfl (lv_at hl 3 rfl) ?_
      obtain ⟨hi29, h⟩ := h
      refine r_lald C hP (fr_lt1 (st_fr (st_in hi14))) (fr_cell1 (st_fr (st_in hi14)) _ _) rfl hi29 d_C_isAhead_29 ?_
      refine lv_aload hx hb d_C_isAhead_30 (lv_at hl 0 rfl) ?_
      refine r_get C ku_F hP (fr_lt (st_fr (st_in hi14))) (fr_cell (st_fr (st_in hi14)) _ _) rfl 1 (by decide) kw_70 rfl d_C_isAhead_32 ?_
      refine lv_iload_n hx hb d_C_isAhead_35 rfl (lv_at hl 3 rfl) ?_
      obtain ⟨hi36, h⟩ := h
      refine r_lald C hP (fr_lt2 (st_fr (st_in hi14))) (fr_cell2 (st_fr (st_in hi14)) _ _) rfl hi36 d_C_isAhead_36 ?_
      refine r_calli C hD hS (va_runV (As := [.int x1, .long (σ.2 (((12 + 5 * (Int32.toNatClampNeg x3)) + 1) + 1) (Int32.toNatClampNeg x2)), .long (σ.2 (((12 + 5 * (Int32.toNatClampNeg x3)) + 1) + 2) (Int32.toNatClampNeg x2))]) (rest := []) ⟨hx, hb, hml, hown, hts⟩ (m_F_compare (st_fr (st_in hi14)) h) (cwV 3 hts (g_V kw_394 kw_395 kw_396 kw_4 kw_397) rfl rfl rfl (by decide +kernel) ⟨Nat.le_of_ble_eq_true rfl, Nat.le_of_ble_eq_true rfl⟩) (r_preV (o := ((12 + 5 * (Int32.toNatClampNeg x3)) + 1)) C hP hD hS (fr_lt (st_fr (st_in hi14))) (fr_cell (st_fr (st_in hi14)) _ _) rfl) rfl rfl hl.1 rfl (lv_room (Nat.le_of_ble_eq_true rfl)) d_C_isAhead_37 ⟨Nat.le_of_ble_eq_true rfl, Nat.le_of_ble_eq_true rfl⟩) (fun r37 σ37 H locs h hP hD hS => ?_)
      refine lv_istore (lv' := [(5, .int r37), (4, .ref (ad ((12 + 5 * (Int32.toNatClampNeg x3)) + 1))), (0, .ref (ad 0)), (1, .int x1), (2, .int x2), (3, .int x3)]) hx hb d_C_isAhead_40 hl (by decide) rfl (fun ls hl => ?_)
      refine lv_iload hx hb d_C_isAhead_42 (lv_at hl 0 rfl) ?_
      refine lv_if_eq hx hb d_C_isAhead_44 rfl (fun hc44 => ?_) (fun hc44 => ?_)
      · have h := h.1 hc44
        obtain ⟨v58, e58⟩ : ∃ z : Int32, z = (x3 + (-1)) := ⟨_, rfl⟩
        have h := h v58 e58
        refine lv_iinc (k := 5) (v := v58) (lv' := [(3, .int v58), (5, .int r37), (4, .ref (ad ((12 + 5 * (Int32.toNatClampNeg x3)) + 1))), (0, .ref (ad 0)), (1, .int x1), (2, .int x2)]) hx hb d_C_isAhead_58 hl rfl (by rw [e58] <;> rfl) (by decide) rfl (fun ls hl => ?_)
        refine lv_goto hx hb d_C_isAhead_61 rfl ?_
        exact hK5 h (lv_sub hl [3, 4, 5, 0] rfl) hP hD hS
      · have h := h.2 hc44
        refine lv_iload hx hb d_C_isAhead_47 (lv_at hl 0 rfl) ?_
        refine lv_if_le hx hb d_C_isAhead_49 rfl (fun hc49 => ?_) (fun hc49 => ?_)
        · have h := h.1 hc49
          refine lv_iconst (v := 0) hx hb d_C_isAhead_56 (by decide) ?_
          exact b_C_isAhead_57 C h (lv_sub hl [] rfl) hP hD hS
        · have h := h.2 hc49
          refine lv_iconst (v := 1) hx hb d_C_isAhead_52 (by decide) ?_
          refine lv_goto hx hb d_C_isAhead_53 rfl ?_
          exact b_C_isAhead_57 C h (lv_sub hl [] rfl) hP hD hS
set_option maxHeartbeats 4000000 in
set_option maxRecDepth 100000 in
theorem m_C_isAhead {l : Launch} {D : va_G} {cI cL cZ cS : ClassId} {ad : Nat → Nat} {wr : va_W} {sz : Nat} {Q : Int32 → Mem → Prop} {x1 : Int32} {x2 : Int32} {σ : Mem} (h : wp_C_isAhead Q x1 x2 σ) : Met l y_C_isAhead (Cond.code y_C_isAhead c_C_isAhead 6 (some .boolean) :: TB) rm_C_isAhead (wPc D cls (tyl cI cL cZ cS) 77 (fX cI cL cS ad) ad wr sz σ [.ref (ad 0), .int x1, .int x2]) (va_Qi Q (wB D cls (tyl cI cL cZ cS) 77 (fX cI cL cS ad) ad wr (wA 77 (fX cI cL cS ad) ad wr sz σ)) (wA 77 (fX cI cL cS ad) ad wr sz σ)) 0 0 (wA 77 (fX cI cL cS ad) ad wr sz σ) := by
  refine Met.ofW (cc := c_C_isAhead) (maxL := 6) (ret := (some .boolean)) (by decide) rfl ?_
  intro p e s m args below meth c s₁ B hml hv
  obtain ⟨rfl, hsz, hP, hK, hD0, hN⟩ := hv
  subst hsz
  have hD : va_D (wA 77 (fX cI cL cS ad) ad wr s.heap.size σ) (wW 77 (fX cI cL cS ad) ad σ ++ wr) := hD0.self (sz := s.heap.size)
  have hA : ∀ q : Nat, s.heap.size ≤ q → (wA 77 (fX cI cL cS ad) ad wr s.heap.size σ) q := fun q h => Or.inr h
  have hN : NX (wA 77 (fX cI cL cS ad) ad wr s.heap.size σ) s s.heap := hN
  generalize (wA 77 (fX cI cL cS ad) ad wr s.heap.size σ) = A at hD hA hN ⊢
  have C : wC TB "PreferenceCount" c_C_isAhead 6 (some .boolean) D cls (tyl cI cL cZ cS) A p s m ([.ref (ad 0), .int x1, .int x2].toArray) meth c := ⟨B.exec, B.bytes, B.returns, B.notSynchronized, fun w hw => atoms_spec (ws := Cond.code y_C_isAhead c_C_isAhead 6 (some .boolean) :: TB) B.pre w (List.mem_cons_of_mem _ hw), findClass_of_methodNamed B.named, hml, hK, hN, hA⟩
  have hx := C.1
  have hb := C.2.1
  have hts := C.2.2.2.2.1
  have hown := C.2.2.2.2.2.1
  have hS : va_S A s.heap s.heap [] := va_S.rf
  have hl := lv_entry ([.ref (ad 0), .int x1, .int x2]) (n := 6) (Nat.le_of_ble_eq_true rfl)
  rw [lg_entry_eq]
  generalize (lg_sl ([.ref (ad 0), .int x1, .int x2]) ++ List.replicate (6 - (lg_sl ([.ref (ad 0), .int x1, .int x2])).length) Slot.unset).toArray = ls at hl ⊢
  have hl : lv_has ls 6 [(0, .ref (ad 0)), (1, .int x1), (2, .int x2)] := hl
  have h : ∀ v4 : Int32, v4 = (σ.1 0 4) → (∃ k5 : Nat, wp_C_isAhead_5 Q k5 x1 x2 v4 σ) := h
  refine lv_aload_n hx hb d_C_isAhead_0 rfl (lv_at hl 0 rfl) ?_
  refine r_get C ku_C hP (by decide) rfl rfl 4 (by decide) kw_136 rfl d_C_isAhead_1 ?_
  refine lv_topi (fun v4 e4 => ?_)
  have h := h v4 e4
  refine lv_istore_n (lv' := [(3, .int v4), (0, .ref (ad 0)), (1, .int x1), (2, .int x2)]) hx hb d_C_isAhead_4 rfl hl (by decide) rfl (fun ls hl => ?_)
  obtain ⟨n, h⟩ := h
  exact b_C_isAhead_5 C n h (lv_sub hl [1, 2, 3, 0] rfl) hP hD hS
def rm_C_foremost : Room := { frames := 3, cells := 0, slots := 0, locals := 82 }
set_option maxHeartbeats 4000000 in
set_option maxRecDepth 100000 in
theorem b_C_foremost_61 {p : Program} {l : Launch} {e : Env} {s : State} {m : MethodId} {args : Array Value} {below : List Frame} {meth : Method} {c : Code} {D : va_G} {cI cL cZ cS : ClassId} {ad : Nat → Nat} {wr : va_W} {A : Nat → Prop} {Q : Int32 → Mem → Prop} {K4 : Int32 → Int32 → Int32 → Mem → Prop} {x1 : Int32} {x2 : Int32} {x3 : Int32} {σ : Mem} {H : Heap} {locs : List Loc} {ls : Array Slot} (C : wC TB "PreferenceCount" c_C_foremost 5 (some .int) D cls (tyl cI cL cZ cS) A p s m args meth c) (hK4 : ∀ {σ : Mem} {H : Heap} {locs : List Loc} {ls : Array Slot} {x1 : Int32} {x2 : Int32} {x3 : Int32}, K4 x1 x2 x3 σ → lv_has ls 5 [(0, .ref (ad 0)), (1, .int x1), (2, .int x2), (3, .int x3)] → va_P D cls (wW 77 (fX cI cL cS ad) ad σ ++ wr) H → va_D A (wW 77 (fX cI cL cS ad) ad σ ++ wr) → va_S A s.heap H locs → W p l e (headSpec (Cond.code y_C_foremost c_C_foremost 5 (some .int) :: TB) rm_C_foremost).room s m args below meth c H locs 0 0 (MQ below (va_Qi Q (wB D cls (tyl cI cL cZ cS) 77 (fX cI cL cS ad) ad wr A) A) args s 0 0 A) (F0 m 4 ls [])) (h : wp_C_foremost_61 Q K4 x1 x2 x3 σ) (hl : lv_has ls 5 [(0, .ref (ad 0)), (1, .int x1), (2, .int x2), (3, .int x3)]) (hP : va_P D cls (wW 77 (fX cI cL cS ad) ad σ ++ wr) H) (hD : va_D A (wW 77 (fX cI cL cS ad) ad σ ++ wr)) (hS : va_S A s.heap H locs) : W p l e (headSpec (Cond.code y_C_foremost c_C_foremost 5 (some .int) :: TB) rm_C_foremost).room s m args below meth c H locs 0 0 (MQ below (va_Qi Q (wB D cls (tyl cI cL cZ cS) 77 (fX cI cL cS ad) ad wr A) A) args s 0 0 A) (F0 m 61 ls []) := by
  have hx := C.1
  have hb := C.2.1
  have hts := C.2.2.2.2.1
  have hown := C.2.2.2.2.2.1
  have hml := C.2.2.2.2.2.2.1
  have h : ∀ v61 : Int32, v61 = (x3 + 1) → (K4 x1 x2 v61 σ) := h
  obtain ⟨v61, e61⟩ : ∃ z : Int32, z = (x3 + 1) := ⟨_, rfl⟩
  have h := h v61 e61
  refine lv_iinc (k := 3) (v := v61) (lv' := [(3, .int v61), (0, .ref (ad 0)), (1, .int x1), (2, .int x2)]) hx hb d_C_foremost_61 hl rfl (by rw [e61] <;> rfl) (by decide) rfl (fun ls hl => ?_)
  refine lv_goto hx hb d_C_foremost_64 rfl ?_
  exact hK4 h (lv_sub hl [1, 2, 3, 0] rfl) hP hD hS
set_option maxHeartbeats 4000000 in
set_option maxRecDepth 100000 in
theorem b_C_foremost_59 {p : Program} {l : Launch} {e : Env} {s : State} {m : MethodId} {args : Array Value} {below : List Frame} {meth : Method} {c : Code} {D : va_G} {cI cL cZ cS : ClassId} {ad : Nat → Nat} {wr : va_W} {A : Nat → Prop} {Q : Int32 → Mem → Prop} {K4 : Int32 → Int32 → Int32 → Mem → Prop} {x1 : Int32} {x3 : Int32} {σ : Mem} {H : Heap} {locs : List Loc} {ls : Array Slot} (C : wC TB "PreferenceCount" c_C_foremost 5 (some .int) D cls (tyl cI cL cZ cS) A p s m args meth c) (hK4 : ∀ {σ : Mem} {H : Heap} {locs : List Loc} {ls : Array Slot} {x1 : Int32} {x2 : Int32} {x3 : Int32}, K4 x1 x2 x3 σ → lv_has ls 5 [(0, .ref (ad 0)), (1, .int x1), (2, .int x2), (3, .int x3)] → va_P D cls (wW 77 (fX cI cL cS ad) ad σ ++ wr) H → va_D A (wW 77 (fX cI cL cS ad) ad σ ++ wr) → va_S A s.heap H locs → W p l e (headSpec (Cond.code y_C_foremost c_C_foremost 5 (some .int) :: TB) rm_C_foremost).room s m args below meth c H locs 0 0 (MQ below (va_Qi Q (wB D cls (tyl cI cL cZ cS) 77 (fX cI cL cS ad) ad wr A) A) args s 0 0 A) (F0 m 4 ls [])) (h : wp_C_foremost_59 Q K4 x1 x3 σ) (hl : lv_has ls 5 [(0, .ref (ad 0)), (1, .int x1), (3, .int x3)]) (hP : va_P D cls (wW 77 (fX cI cL cS ad) ad σ ++ wr) H) (hD : va_D A (wW 77 (fX cI cL cS ad) ad σ ++ wr)) (hS : va_S A s.heap H locs) : W p l e (headSpec (Cond.code y_C_foremost c_C_foremost 5 (some .int) :: TB) rm_C_foremost).room s m args below meth c H locs 0 0 (MQ below (va_Qi Q (wB D cls (tyl cI cL cZ cS) 77 (fX cI cL cS ad) ad wr A) A) args s 0 0 A) (F0 m 59 ls []) := by
  have hx := C.1
  have hb := C.2.1
  have hts := C.2.2.2.2.1
  have hown := C.2.2.2.2.2.1
  have hml := C.2.2.2.2.2.2.1
  have h : wp_C_foremost_61 Q K4 x1 x3 x3 σ := h
  refine lv_iload_n hx hb d_C_foremost_59 rfl (lv_at hl 2 rfl) ?_
  refine lv_istore_n (lv' := [(2, .int x3), (0, .ref (ad 0)), (1, .int x1), (3, .int x3)]) hx hb d_C_foremost_60 rfl hl (by decide) rfl (fun ls hl => ?_)
  exact b_C_foremost_61 C hK4 h (lv_sub hl [1, 2, 0, 3] rfl) hP hD hS
set_option maxHeartbeats 4000000 in
set_option maxRecDepth 100000 in
theorem b_C_foremost_38 {p : Program} {l : Launch} {e : Env} {s : State} {m : MethodId} {args : Array Value} {below : List Frame} {meth : Method} {c : Code} {D : va_G} {cI cL cZ cS : ClassId} {ad : Nat → Nat} {wr : va_W} {A : Nat → Prop} {Q : Int32 → Mem → Prop} {K4 : Int32 → Int32 → Int32 → Mem → Prop} {x1 : Int32} {x2 : Int32} {x3 : Int32} {t0 : Int32} {σ : Mem} {H : Heap} {locs : List Loc} {ls : Array Slot} (C : wC TB "PreferenceCount" c_C_foremost 5 (some .int) D cls (tyl cI cL cZ cS) A p s m args meth c) (hK4 : ∀ {σ : Mem} {H : Heap} {locs : List Loc} {ls : Array Slot} {x1 : Int32} {x2 : Int32} {x3 : Int32}, K4 x1 x2 x3 σ → lv_has ls 5 [(0, .ref (ad 0)), (1, .int x1), (2, .int x2), (3, .int x3)] → va_P D cls (wW 77 (fX cI cL cS ad) ad σ ++ wr) H → va_D A (wW 77 (fX cI cL cS ad) ad σ ++ wr) → va_S A s.heap H locs → W p l e (headSpec (Cond.code y_C_foremost c_C_foremost 5 (some .int) :: TB) rm_C_foremost).room s m args below meth c H locs 0 0 (MQ below (va_Qi Q (wB D cls (tyl cI cL cZ cS) 77 (fX cI cL cS ad) ad wr A) A) args s 0 0 A) (F0 m 4 ls [])) (h : wp_C_foremost_38 Q K4 x1 x2 x3 t0 σ) (hl : lv_has ls 5 [(0, .ref (ad 0)), (1, .int x1), (2, .int x2), (3, .int x3)]) (hP : va_P D cls (wW 77 (fX cI cL cS ad) ad σ ++ wr) H) (hD : va_D A (wW 77 (fX cI cL cS ad) ad σ ++ wr)) (hS : va_S A s.heap H locs) : W p l e (headSpec (Cond.code y_C_foremost c_C_foremost 5 (some .int) :: TB) rm_C_foremost).room s m args below meth c H locs 0 0 (MQ below (va_Qi Q (wB D cls (tyl cI cL cZ cS) 77 (fX cI cL cS ad) ad wr A) A) args s 0 0 A) (F0 m 38 ls [.int t0]) := by
  have hx := C.1
  have hb := C.2.1
  have hts := C.2.2.2.2.1
  have hown := C.2.2.2.2.2.1
  have hml := C.2.2.2.2.2.2.1
  have h : (t0 = 0 → (wp_C_foremost_61 Q K4 x1 x2 x3 σ)) ∧ (¬ t0 = 0 → ((x2 = (-1 : Int32) → (wp_C_foremost_59 Q K4 x1 x3 σ)) ∧ (¬ x2 = (-1 : Int32) → (wp_C_isAhead (fun r53 σ53 => (r53 = 0 → (wp_C_foremost_61 Q K4 x1 x2 x3 σ53)) ∧ (¬ r53 = 0 → (wp_C_foremost_59 Q K4 x1 x3 σ53))) x3 x2 σ)))) := h
  refine lv_istore (lv' := [(4, .int t0), (0, .ref (ad 0)), (1, .int x1), (2, .int x2), (3, .int x3)]) hx hb d_C_foremost_38 hl (by decide) rfl (fun ls hl => ?_)
  refine lv_iload hx hb d_C_foremost_40 (lv_at hl 0 rfl) ?_
  refine lv_if_eq hx hb d_C_foremost_42 rfl (fun hc42 => ?_) (fun hc42 => ?_)
  · have h := h.1 hc42
    exact b_C_foremost_61 C hK4 h (lv_sub hl [1, 2, 3, 4] rfl) hP hD hS
  · have h := h.2 hc42
    refine lv_iload_n hx hb d_C_foremost_45 rfl (lv_at hl 3 rfl) ?_
    refine lv_iconst (v := (-1)) hx hb d_C_foremost_46 (by decide) ?_
    refine lv_icmp_eq hx hb d_C_foremost_47 rfl (fun hc47 => ?_) (fun hc47 => ?_)
    · have h := h.1 hc47
      exact b_C_foremost_59 C hK4 h (lv_sub hl [1, 2, 4] rfl) hP hD hS
    · have h := h.2 hc47
      refine lv_aload_n hx hb d_C_foremost_50 rfl (lv_at hl 1 rfl) ?_
      refine lv_iload_n hx hb d_C_foremost_51 rfl (lv_at hl 4 rfl) ?_
      refine lv_iload_n hx hb d_C_foremost_52 rfl (lv_at hl 3 rfl) ?_
      refine r_calli C hD hS (va_runV (As := [.int x3, .int x2]) (rest := []) ⟨hx, hb, hml, hown, hts⟩ (m_C_isAhead h) (cwV 2 hts (g_V kw_390 kw_392 kp_12 kw_1 kw_393) rfl rfl rfl (by decide +kernel) ⟨Nat.le_of_ble_eq_true rfl, Nat.le_of_ble_eq_true rfl⟩) (r_preV (o := 0) C hP hD hS (by decide) rfl rfl) rfl rfl hl.1 rfl (lv_room (Nat.le_of_ble_eq_true rfl)) d_C_foremost_53 ⟨Nat.le_of_ble_eq_true rfl, Nat.le_of_ble_eq_true rfl⟩) (fun r53 σ53 H locs h hP hD hS => ?_)
      refine lv_if_eq hx hb d_C_foremost_56 rfl (fun hc56 => ?_) (fun hc56 => ?_)
      · have h := h.1 hc56
        exact b_C_foremost_61 C hK4 h (lv_sub hl [1, 2, 3, 4] rfl) hP hD hS
      · have h := h.2 hc56
        exact b_C_foremost_59 C hK4 h (lv_sub hl [1, 2, 4] rfl) hP hD hS
set_option maxHeartbeats 4000000 in
set_option maxRecDepth 100000 in
theorem b_C_foremost_4 {p : Program} {l : Launch} {e : Env} {s : State} {m : MethodId} {args : Array Value} {below : List Frame} {meth : Method} {c : Code} {D : va_G} {cI cL cZ cS : ClassId} {ad : Nat → Nat} {wr : va_W} {A : Nat → Prop} {Q : Int32 → Mem → Prop} (C : wC TB "PreferenceCount" c_C_foremost 5 (some .int) D cls (tyl cI cL cZ cS) A p s m args meth c) : ∀ (n : Nat) {σ : Mem} {H : Heap} {locs : List Loc} {ls : Array Slot} {x1 : Int32} {x2 : Int32} {x3 : Int32}, wp_C_foremost_4 Q n x1 x2 x3 σ → lv_has ls 5 [(0, .ref (ad 0)), (1, .int x1), (2, .int x2), (3, .int x3)] → va_P D cls (wW 77 (fX cI cL cS ad) ad σ ++ wr) H → va_D A (wW 77 (fX cI cL cS ad) ad σ ++ wr) → va_S A s.heap H locs → W p l e (headSpec (Cond.code y_C_foremost c_C_foremost 5 (some .int) :: TB) rm_C_foremost).room s m args below meth c H locs 0 0 (MQ below (va_Qi Q (wB D cls (tyl cI cL cZ cS) 77 (fX cI cL cS ad) ad wr A) A) args s 0 0 A) (F0 m 4 ls []) := by
  have hx := C.1
  have hb := C.2.1
  have hts := C.2.2.2.2.1
  have hown := C.2.2.2.2.2.1
  have hml := C.2.2.2.2.2.2.1
  intro n
  induction n with
  | zero => intro σ H locs ls x1 x2 x3 h; exact h.elim
  | succ j4 ih =>
    intro σ H locs ls x1 x2 x3 h hl hP hD hS
    have hK4 := @ih
    have h : ((σ.1 1 2) ≤ x3 → (Q x2 σ)) ∧ (¬ (σ.1 1 2) ≤ x3 → ((x1 = 0 → (wp_R_isContinuing (fun r35 σ35 => wp_C_foremost_38 Q (wp_C_foremost_4 Q j4) x1 x2 x3 r35 σ35) x3 σ)) ∧ (¬ x1 = 0 → (wp_R_isElected (fun r24 σ24 => wp_C_foremost_38 Q (wp_C_foremost_4 Q j4) x1 x2 x3 r24 σ24) x3 σ)))) := h
    refine lv_iload_n hx hb d_C_foremost_4 rfl (lv_at hl 3 rfl) ?_
    refine lv_aload_n hx hb d_C_foremost_5 rfl (lv_at hl 0 rfl) ?_
    refine r_get C ku_C hP (by decide) rfl rfl 0 (by decide) kw_132 rfl d_C_foremost_6 ?_
    refine r_get C ku_R hP (by decide) rfl rfl 2 (by decide) kw_35 rfl d_C_foremost_9 ?_
    refine lv_icmp_ge hx hb d_C_foremost_12 rfl (fun hc12 => ?_) (fun hc12 => ?_)
    · have h := h.1 hc12
      refine lv_iload_n hx hb d_C_foremost_67 rfl (lv_at hl 2 rfl) ?_
      exact r_iret C hP hD hS d_C_foremost_68 h
    · have h := h.2 hc12
      refine lv_iload_n hx hb d_C_foremost_15 rfl (lv_at hl 1 rfl) ?_
      refine lv_if_eq hx hb d_C_foremost_16 rfl (fun hc16 => ?_) (fun hc16 => ?_)
      · have h := h.1 hc16
        refine lv_aload_n hx hb d_C_foremost_30 rfl (lv_at hl 0 rfl) ?_
        refine r_get C ku_C hP (by decide) rfl rfl 0 (by decide) kw_132 rfl d_C_foremost_31 ?_
        refine lv_iload_n hx hb d_C_foremost_34 rfl (lv_at hl 3 rfl) ?_
        refine r_calli C hD hS (va_runV (As := [.int x3]) (rest := []) ⟨hx, hb, hml, hown, hts⟩ (m_R_isContinuing h) (cwV 1 hts (g_V kw_293 kw_294 kw_295 kw_2 kw_296) rfl rfl rfl (by decide +kernel) ⟨Nat.le_of_ble_eq_true rfl, Nat.le_of_ble_eq_true rfl⟩) (r_preV (o := 1) C hP hD hS (by decide) rfl rfl) rfl rfl hl.1 rfl (lv_room (Nat.le_of_ble_eq_true rfl)) d_C_foremost_35 ⟨Nat.le_of_ble_eq_true rfl, Nat.le_of_ble_eq_true rfl⟩) (fun r35 σ35 H locs h hP hD hS => ?_)
        exact b_C_foremost_38 C hK4 h (lv_sub hl [0, 1, 2, 3] rfl) hP hD hS
      · have h := h.2 hc16
        refine lv_aload_n hx hb d_C_foremost_19 rfl (lv_at hl 0 rfl) ?_
        refine r_get C ku_C hP (by decide) rfl rfl 0 (by decide) kw_132 rfl d_C_foremost_20 ?_
        refine lv_iload_n hx hb d_C_foremost_23 rfl (lv_at hl 3 rfl) ?_
        refine r_calli C hD hS (va_runV (As := [.int x3]) (rest := []) ⟨hx, hb, hml, hown, hts⟩ (m_R_isElected h) (cwV 1 hts (g_V kw_386 kw_387 kw_388 kw_2 kw_389) rfl rfl rfl (by decide +kernel) ⟨Nat.le_of_ble_eq_true rfl, Nat.le_of_ble_eq_true rfl⟩) (r_preV (o := 1) C hP hD hS (by decide) rfl rfl) rfl rfl hl.1 rfl (lv_room (Nat.le_of_ble_eq_true rfl)) d_C_foremost_24 ⟨Nat.le_of_ble_eq_true rfl, Nat.le_of_ble_eq_true rfl⟩) (fun r24 σ24 H locs h hP hD hS => ?_)
        refine lv_goto hx hb d_C_foremost_27 rfl ?_
        exact b_C_foremost_38 C hK4 h (lv_sub hl [0, 1, 2, 3] rfl) hP hD hS
set_option maxHeartbeats 4000000 in
set_option maxRecDepth 100000 in
theorem m_C_foremost {l : Launch} {D : va_G} {cI cL cZ cS : ClassId} {ad : Nat → Nat} {wr : va_W} {sz : Nat} {Q : Int32 → Mem → Prop} {x1 : Int32} {σ : Mem} (h : wp_C_foremost Q x1 σ) : Met l y_C_foremost (Cond.code y_C_foremost c_C_foremost 5 (some .int) :: TB) rm_C_foremost (wPc D cls (tyl cI cL cZ cS) 77 (fX cI cL cS ad) ad wr sz σ [.ref (ad 0), .int x1]) (va_Qi Q (wB D cls (tyl cI cL cZ cS) 77 (fX cI cL cS ad) ad wr (wA 77 (fX cI cL cS ad) ad wr sz σ)) (wA 77 (fX cI cL cS ad) ad wr sz σ)) 0 0 (wA 77 (fX cI cL cS ad) ad wr sz σ) := by
  refine Met.ofW (cc := c_C_foremost) (maxL := 5) (ret := (some .int)) (by decide) rfl ?_
  intro p e s m args below meth c s₁ B hml hv
  obtain ⟨rfl, hsz, hP, hK, hD0, hN⟩ := hv
  subst hsz
  have hD : va_D (wA 77 (fX cI cL cS ad) ad wr s.heap.size σ) (wW 77 (fX cI cL cS ad) ad σ ++ wr) := hD0.self (sz := s.heap.size)
  have hA : ∀ q : Nat, s.heap.size ≤ q → (wA 77 (fX cI cL cS ad) ad wr s.heap.size σ) q := fun q h => Or.inr h
  have hN : NX (wA 77 (fX cI cL cS ad) ad wr s.heap.size σ) s s.heap := hN
  generalize (wA 77 (fX cI cL cS ad) ad wr s.heap.size σ) = A at hD hA hN ⊢
  have C : wC TB "PreferenceCount" c_C_foremost 5 (some .int) D cls (tyl cI cL cZ cS) A p s m ([.ref (ad 0), .int x1].toArray) meth c := ⟨B.exec, B.bytes, B.returns, B.notSynchronized, fun w hw => atoms_spec (ws := Cond.code y_C_foremost c_C_foremost 5 (some .int) :: TB) B.pre w (List.mem_cons_of_mem _ hw), findClass_of_methodNamed B.named, hml, hK, hN, hA⟩
  have hx := C.1
  have hb := C.2.1
  have hts := C.2.2.2.2.1
  have hown := C.2.2.2.2.2.1
  have hS : va_S A s.heap s.heap [] := va_S.rf
  have hl := lv_entry ([.ref (ad 0), .int x1]) (n := 5) (Nat.le_of_ble_eq_true rfl)
  rw [lg_entry_eq]
  generalize (lg_sl ([.ref (ad 0), .int x1]) ++ List.replicate (5 - (lg_sl ([.ref (ad 0), .int x1])).length) Slot.unset).toArray = ls at hl ⊢
  have hl : lv_has ls 5 [(0, .ref (ad 0)), (1, .int x1)] := hl
  have h : ∃ k4 : Nat, wp_C_foremost_4 Q k4 x1 (-1 : Int32) (0 : Int32) σ := h
  refine lv_iconst (v := (-1)) hx hb d_C_foremost_0 (by decide) ?_
  refine lv_istore_n (lv' := [(2, .int (-1 : Int32)), (0, .ref (ad 0)), (1, .int x1)]) hx hb d_C_foremost_1 rfl hl (by decide) rfl (fun ls hl => ?_)
  refine lv_iconst (v := 0) hx hb d_C_foremost_2 (by decide) ?_
  refine lv_istore_n (lv' := [(3, .int (0 : Int32)), (2, .int (-1 : Int32)), (0, .ref (ad 0)), (1, .int x1)]) hx hb d_C_foremost_3 rfl hl (by decide) rfl (fun ls hl => ?_)
  obtain ⟨n, h⟩ := h
  exact b_C_foremost_4 C n h (lv_sub hl [2, 3, 1, 0] rfl) hP hD hS
def rm_C_hindmost : Room := { frames := 3, cells := 0, slots := 0, locals := 82 }
set_option maxHeartbeats 4000000 in
set_option maxRecDepth 100000 in
theorem b_C_hindmost_42 {p : Program} {l : Launch} {e : Env} {s : State} {m : MethodId} {args : Array Value} {below : List Frame} {meth : Method} {c : Code} {D : va_G} {cI cL cZ cS : ClassId} {ad : Nat → Nat} {wr : va_W} {A : Nat → Prop} {Q : Int32 → Mem → Prop} {K4 : Int32 → Int32 → Mem → Prop} {x1 : Int32} {x2 : Int32} {σ : Mem} {H : Heap} {locs : List Loc} {ls : Array Slot} (C : wC TB "PreferenceCount" c_C_hindmost 3 (some .int) D cls (tyl cI cL cZ cS) A p s m args meth c) (hK4 : ∀ {σ : Mem} {H : Heap} {locs : List Loc} {ls : Array Slot} {x1 : Int32} {x2 : Int32}, K4 x1 x2 σ → lv_has ls 3 [(0, .ref (ad 0)), (1, .int x1), (2, .int x2)] → va_P D cls (wW 77 (fX cI cL cS ad) ad σ ++ wr) H → va_D A (wW 77 (fX cI cL cS ad) ad σ ++ wr) → va_S A s.heap H locs → W p l e (headSpec (Cond.code y_C_hindmost c_C_hindmost 3 (some .int) :: TB) rm_C_hindmost).room s m args below meth c H locs 0 0 (MQ below (va_Qi Q (wB D cls (tyl cI cL cZ cS) 77 (fX cI cL cS ad) ad wr A) A) args s 0 0 A) (F0 m 4 ls [])) (h : wp_C_hindmost_42 Q K4 x1 x2 σ) (hl : lv_has ls 3 [(0, .ref (ad 0)), (1, .int x1), (2, .int x2)]) (hP : va_P D cls (wW 77 (fX cI cL cS ad) ad σ ++ wr) H) (hD : va_D A (wW 77 (fX cI cL cS ad) ad σ ++ wr)) (hS : va_S A s.heap H locs) : W p l e (headSpec (Cond.code y_C_hindmost c_C_hindmost 3 (some .int) :: TB) rm_C_hindmost).room s m args below meth c H locs 0 0 (MQ below (va_Qi Q (wB D cls (tyl cI cL cZ cS) 77 (fX cI cL cS ad) ad wr A) A) args s 0 0 A) (F0 m 42 ls []) := by
  have hx := C.1
  have hb := C.2.1
  have hts := C.2.2.2.2.1
  have hown := C.2.2.2.2.2.1
  have hml := C.2.2.2.2.2.2.1
  have h : ∀ v42 : Int32, v42 = (x2 + 1) → (K4 x1 v42 σ) := h
  obtain ⟨v42, e42⟩ : ∃ z : Int32, z = (x2 + 1) := ⟨_, rfl⟩
  have h := h v42 e42
  refine lv_iinc (k := 2) (v := v42) (lv' := [(2, .int v42), (0, .ref (ad 0)), (1, .int x1)]) hx hb d_C_hindmost_42 hl rfl (by rw [e42] <;> rfl) (by decide) rfl (fun ls hl => ?_)
  refine lv_goto hx hb d_C_hindmost_45 rfl ?_
  exact hK4 h (lv_sub hl [1, 2, 0] rfl) hP hD hS
set_option maxHeartbeats 4000000 in
set_option maxRecDepth 100000 in
theorem b_C_hindmost_40 {p : Program} {l : Launch} {e : Env} {s : State} {m : MethodId} {args : Array Value} {below : List Frame} {meth : Method} {c : Code} {D : va_G} {cI cL cZ cS : ClassId} {ad : Nat → Nat} {wr : va_W} {A : Nat → Prop} {Q : Int32 → Mem → Prop} {K4 : Int32 → Int32 → Mem → Prop} {x2 : Int32} {σ : Mem} {H : Heap} {locs : List Loc} {ls : Array Slot} (C : wC TB "PreferenceCount" c_C_hindmost 3 (some .int) D cls (tyl cI cL cZ cS) A p s m args meth c) (hK4 : ∀ {σ : Mem} {H : Heap} {locs : List Loc} {ls : Array Slot} {x1 : Int32} {x2 : Int32}, K4 x1 x2 σ → lv_has ls 3 [(0, .ref (ad 0)), (1, .int x1), (2, .int x2)] → va_P D cls (wW 77 (fX cI cL cS ad) ad σ ++ wr) H → va_D A (wW 77 (fX cI cL cS ad) ad σ ++ wr) → va_S A s.heap H locs → W p l e (headSpec (Cond.code y_C_hindmost c_C_hindmost 3 (some .int) :: TB) rm_C_hindmost).room s m args below meth c H locs 0 0 (MQ below (va_Qi Q (wB D cls (tyl cI cL cZ cS) 77 (fX cI cL cS ad) ad wr A) A) args s 0 0 A) (F0 m 4 ls [])) (h : wp_C_hindmost_40 Q K4 x2 σ) (hl : lv_has ls 3 [(0, .ref (ad 0)), (2, .int x2)]) (hP : va_P D cls (wW 77 (fX cI cL cS ad) ad σ ++ wr) H) (hD : va_D A (wW 77 (fX cI cL cS ad) ad σ ++ wr)) (hS : va_S A s.heap H locs) : W p l e (headSpec (Cond.code y_C_hindmost c_C_hindmost 3 (some .int) :: TB) rm_C_hindmost).room s m args below meth c H locs 0 0 (MQ below (va_Qi Q (wB D cls (tyl cI cL cZ cS) 77 (fX cI cL cS ad) ad wr A) A) args s 0 0 A) (F0 m 40 ls []) := by
  have hx := C.1
  have hb := C.2.1
  have hts := C.2.2.2.2.1
  have hown := C.2.2.2.2.2.1
  have hml := C.2.2.2.2.2.2.1
  have h : wp_C_hindmost_42 Q K4 x2 x2 σ := h
  refine lv_iload_n hx hb d_C_hindmost_40 rfl (lv_at hl 1 rfl) ?_
  refine lv_istore_n (lv' := [(1, .int x2), (0, .ref (ad 0)), (2, .int x2)]) hx hb d_C_hindmost_41 rfl hl (by decide) rfl (fun ls hl => ?_)
  exact b_C_hindmost_42 C hK4 h (lv_sub hl [1, 0, 2] rfl) hP hD hS
set_option maxHeartbeats 4000000 in
set_option maxRecDepth 100000 in
theorem b_C_hindmost_4 {p : Program} {l : Launch} {e : Env} {s : State} {m : MethodId} {args : Array Value} {below : List Frame} {meth : Method} {c : Code} {D : va_G} {cI cL cZ cS : ClassId} {ad : Nat → Nat} {wr : va_W} {A : Nat → Prop} {Q : Int32 → Mem → Prop} (C : wC TB "PreferenceCount" c_C_hindmost 3 (some .int) D cls (tyl cI cL cZ cS) A p s m args meth c) : ∀ (n : Nat) {σ : Mem} {H : Heap} {locs : List Loc} {ls : Array Slot} {x1 : Int32} {x2 : Int32}, wp_C_hindmost_4 Q n x1 x2 σ → lv_has ls 3 [(0, .ref (ad 0)), (1, .int x1), (2, .int x2)] → va_P D cls (wW 77 (fX cI cL cS ad) ad σ ++ wr) H → va_D A (wW 77 (fX cI cL cS ad) ad σ ++ wr) → va_S A s.heap H locs → W p l e (headSpec (Cond.code y_C_hindmost c_C_hindmost 3 (some .int) :: TB) rm_C_hindmost).room s m args below meth c H locs 0 0 (MQ below (va_Qi Q (wB D cls (tyl cI cL cZ cS) 77 (fX cI cL cS ad) ad wr A) A) args s 0 0 A) (F0 m 4 ls []) := by
  have hx := C.1
  have hb := C.2.1
  have hts := C.2.2.2.2.1
  have hown := C.2.2.2.2.2.1
  have hml := C.2.2.2.2.2.2.1
  intro n
  induction n with
  | zero => intro σ H locs ls x1 x2 h; exact h.elim
  | succ j4 ih =>
    intro σ H locs ls x1 x2 h hl hP hD hS
    have hK4 := @ih
    have h : ((σ.1 1 2) ≤ x2 → (Q x1 σ)) ∧ (¬ (σ.1 1 2) ≤ x2 → (wp_R_isContinuing (fun r20 σ20 => (r20 = 0 → (wp_C_hindmost_42 Q (wp_C_hindmost_4 Q j4) x1 x2 σ20)) ∧ (¬ r20 = 0 → ((x1 = (-1 : Int32) → (wp_C_hindmost_40 Q (wp_C_hindmost_4 Q j4) x2 σ20)) ∧ (¬ x1 = (-1 : Int32) → (wp_C_isAhead (fun r34 σ34 => (r34 = 0 → (wp_C_hindmost_42 Q (wp_C_hindmost_4 Q j4) x1 x2 σ34)) ∧ (¬ r34 = 0 → (wp_C_hindmost_40 Q (wp_C_hindmost_4 Q j4) x2 σ34))) x1 x2 σ20))))) x2 σ)) := h
    refine lv_iload_n hx hb d_C_hindmost_4 rfl (lv_at hl 2 rfl) ?_
    refine lv_aload_n hx hb d_C_hindmost_5 rfl (lv_at hl 0 rfl) ?_
    refine r_get C ku_C hP (by decide) rfl rfl 0 (by decide) kw_132 rfl d_C_hindmost_6 ?_
    refine r_get C ku_R hP (by decide) rfl rfl 2 (by decide) kw_35 rfl d_C_hindmost_9 ?_
    refine lv_icmp_ge hx hb d_C_hindmost_12 rfl (fun hc12 => ?_) (fun hc12 => ?_)
    · have h := h.1 hc12
      refine lv_iload_n hx hb d_C_hindmost_48 rfl (lv_at hl 1 rfl) ?_
      exact r_iret C hP hD hS d_C_hindmost_49 h
    · have h := h.2 hc12
      refine lv_aload_n hx hb d_C_hindmost_15 rfl (lv_at hl 0 rfl) ?_
      refine r_get C ku_C hP (by decide) rfl rfl 0 (by decide) kw_132 rfl d_C_hindmost_16 ?_
      refine lv_iload_n hx hb d_C_hindmost_19 rfl (lv_at hl 2 rfl) ?_
      refine r_calli C hD hS (va_runV (As := [.int x2]) (rest := []) ⟨hx, hb, hml, hown, hts⟩ (m_R_isContinuing h) (cwV 1 hts (g_V kw_293 kw_294 kw_295 kw_2 kw_296) rfl rfl rfl (by decide +kernel) ⟨Nat.le_of_ble_eq_true rfl, Nat.le_of_ble_eq_true rfl⟩) (r_preV (o := 1) C hP hD hS (by decide) rfl rfl) rfl rfl hl.1 rfl (lv_room (Nat.le_of_ble_eq_true rfl)) d_C_hindmost_20 ⟨Nat.le_of_ble_eq_true rfl, Nat.le_of_ble_eq_true rfl⟩) (fun r20 σ20 H locs h hP hD hS => ?_)
      refine lv_if_eq hx hb d_C_hindmost_23 rfl (fun hc23 => ?_) (fun hc23 => ?_)
      · have h := h.1 hc23
        exact b_C_hindmost_42 C hK4 h (lv_sub hl [0, 1, 2] rfl) hP hD hS
      · have h := h.2 hc23
        refine lv_iload_n hx hb d_C_hindmost_26 rfl (lv_at hl 1 rfl) ?_
        refine lv_iconst (v := (-1)) hx hb d_C_hindmost_27 (by decide) ?_
        refine lv_icmp_eq hx hb d_C_hindmost_28 rfl (fun hc28 => ?_) (fun hc28 => ?_)
        · have h := h.1 hc28
          exact b_C_hindmost_40 C hK4 h (lv_sub hl [0, 2] rfl) hP hD hS
        · have h := h.2 hc28
          refine lv_aload_n hx hb d_C_hindmost_31 rfl (lv_at hl 0 rfl) ?_
          refine lv_iload_n hx hb d_C_hindmost_32 rfl (lv_at hl 1 rfl) ?_
          refine lv_iload_n hx hb d_C_hindmost_33 rfl (lv_at hl 2 rfl) ?_
          refine r_calli C hD hS (va_runV (As := [.int x1, .int x2]) (rest := []) ⟨hx, hb, hml, hown, hts⟩ (m_C_isAhead h) (cwV 2 hts (g_V kw_390 kw_392 kp_12 kw_1 kw_393) rfl rfl rfl (by decide +kernel) ⟨Nat.le_of_ble_eq_true rfl, Nat.le_of_ble_eq_true rfl⟩) (r_preV (o := 0) C hP hD hS (by decide) rfl rfl) rfl rfl hl.1 rfl (lv_room (Nat.le_of_ble_eq_true rfl)) d_C_hindmost_34 ⟨Nat.le_of_ble_eq_true rfl, Nat.le_of_ble_eq_true rfl⟩) (fun r34 σ34 H locs h hP hD hS => ?_)
          refine lv_if_eq hx hb d_C_hindmost_37 rfl (fun hc37 => ?_) (fun hc37 => ?_)
          · have h := h.1 hc37
            exact b_C_hindmost_42 C hK4 h (lv_sub hl [0, 1, 2] rfl) hP hD hS
          · have h := h.2 hc37
            exact b_C_hindmost_40 C hK4 h (lv_sub hl [0, 2] rfl) hP hD hS
set_option maxHeartbeats 4000000 in
set_option maxRecDepth 100000 in
theorem m_C_hindmost {l : Launch} {D : va_G} {cI cL cZ cS : ClassId} {ad : Nat → Nat} {wr : va_W} {sz : Nat} {Q : Int32 → Mem → Prop} {σ : Mem} (h : wp_C_hindmost Q σ) : Met l y_C_hindmost (Cond.code y_C_hindmost c_C_hindmost 3 (some .int) :: TB) rm_C_hindmost (wPc D cls (tyl cI cL cZ cS) 77 (fX cI cL cS ad) ad wr sz σ [.ref (ad 0)]) (va_Qi Q (wB D cls (tyl cI cL cZ cS) 77 (fX cI cL cS ad) ad wr (wA 77 (fX cI cL cS ad) ad wr sz σ)) (wA 77 (fX cI cL cS ad) ad wr sz σ)) 0 0 (wA 77 (fX cI cL cS ad) ad wr sz σ) := by
  refine Met.ofW (cc := c_C_hindmost) (maxL := 3) (ret := (some .int)) (by decide) rfl ?_
  intro p e s m args below meth c s₁ B hml hv
  obtain ⟨rfl, hsz, hP, hK, hD0, hN⟩ := hv
  subst hsz
  have hD : va_D (wA 77 (fX cI cL cS ad) ad wr s.heap.size σ) (wW 77 (fX cI cL cS ad) ad σ ++ wr) := hD0.self (sz := s.heap.size)
  have hA : ∀ q : Nat, s.heap.size ≤ q → (wA 77 (fX cI cL cS ad) ad wr s.heap.size σ) q := fun q h => Or.inr h
  have hN : NX (wA 77 (fX cI cL cS ad) ad wr s.heap.size σ) s s.heap := hN
  generalize (wA 77 (fX cI cL cS ad) ad wr s.heap.size σ) = A at hD hA hN ⊢
  have C : wC TB "PreferenceCount" c_C_hindmost 3 (some .int) D cls (tyl cI cL cZ cS) A p s m ([.ref (ad 0)].toArray) meth c := ⟨B.exec, B.bytes, B.returns, B.notSynchronized, fun w hw => atoms_spec (ws := Cond.code y_C_hindmost c_C_hindmost 3 (some .int) :: TB) B.pre w (List.mem_cons_of_mem _ hw), findClass_of_methodNamed B.named, hml, hK, hN, hA⟩
  have hx := C.1
  have hb := C.2.1
  have hts := C.2.2.2.2.1
  have hown := C.2.2.2.2.2.1
  have hS : va_S A s.heap s.heap [] := va_S.rf
  have hl := lv_entry ([.ref (ad 0)]) (n := 3) (Nat.le_of_ble_eq_true rfl)
  rw [lg_entry_eq]
  generalize (lg_sl ([.ref (ad 0)]) ++ List.replicate (3 - (lg_sl ([.ref (ad 0)])).length) Slot.unset).toArray = ls at hl ⊢
  have hl : lv_has ls 3 [(0, .ref (ad 0))] := hl
  have h : ∃ k4 : Nat, wp_C_hindmost_4 Q k4 (-1 : Int32) (0 : Int32) σ := h
  refine lv_iconst (v := (-1)) hx hb d_C_hindmost_0 (by decide) ?_
  refine lv_istore_n (lv' := [(1, .int (-1 : Int32)), (0, .ref (ad 0))]) hx hb d_C_hindmost_1 rfl hl (by decide) rfl (fun ls hl => ?_)
  refine lv_iconst (v := 0) hx hb d_C_hindmost_2 (by decide) ?_
  refine lv_istore_n (lv' := [(2, .int (0 : Int32)), (1, .int (-1 : Int32)), (0, .ref (ad 0))]) hx hb d_C_hindmost_3 rfl hl (by decide) rfl (fun ls hl => ?_)
  obtain ⟨n, h⟩ := h
  exact b_C_hindmost_4 C n h (lv_sub hl [2, 1, 0] rfl) hP hD hS
def rm_C_electInOrder : Room := { frames := 4, cells := 0, slots := 0, locals := 106 }
set_option maxHeartbeats 4000000 in
set_option maxRecDepth 100000 in
theorem b_C_electInOrder_53 {p : Program} {l : Launch} {e : Env} {s : State} {m : MethodId} {args : Array Value} {below : List Frame} {meth : Method} {c : Code} {D : va_G} {cI cL cZ cS : ClassId} {ad : Nat → Nat} {wr : va_W} {A : Nat → Prop} {Q : Mem → Prop} {σ : Mem} {H : Heap} {locs : List Loc} {ls : Array Slot} (C : wC TB "PreferenceCount" c_C_electInOrder 4 none D cls (tyl cI cL cZ cS) A p s m args meth c) (h : wp_C_electInOrder_53 Q σ) (hl : lv_has ls 4 []) (hP : va_P D cls (wW 77 (fX cI cL cS ad) ad σ ++ wr) H) (hD : va_D A (wW 77 (fX cI cL cS ad) ad σ ++ wr)) (hS : va_S A s.heap H locs) : W p l e (headSpec (Cond.code y_C_electInOrder c_C_electInOrder 4 none :: TB) rm_C_electInOrder).room s m args below meth c H locs 0 0 (MQ below (va_Qv Q (wB D cls (tyl cI cL cZ cS) 77 (fX cI cL cS ad) ad wr A) A) args s 0 0 A) (F0 m 53 ls []) := by
  have hx := C.1
  have hb := C.2.1
  have hts := C.2.2.2.2.1
  have hown := C.2.2.2.2.2.1
  have hml := C.2.2.2.2.2.2.1
  have h : Q σ := h
  exact r_vret C hP hD hS d_C_electInOrder_53 h
set_option maxHeartbeats 4000000 in
set_option maxRecDepth 100000 in
theorem b_C_electInOrder_39 {p : Program} {l : Launch} {e : Env} {s : State} {m : MethodId} {args : Array Value} {below : List Frame} {meth : Method} {c : Code} {D : va_G} {cI cL cZ cS : ClassId} {ad : Nat → Nat} {wr : va_W} {A : Nat → Prop} {Q : Mem → Prop} {K2 : Int32 → Int32 → Mem → Prop} {x1 : Int32} {x2 : Int32} {x3 : Int32} {σ : Mem} {H : Heap} {locs : List Loc} {ls : Array Slot} (C : wC TB "PreferenceCount" c_C_electInOrder 4 none D cls (tyl cI cL cZ cS) A p s m args meth c) (hK2 : ∀ {σ : Mem} {H : Heap} {locs : List Loc} {ls : Array Slot} {x1 : Int32} {x2 : Int32}, K2 x1 x2 σ → lv_has ls 4 [(0, .ref (ad 0)), (1, .int x1), (2, .int x2)] → va_P D cls (wW 77 (fX cI cL cS ad) ad σ ++ wr) H → va_D A (wW 77 (fX cI cL cS ad) ad σ ++ wr) → va_S A s.heap H locs → W p l e (headSpec (Cond.code y_C_electInOrder c_C_electInOrder 4 none :: TB) rm_C_electInOrder).room s m args below meth c H locs 0 0 (MQ below (va_Qv Q (wB D cls (tyl cI cL cZ cS) 77 (fX cI cL cS ad) ad wr A) A) args s 0 0 A) (F0 m 2 ls [])) (h : wp_C_electInOrder_39 Q K2 x1 x2 x3 σ) (hl : lv_has ls 4 [(0, .ref (ad 0)), (1, .int x1), (2, .int x2), (3, .int x3)]) (hP : va_P D cls (wW 77 (fX cI cL cS ad) ad σ ++ wr) H) (hD : va_D A (wW 77 (fX cI cL cS ad) ad σ ++ wr)) (hS : va_S A s.heap H locs) : W p l e (headSpec (Cond.code y_C_electInOrder c_C_electInOrder 4 none :: TB) rm_C_electInOrder).room s m args below meth c H locs 0 0 (MQ below (va_Qv Q (wB D cls (tyl cI cL cZ cS) 77 (fX cI cL cS ad) ad wr A) A) args s 0 0 A) (F0 m 39 ls []) := by
  have hx := C.1
  have hb := C.2.1
  have hts := C.2.2.2.2.1
  have hown := C.2.2.2.2.2.1
  have hml := C.2.2.2.2.2.2.1
  have h : wp_R_elect (fun σ44 => ∀ v47 : Int32, v47 = (x2 + 1) → (K2 x1 v47 σ44)) x3 σ := h
  refine lv_aload_n hx hb d_C_electInOrder_39 rfl (lv_at hl 0 rfl) ?_
  refine r_get C ku_C hP (by decide) rfl rfl 0 (by decide) kw_132 rfl d_C_electInOrder_40 ?_
  refine lv_iload_n hx hb d_C_electInOrder_43 rfl (lv_at hl 3 rfl) ?_
  refine r_callv C hD hS (va_runV (As := [.int x3]) (rest := []) ⟨hx, hb, hml, hown, hts⟩ (m_R_elect h) (cwV 1 hts (g_V kw_405 kw_406 kw_407 kw_2 kw_408) rfl rfl rfl (by decide +kernel) ⟨Nat.le_of_ble_eq_true rfl, Nat.le_of_ble_eq_true rfl⟩) (r_preV (o := 1) C hP hD hS (by decide) rfl rfl) rfl rfl hl.1 rfl (lv_room (Nat.le_of_ble_eq_true rfl)) d_C_electInOrder_44 ⟨Nat.le_of_ble_eq_true rfl, Nat.le_of_ble_eq_true rfl⟩) (fun σ44 H locs h hP hD hS => ?_)
  obtain ⟨v47, e47⟩ : ∃ z : Int32, z = (x2 + 1) := ⟨_, rfl⟩
  have h := h v47 e47
  refine lv_iinc (k := 2) (v := v47) (lv' := [(2, .int v47), (0, .ref (ad 0)), (1, .int x1), (3, .int x3)]) hx hb d_C_electInOrder_47 hl rfl (by rw [e47] <;> rfl) (by decide) rfl (fun ls hl => ?_)
  refine lv_goto hx hb d_C_electInOrder_50 rfl ?_
  exact hK2 h (lv_sub hl [1, 2, 0] rfl) hP hD hS
set_option maxHeartbeats 4000000 in
set_option maxRecDepth 100000 in
theorem b_C_electInOrder_2 {p : Program} {l : Launch} {e : Env} {s : State} {m : MethodId} {args : Array Value} {below : List Frame} {meth : Method} {c : Code} {D : va_G} {cI cL cZ cS : ClassId} {ad : Nat → Nat} {wr : va_W} {A : Nat → Prop} {Q : Mem → Prop} (C : wC TB "PreferenceCount" c_C_electInOrder 4 none D cls (tyl cI cL cZ cS) A p s m args meth c) : ∀ (n : Nat) {σ : Mem} {H : Heap} {locs : List Loc} {ls : Array Slot} {x1 : Int32} {x2 : Int32}, wp_C_electInOrder_2 Q n x1 x2 σ → lv_has ls 4 [(0, .ref (ad 0)), (1, .int x1), (2, .int x2)] → va_P D cls (wW 77 (fX cI cL cS ad) ad σ ++ wr) H → va_D A (wW 77 (fX cI cL cS ad) ad σ ++ wr) → va_S A s.heap H locs → W p l e (headSpec (Cond.code y_C_electInOrder c_C_electInOrder 4 none :: TB) rm_C_electInOrder).room s m args below meth c H locs 0 0 (MQ below (va_Qv Q (wB D cls (tyl cI cL cZ cS) 77 (fX cI cL cS ad) ad wr A) A) args s 0 0 A) (F0 m 2 ls []) := by
  have hx := C.1
  have hb := C.2.1
  have hts := C.2.2.2.2.1
  have hown := C.2.2.2.2.2.1
  have hml := C.2.2.2.2.2.2.1
  intro n
  induction n with
  | zero => intro σ H locs ls x1 x2 h; exact h.elim
  | succ j2 ih =>
    intro σ H locs ls x1 x2 h hl hP hD hS
    have hK2 := @ih
    have h : ((σ.1 1 2) ≤ x2 → (wp_C_electInOrder_53 Q σ)) ∧ (¬ (σ.1 1 2) ≤ x2 → (wp_C_foremost (fun r15 σ15 => (r15 = (-1 : Int32) → (wp_C_electInOrder_53 Q σ15)) ∧ (¬ r15 = (-1 : Int32) → ((x1 = 0 → (wp_C_electInOrder_39 Q (wp_C_electInOrder_2 Q j2) x1 x2 r15 σ15)) ∧ (¬ x1 = 0 → (wp_C_isAboveQuota (fun r30 σ30 => (r30 = 0 → (wp_C_electInOrder_53 Q σ30)) ∧ (¬ r30 = 0 → (wp_C_electInOrder_39 Q (wp_C_electInOrder_2 Q j2) x1 x2 r15 σ30))) r15 σ15))))) (0 : Int32) σ)) := h
    refine lv_iload_n hx hb d_C_electInOrder_2 rfl (lv_at hl 2 rfl) ?_
    refine lv_aload_n hx hb d_C_electInOrder_3 rfl (lv_at hl 0 rfl) ?_
    refine r_get C ku_C hP (by decide) rfl rfl 0 (by decide) kw_132 rfl d_C_electInOrder_4 ?_
    refine r_get C ku_R hP (by decide) rfl rfl 2 (by decide) kw_35 rfl d_C_electInOrder_7 ?_
    refine lv_icmp_ge hx hb d_C_electInOrder_10 rfl (fun hc10 => ?_) (fun hc10 => ?_)
    · have h := h.1 hc10
      exact b_C_electInOrder_53 C h (lv_sub hl [] rfl) hP hD hS
    · have h := h.2 hc10
      refine lv_aload_n hx hb d_C_electInOrder_13 rfl (lv_at hl 0 rfl) ?_
      refine lv_iconst (v := 0) hx hb d_C_electInOrder_14 (by decide) ?_
      refine r_calli C hD hS (va_runV (As := [.int (0 : Int32)]) (rest := []) ⟨hx, hb, hml, hown, hts⟩ (m_C_foremost h) (cwV 1 hts (g_V kw_382 kw_384 kp_11 kw_1 kw_385) rfl rfl rfl (by decide +kernel) ⟨Nat.le_of_ble_eq_true rfl, Nat.le_of_ble_eq_true rfl⟩) (r_preV (o := 0) C hP hD hS (by decide) rfl rfl) rfl rfl hl.1 rfl (lv_room (Nat.le_of_ble_eq_true rfl)) d_C_electInOrder_15 ⟨Nat.le_of_ble_eq_true rfl, Nat.le_of_ble_eq_true rfl⟩) (fun r15 σ15 H locs h hP hD hS => ?_)
      refine lv_istore_n (lv' := [(3, .int r15), (0, .ref (ad 0)), (1, .int x1), (2, .int x2)]) hx hb d_C_electInOrder_18 rfl hl (by decide) rfl (fun ls hl => ?_)
      refine lv_iload_n hx hb d_C_electInOrder_19 rfl (lv_at hl 0 rfl) ?_
      refine lv_iconst (v := (-1)) hx hb d_C_electInOrder_20 (by decide) ?_
      refine lv_icmp_eq hx hb d_C_electInOrder_21 rfl (fun hc21 => ?_) (fun hc21 => ?_)
      · have h := h.1 hc21
        exact b_C_electInOrder_53 C h (lv_sub hl [] rfl) hP hD hS
      · have h := h.2 hc21
        refine lv_iload_n hx hb d_C_electInOrder_24 rfl (lv_at hl 2 rfl) ?_
        refine lv_if_eq hx hb d_C_electInOrder_25 rfl (fun hc25 => ?_) (fun hc25 => ?_)
        · have h := h.1 hc25
          exact b_C_electInOrder_39 C hK2 h (lv_sub hl [1, 2, 3, 0] rfl) hP hD hS
        · have h := h.2 hc25
          refine lv_aload_n hx hb d_C_electInOrder_28 rfl (lv_at hl 1 rfl) ?_
          refine lv_iload_n hx hb d_C_electInOrder_29 rfl (lv_at hl 0 rfl) ?_
          refine r_calli C hD hS (va_runV (As := [.int r15]) (rest := []) ⟨hx, hb, hml, hown, hts⟩ (m_C_isAboveQuota h) (cwV 1 hts (g_V kw_401 kw_403 kp_13 kw_1 kw_404) rfl rfl rfl (by decide +kernel) ⟨Nat.le_of_ble_eq_true rfl, Nat.le_of_ble_eq_true rfl⟩) (r_preV (o := 0) C hP hD hS (by decide) rfl rfl) rfl rfl hl.1 rfl (lv_room (Nat.le_of_ble_eq_true rfl)) d_C_electInOrder_30 ⟨Nat.le_of_ble_eq_true rfl, Nat.le_of_ble_eq_true rfl⟩) (fun r30 σ30 H locs h hP hD hS => ?_)
          refine lv_if_ne hx hb d_C_electInOrder_33 rfl (fun hc33 => ?_) (fun hc33 => ?_)
          · have h := h.2 hc33
            exact b_C_electInOrder_39 C hK2 h (lv_sub hl [1, 2, 3, 0] rfl) hP hD hS
          · have h := h.1 hc33
            refine lv_goto hx hb d_C_electInOrder_36 rfl ?_
            exact b_C_electInOrder_53 C h (lv_sub hl [] rfl) hP hD hS
set_option maxHeartbeats 4000000 in
set_option maxRecDepth 100000 in
theorem m_C_electInOrder {l : Launch} {D : va_G} {cI cL cZ cS : ClassId} {ad : Nat → Nat} {wr : va_W} {sz : Nat} {Q : Mem → Prop} {x1 : Int32} {σ : Mem} (h : wp_C_electInOrder Q x1 σ) : Met l y_C_electInOrder (Cond.code y_C_electInOrder c_C_electInOrder 4 none :: TB) rm_C_electInOrder (wPc D cls (tyl cI cL cZ cS) 77 (fX cI cL cS ad) ad wr sz σ [.ref (ad 0), .int x1]) (va_Qv Q (wB D cls (tyl cI cL cZ cS) 77 (fX cI cL cS ad) ad wr (wA 77 (fX cI cL cS ad) ad wr sz σ)) (wA 77 (fX cI cL cS ad) ad wr sz σ)) 0 0 (wA 77 (fX cI cL cS ad) ad wr sz σ) := by
  refine Met.ofW (cc := c_C_electInOrder) (maxL := 4) (ret := none) (by decide) rfl ?_
  intro p e s m args below meth c s₁ B hml hv
  obtain ⟨rfl, hsz, hP, hK, hD0, hN⟩ := hv
  subst hsz
  have hD : va_D (wA 77 (fX cI cL cS ad) ad wr s.heap.size σ) (wW 77 (fX cI cL cS ad) ad σ ++ wr) := hD0.self (sz := s.heap.size)
  have hA : ∀ q : Nat, s.heap.size ≤ q → (wA 77 (fX cI cL cS ad) ad wr s.heap.size σ) q := fun q h => Or.inr h
  have hN : NX (wA 77 (fX cI cL cS ad) ad wr s.heap.size σ) s s.heap := hN
  generalize (wA 77 (fX cI cL cS ad) ad wr s.heap.size σ) = A at hD hA hN ⊢
  have C : wC TB "PreferenceCount" c_C_electInOrder 4 none D cls (tyl cI cL cZ cS) A p s m ([.ref (ad 0), .int x1].toArray) meth c := ⟨B.exec, B.bytes, B.returns, B.notSynchronized, fun w hw => atoms_spec (ws := Cond.code y_C_electInOrder c_C_electInOrder 4 none :: TB) B.pre w (List.mem_cons_of_mem _ hw), findClass_of_methodNamed B.named, hml, hK, hN, hA⟩
  have hx := C.1
  have hb := C.2.1
  have hts := C.2.2.2.2.1
  have hown := C.2.2.2.2.2.1
  have hS : va_S A s.heap s.heap [] := va_S.rf
  have hl := lv_entry ([.ref (ad 0), .int x1]) (n := 4) (Nat.le_of_ble_eq_true rfl)
  rw [lg_entry_eq]
  generalize (lg_sl ([.ref (ad 0), .int x1]) ++ List.replicate (4 - (lg_sl ([.ref (ad 0), .int x1])).length) Slot.unset).toArray = ls at hl ⊢
  have hl : lv_has ls 4 [(0, .ref (ad 0)), (1, .int x1)] := hl
  have h : ∃ k2 : Nat, wp_C_electInOrder_2 Q k2 x1 (0 : Int32) σ := h
  refine lv_iconst (v := 0) hx hb d_C_electInOrder_0 (by decide) ?_
  refine lv_istore_n (lv' := [(2, .int (0 : Int32)), (0, .ref (ad 0)), (1, .int x1)]) hx hb d_C_electInOrder_1 rfl hl (by decide) rfl (fun ls hl => ?_)
  obtain ⟨n, h⟩ := h
  exact b_C_electInOrder_2 C n h (lv_sub hl [1, 2, 0] rfl) hP hD hS
def rm_C_settle : Room := { frames := 5, cells := 0, slots := 0, locals := 129 }
set_option maxHeartbeats 4000000 in
set_option maxRecDepth 100000 in
theorem b_C_settle_76 {p : Program} {l : Launch} {e : Env} {s : State} {m : MethodId} {args : Array Value} {below : List Frame} {meth : Method} {c : Code} {D : va_G} {cI cL cZ cS : ClassId} {ad : Nat → Nat} {wr : va_W} {A : Nat → Prop} {Q : Mem → Prop} {t0 : Int32} {σ : Mem} {H : Heap} {locs : List Loc} {ls : Array Slot} (C : wC TB "PreferenceCount" c_C_settle 3 none D cls (tyl cI cL cZ cS) A p s m args meth c) (h : wp_C_settle_76 Q t0 σ) (hl : lv_has ls 3 []) (hP : va_P D cls (wW 77 (fX cI cL cS ad) ad σ ++ wr) H) (hD : va_D A (wW 77 (fX cI cL cS ad) ad σ ++ wr)) (hS : va_S A s.heap H locs) : W p l e (headSpec (Cond.code y_C_settle c_C_settle 3 none :: TB) rm_C_settle).room s m args below meth c H locs 0 0 (MQ below (va_Qv Q (wB D cls (tyl cI cL cZ cS) 77 (fX cI cL cS ad) ad wr A) A) args s 0 0 A) (F0 m 76 ls [.int t0, .ref (ad 0)]) := by
  have hx := C.1
  have hb := C.2.1
  have hts := C.2.2.2.2.1
  have hown := C.2.2.2.2.2.1
  have hml := C.2.2.2.2.2.2.1
  have h : (t0 = 0 ∨ t0 = 1) ∧ (∀ σ76 : Mem, σ76 = mI σ 0 5 t0 → (Q σ76)) := h
  obtain ⟨hb76, h⟩ := h
  refine r_putI (ty := .boolean) C ku_C ft_C fo_C fn_C hP hD hS (by decide) rfl rfl 5 (by decide) kw_137 rfl (by decide +kernel) (nar_b hb76) (fit_b hb76) (Nat.le_of_ble_eq_true rfl) d_C_settle_76 rfl (fun σ76 e76 H locs hP hD hS => ?_)
  have h := h σ76 e76
  exact r_vret C hP hD hS d_C_settle_79 h
set_option maxHeartbeats 4000000 in
set_option maxRecDepth 100000 in
theorem b_C_settle_71 {p : Program} {l : Launch} {e : Env} {s : State} {m : MethodId} {args : Array Value} {below : List Frame} {meth : Method} {c : Code} {D : va_G} {cI cL cZ cS : ClassId} {ad : Nat → Nat} {wr : va_W} {A : Nat → Prop} {Q : Mem → Prop} {σ : Mem} {H : Heap} {locs : List Loc} {ls : Array Slot} (C : wC TB "PreferenceCount" c_C_settle 3 none D cls (tyl cI cL cZ cS) A p s m args meth c) (h : wp_C_settle_71 Q σ) (hl : lv_has ls 3 []) (hP : va_P D cls (wW 77 (fX cI cL cS ad) ad σ ++ wr) H) (hD : va_D A (wW 77 (fX cI cL cS ad) ad σ ++ wr)) (hS : va_S A s.heap H locs) : W p l e (headSpec (Cond.code y_C_settle c_C_settle 3 none :: TB) rm_C_settle).room s m args below meth c H locs 0 0 (MQ below (va_Qv Q (wB D cls (tyl cI cL cZ cS) 77 (fX cI cL cS ad) ad wr A) A) args s 0 0 A) (F0 m 71 ls [.ref (ad 0)]) := by
  have hx := C.1
  have hb := C.2.1
  have hts := C.2.2.2.2.1
  have hown := C.2.2.2.2.2.1
  have hml := C.2.2.2.2.2.2.1
  have h : wp_C_settle_76 Q (1 : Int32) σ := h
  refine lv_iconst (v := 1) hx hb d_C_settle_71 (by decide) ?_
  refine lv_goto hx hb d_C_settle_72 rfl ?_
  exact b_C_settle_76 C h (lv_sub hl [] rfl) hP hD hS
set_option maxHeartbeats 4000000 in
set_option maxRecDepth 100000 in
theorem b_C_settle_62 {p : Program} {l : Launch} {e : Env} {s : State} {m : MethodId} {args : Array Value} {below : List Frame} {meth : Method} {c : Code} {D : va_G} {cI cL cZ cS : ClassId} {ad : Nat → Nat} {wr : va_W} {A : Nat → Prop} {Q : Mem → Prop} {x1 : Int32} {x2 : Int32} {σ : Mem} {H : Heap} {locs : List Loc} {ls : Array Slot} (C : wC TB "PreferenceCount" c_C_settle 3 none D cls (tyl cI cL cZ cS) A p s m args meth c) (h : wp_C_settle_62 Q x1 x2 σ) (hl : lv_has ls 3 [(0, .ref (ad 0)), (1, .int x1), (2, .int x2)]) (hP : va_P D cls (wW 77 (fX cI cL cS ad) ad σ ++ wr) H) (hD : va_D A (wW 77 (fX cI cL cS ad) ad σ ++ wr)) (hS : va_S A s.heap H locs) : W p l e (headSpec (Cond.code y_C_settle c_C_settle 3 none :: TB) rm_C_settle).room s m args below meth c H locs 0 0 (MQ below (va_Qv Q (wB D cls (tyl cI cL cZ cS) 77 (fX cI cL cS ad) ad wr A) A) args s 0 0 A) (F0 m 62 ls []) := by
  have hx := C.1
  have hb := C.2.1
  have hts := C.2.2.2.2.1
  have hown := C.2.2.2.2.2.1
  have hml := C.2.2.2.2.2.2.1
  have h : (x1 = 0 → ((x2 = 0 → (wp_C_settle_76 Q (0 : Int32) σ)) ∧ (¬ x2 = 0 → (wp_C_settle_71 Q σ)))) ∧ (¬ x1 = 0 → (wp_C_settle_71 Q σ)) := h
  refine lv_aload_n hx hb d_C_settle_62 rfl (lv_at hl 0 rfl) ?_
  refine lv_iload_n hx hb d_C_settle_63 rfl (lv_at hl 1 rfl) ?_
  refine lv_if_ne hx hb d_C_settle_64 rfl (fun hc64 => ?_) (fun hc64 => ?_)
  · have h := h.2 hc64
    exact b_C_settle_71 C h (lv_sub hl [] rfl) hP hD hS
  · have h := h.1 hc64
    refine lv_iload_n hx hb d_C_settle_67 rfl (lv_at hl 2 rfl) ?_
    refine lv_if_eq hx hb d_C_settle_68 rfl (fun hc68 => ?_) (fun hc68 => ?_)
    · have h := h.1 hc68
      refine lv_iconst (v := 0) hx hb d_C_settle_75 (by decide) ?_
      exact b_C_settle_76 C h (lv_sub hl [] rfl) hP hD hS
    · have h := h.2 hc68
      exact b_C_settle_71 C h (lv_sub hl [] rfl) hP hD hS
set_option maxHeartbeats 4000000 in
set_option maxRecDepth 100000 in
theorem b_C_settle_52 {p : Program} {l : Launch} {e : Env} {s : State} {m : MethodId} {args : Array Value} {below : List Frame} {meth : Method} {c : Code} {D : va_G} {cI cL cZ cS : ClassId} {ad : Nat → Nat} {wr : va_W} {A : Nat → Prop} {Q : Mem → Prop} {x1 : Int32} {t0 : Int32} {σ : Mem} {H : Heap} {locs : List Loc} {ls : Array Slot} (C : wC TB "PreferenceCount" c_C_settle 3 none D cls (tyl cI cL cZ cS) A p s m args meth c) (h : wp_C_settle_52 Q x1 t0 σ) (hl : lv_has ls 3 [(0, .ref (ad 0)), (1, .int x1)]) (hP : va_P D cls (wW 77 (fX cI cL cS ad) ad σ ++ wr) H) (hD : va_D A (wW 77 (fX cI cL cS ad) ad σ ++ wr)) (hS : va_S A s.heap H locs) : W p l e (headSpec (Cond.code y_C_settle c_C_settle 3 none :: TB) rm_C_settle).room s m args below meth c H locs 0 0 (MQ below (va_Qv Q (wB D cls (tyl cI cL cZ cS) 77 (fX cI cL cS ad) ad wr A) A) args s 0 0 A) (F0 m 52 ls [.int t0]) := by
  have hx := C.1
  have hb := C.2.1
  have hts := C.2.2.2.2.1
  have hown := C.2.2.2.2.2.1
  have hml := C.2.2.2.2.2.2.1
  have h : (t0 = 0 → (wp_C_settle_62 Q x1 t0 σ)) ∧ (¬ t0 = 0 → (wp_C_electInOrder (fun σ59 => wp_C_settle_62 Q x1 t0 σ59) (0 : Int32) σ)) := h
  refine lv_istore_n (lv' := [(2, .int t0), (0, .ref (ad 0)), (1, .int x1)]) hx hb d_C_settle_52 rfl hl (by decide) rfl (fun ls hl => ?_)
  refine lv_iload_n hx hb d_C_settle_53 rfl (lv_at hl 0 rfl) ?_
  refine lv_if_eq hx hb d_C_settle_54 rfl (fun hc54 => ?_) (fun hc54 => ?_)
  · have h := h.1 hc54
    exact b_C_settle_62 C h (lv_sub hl [1, 2, 0] rfl) hP hD hS
  · have h := h.2 hc54
    refine lv_aload_n hx hb d_C_settle_57 rfl (lv_at hl 1 rfl) ?_
    refine lv_iconst (v := 0) hx hb d_C_settle_58 (by decide) ?_
    refine r_callv C hD hS (va_runV (As := [.int (0 : Int32)]) (rest := []) ⟨hx, hb, hml, hown, hts⟩ (m_C_electInOrder h) (cwV 1 hts (g_V kw_378 kw_380 kp_10 kw_1 kw_381) rfl rfl rfl (by decide +kernel) ⟨Nat.le_of_ble_eq_true rfl, Nat.le_of_ble_eq_true rfl⟩) (r_preV (o := 0) C hP hD hS (by decide) rfl rfl) rfl rfl hl.1 rfl (lv_room (Nat.le_of_ble_eq_true rfl)) d_C_settle_59 ⟨Nat.le_of_ble_eq_true rfl, Nat.le_of_ble_eq_true rfl⟩) (fun σ59 H locs h hP hD hS => ?_)
    exact b_C_settle_62 C h (lv_sub hl [1, 2, 0] rfl) hP hD hS
set_option maxHeartbeats 4000000 in
set_option maxRecDepth 100000 in
theorem b_C_settle_24 {p : Program} {l : Launch} {e : Env} {s : State} {m : MethodId} {args : Array Value} {below : List Frame} {meth : Method} {c : Code} {D : va_G} {cI cL cZ cS : ClassId} {ad : Nat → Nat} {wr : va_W} {A : Nat → Prop} {Q : Mem → Prop} {t0 : Int32} {σ : Mem} {H : Heap} {locs : List Loc} {ls : Array Slot} (C : wC TB "PreferenceCount" c_C_settle 3 none D cls (tyl cI cL cZ cS) A p s m args meth c) (h : wp_C_settle_24 Q t0 σ) (hl : lv_has ls 3 [(0, .ref (ad 0))]) (hP : va_P D cls (wW 77 (fX cI cL cS ad) ad σ ++ wr) H) (hD : va_D A (wW 77 (fX cI cL cS ad) ad σ ++ wr)) (hS : va_S A s.heap H locs) : W p l e (headSpec (Cond.code y_C_settle c_C_settle 3 none :: TB) rm_C_settle).room s m args below meth c H locs 0 0 (MQ below (va_Qv Q (wB D cls (tyl cI cL cZ cS) 77 (fX cI cL cS ad) ad wr A) A) args s 0 0 A) (F0 m 24 ls [.int t0]) := by
  have hx := C.1
  have hb := C.2.1
  have hts := C.2.2.2.2.1
  have hown := C.2.2.2.2.2.1
  have hml := C.2.2.2.2.2.2.1
  have h : wp_R_continuing (fun r36 σ36 => ((σ36.1 0 3) < ((σ.1 1 3) + r36) → (wp_C_settle_52 Q t0 (0 : Int32) σ36)) ∧ (¬ (σ36.1 0 3) < ((σ.1 1 3) + r36) → (wp_C_settle_52 Q t0 (1 : Int32) σ36))) σ := h
  refine lv_istore_n (lv' := [(1, .int t0), (0, .ref (ad 0))]) hx hb d_C_settle_24 rfl hl (by decide) rfl (fun ls hl => ?_)
  refine lv_aload_n hx hb d_C_settle_25 rfl (lv_at hl 1 rfl) ?_
  refine r_get C ku_C hP (by decide) rfl rfl 0 (by decide) kw_132 rfl d_C_settle_26 ?_
  refine r_get C ku_R hP (by decide) rfl rfl 3 (by decide) kw_37 rfl d_C_settle_29 ?_
  refine lv_aload_n hx hb d_C_settle_32 rfl (lv_at hl 1 rfl) ?_
  refine r_get C ku_C hP (by decide) rfl rfl 0 (by decide) kw_132 rfl d_C_settle_33 ?_
  refine r_calli C hD hS (va_runV (As := []) (rest := [.int (σ.1 1 3)]) ⟨hx, hb, hml, hown, hts⟩ (m_R_continuing h) (cwV 0 hts (g_V kw_165 kw_166 kw_167 kw_2 kw_168) rfl rfl rfl (by decide +kernel) ⟨Nat.le_of_ble_eq_true rfl, Nat.le_of_ble_eq_true rfl⟩) (r_preV (o := 1) C hP hD hS (by decide) rfl rfl) rfl rfl hl.1 rfl (lv_room (Nat.le_of_ble_eq_true rfl)) d_C_settle_36 ⟨Nat.le_of_ble_eq_true rfl, Nat.le_of_ble_eq_true rfl⟩) (fun r36 σ36 H locs h hP hD hS => ?_)
  refine lv_iadd hx hb d_C_settle_39 ?_
  refine lv_aload_n hx hb d_C_settle_40 rfl (lv_at hl 1 rfl) ?_
  refine r_get C ku_C hP (by decide) rfl rfl 3 (by decide) kw_135 rfl d_C_settle_41 ?_
  refine lv_icmp_gt hx hb d_C_settle_44 rfl (fun hc44 => ?_) (fun hc44 => ?_)
  · have h := h.1 hc44
    refine lv_iconst (v := 0) hx hb d_C_settle_51 (by decide) ?_
    exact b_C_settle_52 C h (lv_sub hl [1, 0] rfl) hP hD hS
  · have h := h.2 hc44
    refine lv_iconst (v := 1) hx hb d_C_settle_47 (by decide) ?_
    refine lv_goto hx hb d_C_settle_48 rfl ?_
    exact b_C_settle_52 C h (lv_sub hl [1, 0] rfl) hP hD hS
set_option maxHeartbeats 4000000 in
set_option maxRecDepth 100000 in
theorem m_C_settle {l : Launch} {D : va_G} {cI cL cZ cS : ClassId} {ad : Nat → Nat} {wr : va_W} {sz : Nat} {Q : Mem → Prop} {σ : Mem} (h : wp_C_settle Q σ) : Met l y_C_settle (Cond.code y_C_settle c_C_settle 3 none :: TB) rm_C_settle (wPc D cls (tyl cI cL cZ cS) 77 (fX cI cL cS ad) ad wr sz σ [.ref (ad 0)]) (va_Qv Q (wB D cls (tyl cI cL cZ cS) 77 (fX cI cL cS ad) ad wr (wA 77 (fX cI cL cS ad) ad wr sz σ)) (wA 77 (fX cI cL cS ad) ad wr sz σ)) 0 0 (wA 77 (fX cI cL cS ad) ad wr sz σ) := by
  refine Met.ofW (cc := c_C_settle) (maxL := 3) (ret := none) (by decide) rfl ?_
  intro p e s m args below meth c s₁ B hml hv
  obtain ⟨rfl, hsz, hP, hK, hD0, hN⟩ := hv
  subst hsz
  have hD : va_D (wA 77 (fX cI cL cS ad) ad wr s.heap.size σ) (wW 77 (fX cI cL cS ad) ad σ ++ wr) := hD0.self (sz := s.heap.size)
  have hA : ∀ q : Nat, s.heap.size ≤ q → (wA 77 (fX cI cL cS ad) ad wr s.heap.size σ) q := fun q h => Or.inr h
  have hN : NX (wA 77 (fX cI cL cS ad) ad wr s.heap.size σ) s s.heap := hN
  generalize (wA 77 (fX cI cL cS ad) ad wr s.heap.size σ) = A at hD hA hN ⊢
  have C : wC TB "PreferenceCount" c_C_settle 3 none D cls (tyl cI cL cZ cS) A p s m ([.ref (ad 0)].toArray) meth c := ⟨B.exec, B.bytes, B.returns, B.notSynchronized, fun w hw => atoms_spec (ws := Cond.code y_C_settle c_C_settle 3 none :: TB) B.pre w (List.mem_cons_of_mem _ hw), findClass_of_methodNamed B.named, hml, hK, hN, hA⟩
  have hx := C.1
  have hb := C.2.1
  have hts := C.2.2.2.2.1
  have hown := C.2.2.2.2.2.1
  have hS : va_S A s.heap s.heap [] := va_S.rf
  have hl := lv_entry ([.ref (ad 0)]) (n := 3) (Nat.le_of_ble_eq_true rfl)
  rw [lg_entry_eq]
  generalize (lg_sl ([.ref (ad 0)]) ++ List.replicate (3 - (lg_sl ([.ref (ad 0)])).length) Slot.unset).toArray = ls at hl ⊢
  have hl : lv_has ls 3 [(0, .ref (ad 0))] := hl
  have h : wp_C_electInOrder (fun σ2 => ((σ2.1 1 3) = (σ2.1 0 3) → (wp_C_settle_24 Q (1 : Int32) σ2)) ∧ (¬ (σ2.1 1 3) = (σ2.1 0 3) → (wp_C_settle_24 Q (0 : Int32) σ2))) (1 : Int32) σ := h
  refine lv_aload_n hx hb d_C_settle_0 rfl (lv_at hl 0 rfl) ?_
  refine lv_iconst (v := 1) hx hb d_C_settle_1 (by decide) ?_
  refine r_callv C hD hS (va_runV (As := [.int (1 : Int32)]) (rest := []) ⟨hx, hb, hml, hown, hts⟩ (m_C_electInOrder h) (cwV 1 hts (g_V kw_378 kw_380 kp_10 kw_1 kw_381) rfl rfl rfl (by decide +kernel) ⟨Nat.le_of_ble_eq_true rfl, Nat.le_of_ble_eq_true rfl⟩) (r_preV (o := 0) C hP hD hS (by decide) rfl rfl) rfl rfl hl.1 rfl (lv_room (Nat.le_of_ble_eq_true rfl)) d_C_settle_2 ⟨Nat.le_of_ble_eq_true rfl, Nat.le_of_ble_eq_true rfl⟩) (fun σ2 H locs h hP hD hS => ?_)
  refine lv_aload_n hx hb d_C_settle_5 rfl (lv_at hl 0 rfl) ?_
  refine r_get C ku_C hP (by decide) rfl rfl 0 (by decide) kw_132 rfl d_C_settle_6 ?_
  refine r_get C ku_R hP (by decide) rfl rfl 3 (by decide) kw_37 rfl d_C_settle_9 ?_
  refine lv_aload_n hx hb d_C_settle_12 rfl (lv_at hl 0 rfl) ?_
  refine r_get C ku_C hP (by decide) rfl rfl 3 (by decide) kw_135 rfl d_C_settle_13 ?_
  refine lv_icmp_ne hx hb d_C_settle_16 rfl (fun hc16 => ?_) (fun hc16 => ?_)
  · have h := h.2 hc16
    refine lv_iconst (v := 0) hx hb d_C_settle_23 (by decide) ?_
    exact b_C_settle_24 C h (lv_sub hl [0] rfl) hP hD hS
  · have h := h.1 hc16
    refine lv_iconst (v := 1) hx hb d_C_settle_19 (by decide) ?_
    refine lv_goto hx hb d_C_settle_20 rfl ?_
    exact b_C_settle_24 C h (lv_sub hl [0] rfl) hP hD hS
def rm_C_over : Room := { frames := 0, cells := 0, slots := 0, locals := 0 }
set_option maxHeartbeats 4000000 in
set_option maxRecDepth 100000 in
theorem m_C_over {l : Launch} {D : va_G} {cI cL cZ cS : ClassId} {ad : Nat → Nat} {wr : va_W} {sz : Nat} {Q : Int32 → Mem → Prop} {σ : Mem} (h : wp_C_over Q σ) : Met l y_C_over (Cond.code y_C_over c_C_over 1 (some .boolean) :: TB) rm_C_over (wPc D cls (tyl cI cL cZ cS) 77 (fX cI cL cS ad) ad wr sz σ [.ref (ad 0)]) (va_Qi Q (wB D cls (tyl cI cL cZ cS) 77 (fX cI cL cS ad) ad wr (wA 77 (fX cI cL cS ad) ad wr sz σ)) (wA 77 (fX cI cL cS ad) ad wr sz σ)) 0 0 (wA 77 (fX cI cL cS ad) ad wr sz σ) := by
  refine Met.ofW (cc := c_C_over) (maxL := 1) (ret := (some .boolean)) (by decide) rfl ?_
  intro p e s m args below meth c s₁ B hml hv
  obtain ⟨rfl, hsz, hP, hK, hD0, hN⟩ := hv
  subst hsz
  have hD : va_D (wA 77 (fX cI cL cS ad) ad wr s.heap.size σ) (wW 77 (fX cI cL cS ad) ad σ ++ wr) := hD0.self (sz := s.heap.size)
  have hA : ∀ q : Nat, s.heap.size ≤ q → (wA 77 (fX cI cL cS ad) ad wr s.heap.size σ) q := fun q h => Or.inr h
  have hN : NX (wA 77 (fX cI cL cS ad) ad wr s.heap.size σ) s s.heap := hN
  generalize (wA 77 (fX cI cL cS ad) ad wr s.heap.size σ) = A at hD hA hN ⊢
  have C : wC TB "PreferenceCount" c_C_over 1 (some .boolean) D cls (tyl cI cL cZ cS) A p s m ([.ref (ad 0)].toArray) meth c := ⟨B.exec, B.bytes, B.returns, B.notSynchronized, fun w hw => atoms_spec (ws := Cond.code y_C_over c_C_over 1 (some .boolean) :: TB) B.pre w (List.mem_cons_of_mem _ hw), findClass_of_methodNamed B.named, hml, hK, hN, hA⟩
  have hx := C.1
  have hb := C.2.1
  have hts := C.2.2.2.2.1
  have hown := C.2.2.2.2.2.1
  have hS : va_S A s.heap s.heap [] := va_S.rf
  have hl := lv_entry ([.ref (ad 0)]) (n := 1) (Nat.le_of_ble_eq_true rfl)
  rw [lg_entry_eq]
  generalize (lg_sl ([.ref (ad 0)]) ++ List.replicate (1 - (lg_sl ([.ref (ad 0)])).length) Slot.unset).toArray = ls at hl ⊢
  have hl : lv_has ls 1 [(0, .ref (ad 0))] := hl
  have h : ((σ.1 0 5) = 0 ∨ (σ.1 0 5) = 1) ∧ Q (σ.1 0 5) σ := h
  refine lv_aload_n hx hb d_C_over_0 rfl (lv_at hl 0 rfl) ?_
  refine r_get C ku_C hP (by decide) rfl rfl 5 (by decide) kw_137 rfl d_C_over_1 ?_
  obtain ⟨hb4, h⟩ := h
  exact r_zret C hb4 hP hD hS d_C_over_4 h
def rm_C_state : Room := { frames := 1, cells := 0, slots := 0, locals := 20 }
set_option maxHeartbeats 4000000 in
set_option maxRecDepth 100000 in
theorem m_C_state {l : Launch} {D : va_G} {cI cL cZ cS : ClassId} {ad : Nat → Nat} {wr : va_W} {sz : Nat} {Q : Int32 → Mem → Prop} {x1 : Int32} {σ : Mem} (h : wp_C_state Q x1 σ) : Met l y_C_state (Cond.code y_C_state c_C_state 2 (some .int) :: TB) rm_C_state (wPc D cls (tyl cI cL cZ cS) 77 (fX cI cL cS ad) ad wr sz σ [.ref (ad 0), .int x1]) (va_Qi Q (wB D cls (tyl cI cL cZ cS) 77 (fX cI cL cS ad) ad wr (wA 77 (fX cI cL cS ad) ad wr sz σ)) (wA 77 (fX cI cL cS ad) ad wr sz σ)) 0 0 (wA 77 (fX cI cL cS ad) ad wr sz σ) := by
  refine Met.ofW (cc := c_C_state) (maxL := 2) (ret := (some .int)) (by decide) rfl ?_
  intro p e s m args below meth c s₁ B hml hv
  obtain ⟨rfl, hsz, hP, hK, hD0, hN⟩ := hv
  subst hsz
  have hD : va_D (wA 77 (fX cI cL cS ad) ad wr s.heap.size σ) (wW 77 (fX cI cL cS ad) ad σ ++ wr) := hD0.self (sz := s.heap.size)
  have hA : ∀ q : Nat, s.heap.size ≤ q → (wA 77 (fX cI cL cS ad) ad wr s.heap.size σ) q := fun q h => Or.inr h
  have hN : NX (wA 77 (fX cI cL cS ad) ad wr s.heap.size σ) s s.heap := hN
  generalize (wA 77 (fX cI cL cS ad) ad wr s.heap.size σ) = A at hD hA hN ⊢
  have C : wC TB "PreferenceCount" c_C_state 2 (some .int) D cls (tyl cI cL cZ cS) A p s m ([.ref (ad 0), .int x1].toArray) meth c := ⟨B.exec, B.bytes, B.returns, B.notSynchronized, fun w hw => atoms_spec (ws := Cond.code y_C_state c_C_state 2 (some .int) :: TB) B.pre w (List.mem_cons_of_mem _ hw), findClass_of_methodNamed B.named, hml, hK, hN, hA⟩
  have hx := C.1
  have hb := C.2.1
  have hts := C.2.2.2.2.1
  have hown := C.2.2.2.2.2.1
  have hS : va_S A s.heap s.heap [] := va_S.rf
  have hl := lv_entry ([.ref (ad 0), .int x1]) (n := 2) (Nat.le_of_ble_eq_true rfl)
  rw [lg_entry_eq]
  generalize (lg_sl ([.ref (ad 0), .int x1]) ++ List.replicate (2 - (lg_sl ([.ref (ad 0), .int x1])).length) Slot.unset).toArray = ls at hl ⊢
  have hl : lv_has ls 2 [(0, .ref (ad 0)), (1, .int x1)] := hl
  have h : (x1 = 0 → (Q (σ.1 1 2) σ)) ∧ (¬ x1 = 0 → ((x1 = 1 → (Q (σ.1 0 3) σ)) ∧ (¬ x1 = 1 → ((x1 = 2 → (Q (σ.1 4 5) σ)) ∧ (¬ x1 = 2 → ((x1 = 3 → (Q (Int64.toInt32 (σ.2 0 7)) σ)) ∧ (¬ x1 = 3 → ((x1 = 4 → (Q (σ.1 0 4) σ)) ∧ (¬ x1 = 4 → ((x1 = 5 → (Q (σ.1 1 3) σ)) ∧ (¬ x1 = 5 → ((x1 = 6 → (Q (σ.1 1 4) σ)) ∧ (¬ x1 = 6 → ((x1 = 7 → (wp_R_continuing (fun r100 σ100 => Q r100 σ100) σ)) ∧ (¬ x1 = 7 → (Q (-1 : Int32) σ)))))))))))))))) := h
  refine lv_iload_n hx hb d_C_state_0 rfl (lv_at hl 1 rfl) ?_
  by_cases hc1_0 : x1 = 0
  · have h := h.1 hc1_0
    refine lv_tableIn hx hb d_C_state_1 (by rw [hc1_0]; decide) (by rw [hc1_0]; decide) (by rw [hc1_0]; rfl) rfl ?_
    refine lv_aload_n hx hb d_C_state_48 rfl (lv_at hl 0 rfl) ?_
    refine r_get C ku_C hP (by decide) rfl rfl 0 (by decide) kw_132 rfl d_C_state_49 ?_
    refine r_get C ku_R hP (by decide) rfl rfl 2 (by decide) kw_35 rfl d_C_state_52 ?_
    exact r_iret C hP hD hS d_C_state_55 h
  have h := h.2 hc1_0
  by_cases hc1_1 : x1 = 1
  · have h := h.1 hc1_1
    refine lv_tableIn hx hb d_C_state_1 (by rw [hc1_1]; decide) (by rw [hc1_1]; decide) (by rw [hc1_1]; rfl) rfl ?_
    refine lv_aload_n hx hb d_C_state_56 rfl (lv_at hl 0 rfl) ?_
    refine r_get C ku_C hP (by decide) rfl rfl 3 (by decide) kw_135 rfl d_C_state_57 ?_
    exact r_iret C hP hD hS d_C_state_60 h
  have h := h.2 hc1_1
  by_cases hc1_2 : x1 = 2
  · have h := h.1 hc1_2
    refine lv_tableIn hx hb d_C_state_1 (by rw [hc1_2]; decide) (by rw [hc1_2]; decide) (by rw [hc1_2]; rfl) rfl ?_
    refine lv_aload_n hx hb d_C_state_61 rfl (lv_at hl 0 rfl) ?_
    refine r_get C ku_C hP (by decide) rfl rfl 1 (by decide) kw_133 rfl d_C_state_62 ?_
    refine r_get C ku_P hP (by decide) rfl rfl 5 (by decide) kw_88 rfl d_C_state_65 ?_
    exact r_iret C hP hD hS d_C_state_68 h
  have h := h.2 hc1_2
  by_cases hc1_3 : x1 = 3
  · have h := h.1 hc1_3
    refine lv_tableIn hx hb d_C_state_1 (by rw [hc1_3]; decide) (by rw [hc1_3]; decide) (by rw [hc1_3]; rfl) rfl ?_
    refine lv_aload_n hx hb d_C_state_69 rfl (lv_at hl 0 rfl) ?_
    refine r_get C ku_C hP (by decide) rfl rfl 7 (by decide) kw_139 rfl d_C_state_70 ?_
    refine lv_l2i hx hb d_C_state_73 rfl ?_
    exact r_iret C hP hD hS d_C_state_74 h
  have h := h.2 hc1_3
  by_cases hc1_4 : x1 = 4
  · have h := h.1 hc1_4
    refine lv_tableIn hx hb d_C_state_1 (by rw [hc1_4]; decide) (by rw [hc1_4]; decide) (by rw [hc1_4]; rfl) rfl ?_
    refine lv_aload_n hx hb d_C_state_75 rfl (lv_at hl 0 rfl) ?_
    refine r_get C ku_C hP (by decide) rfl rfl 4 (by decide) kw_136 rfl d_C_state_76 ?_
    exact r_iret C hP hD hS d_C_state_79 h
  have h := h.2 hc1_4
  by_cases hc1_5 : x1 = 5
  · have h := h.1 hc1_5
    refine lv_tableIn hx hb d_C_state_1 (by rw [hc1_5]; decide) (by rw [hc1_5]; decide) (by rw [hc1_5]; rfl) rfl ?_
    refine lv_aload_n hx hb d_C_state_80 rfl (lv_at hl 0 rfl) ?_
    refine r_get C ku_C hP (by decide) rfl rfl 0 (by decide) kw_132 rfl d_C_state_81 ?_
    refine r_get C ku_R hP (by decide) rfl rfl 3 (by decide) kw_37 rfl d_C_state_84 ?_
    exact r_iret C hP hD hS d_C_state_87 h
  have h := h.2 hc1_5
  by_cases hc1_6 : x1 = 6
  · have h := h.1 hc1_6
    refine lv_tableIn hx hb d_C_state_1 (by rw [hc1_6]; decide) (by rw [hc1_6]; decide) (by rw [hc1_6]; rfl) rfl ?_
    refine lv_aload_n hx hb d_C_state_88 rfl (lv_at hl 0 rfl) ?_
    refine r_get C ku_C hP (by decide) rfl rfl 0 (by decide) kw_132 rfl d_C_state_89 ?_
    refine r_get C ku_R hP (by decide) rfl rfl 4 (by decide) kw_39 rfl d_C_state_92 ?_
    exact r_iret C hP hD hS d_C_state_95 h
  have h := h.2 hc1_6
  by_cases hc1_7 : x1 = 7
  · have h := h.1 hc1_7
    refine lv_tableIn hx hb d_C_state_1 (by rw [hc1_7]; decide) (by rw [hc1_7]; decide) (by rw [hc1_7]; rfl) rfl ?_
    refine lv_aload_n hx hb d_C_state_96 rfl (lv_at hl 0 rfl) ?_
    refine r_get C ku_C hP (by decide) rfl rfl 0 (by decide) kw_132 rfl d_C_state_97 ?_
    refine r_calli C hD hS (va_runV (As := []) (rest := []) ⟨hx, hb, hml, hown, hts⟩ (m_R_continuing h) (cwV 0 hts (g_V kw_165 kw_166 kw_167 kw_2 kw_168) rfl rfl rfl (by decide +kernel) ⟨Nat.le_of_ble_eq_true rfl, Nat.le_of_ble_eq_true rfl⟩) (r_preV (o := 1) C hP hD hS (by decide) rfl rfl) rfl rfl hl.1 rfl (lv_room (Nat.le_of_ble_eq_true rfl)) d_C_state_100 ⟨Nat.le_of_ble_eq_true rfl, Nat.le_of_ble_eq_true rfl⟩) (fun r100 σ100 H locs h hP hD hS => ?_)
    exact r_iret C hP hD hS d_C_state_103 h
  have h := h.2 hc1_7
  refine lv_tableOut hx hb d_C_state_1 (sw_out8 hc1_0 hc1_1 hc1_2 hc1_3 hc1_4 hc1_5 hc1_6 hc1_7) rfl ?_
  refine lv_iconst (v := (-1)) hx hb d_C_state_104 (by decide) ?_
  exact r_iret C hP hD hS d_C_state_105 h
