def rm_M_thrown : Room := { frames := 0, cells := 0, slots := 0, locals := 0 }
set_option maxHeartbeats 4000000 in
set_option maxRecDepth 100000 in
theorem m_M_thrown {l : Launch} {D : va_G} {cI cL cZ cS : ClassId} {ad : Nat → Nat} {wr : va_W} {sz : Nat} {Q : Int32 → Mem → Prop} {σ : Mem} (h : wp_M_thrown Q σ) : Met l y_M_thrown (Cond.code y_M_thrown c_M_thrown 1 (some .int) :: TB) rm_M_thrown (wPc D cls (tyl cI cL cZ cS) 12 (fM cI cL cZ ad) ad wr sz σ [.ref (ad 0)]) (va_Qi Q (wB D cls (tyl cI cL cZ cS) 12 (fM cI cL cZ ad) ad wr (wA 12 (fM cI cL cZ ad) ad wr sz σ)) (wA 12 (fM cI cL cZ ad) ad wr sz σ)) 0 0 (wA 12 (fM cI cL cZ ad) ad wr sz σ) := by
  refine Met.ofW (cc := c_M_thrown) (maxL := 1) (ret := (some .int)) (by decide) rfl ?_
  intro p e s m args below meth c s₁ B hml hv
  obtain ⟨rfl, hsz, hP, hK, hD0, hN⟩ := hv
  subst hsz
  have hD : va_D (wA 12 (fM cI cL cZ ad) ad wr s.heap.size σ) (wW 12 (fM cI cL cZ ad) ad σ ++ wr) := hD0.self (sz := s.heap.size)
  have hA : ∀ q : Nat, s.heap.size ≤ q → (wA 12 (fM cI cL cZ ad) ad wr s.heap.size σ) q := fun q h => Or.inr h
  have hN : NX (wA 12 (fM cI cL cZ ad) ad wr s.heap.size σ) s s.heap := hN
  generalize (wA 12 (fM cI cL cZ ad) ad wr s.heap.size σ) = A at hD hA hN ⊢
  have C : wC TB "PreferenceCountModel" c_M_thrown 1 (some .int) D cls (tyl cI cL cZ cS) A p s m ([.ref (ad 0)].toArray) meth c := ⟨B.exec, B.bytes, B.returns, B.notSynchronized, fun w hw => atoms_spec (ws := Cond.code y_M_thrown c_M_thrown 1 (some .int) :: TB) B.pre w (List.mem_cons_of_mem _ hw), findClass_of_methodNamed B.named, hml, hK, hN, hA⟩
  have hx := C.1
  have hb := C.2.1
  have hts := C.2.2.2.2.1
  have hown := C.2.2.2.2.2.1
  have hS : va_S A s.heap s.heap [] := va_S.rf
  have hl := lv_entry ([.ref (ad 0)]) (n := 1) (Nat.le_of_ble_eq_true rfl)
  rw [lg_entry_eq]
  generalize (lg_sl ([.ref (ad 0)]) ++ List.replicate (1 - (lg_sl ([.ref (ad 0)])).length) Slot.unset).toArray = ls at hl ⊢
  have hl : lv_has ls 1 [(0, .ref (ad 0))] := hl
  have h : Q (σ.1 0 0) σ := h
  refine lv_aload_n hx hb d_M_thrown_0 rfl (lv_at hl 0 rfl) ?_
  refine r_get C ku_M hP (by decide) rfl rfl 0 (by decide) kw_509 rfl d_M_thrown_1 ?_
  exact r_iret C hP hD hS d_M_thrown_4 h
def rm_M_clear : Room := { frames := 0, cells := 0, slots := 0, locals := 0 }
set_option maxHeartbeats 4000000 in
set_option maxRecDepth 100000 in
theorem b_M_clear_12 {p : Program} {l : Launch} {e : Env} {s : State} {m : MethodId} {args : Array Value} {below : List Frame} {meth : Method} {c : Code} {D : va_G} {cI cL cZ cS : ClassId} {ad : Nat → Nat} {wr : va_W} {A : Nat → Prop} {Q : Mem → Prop} (C : wC TB "PreferenceCountModel" c_M_clear 4 none D cls (tyl cI cL cZ cS) A p s m args meth c) : ∀ (n : Nat) {σ : Mem} {H : Heap} {locs : List Loc} {ls : Array Slot} {x3 : Int32}, wp_M_clear_12 Q n x3 σ → lv_has ls 4 [(0, .ref (ad 0)), (3, .int x3)] → va_P D cls (wW 12 (fM cI cL cZ ad) ad σ ++ wr) H → va_D A (wW 12 (fM cI cL cZ ad) ad σ ++ wr) → va_S A s.heap H locs → W p l e (headSpec (Cond.code y_M_clear c_M_clear 4 none :: TB) rm_M_clear).room s m args below meth c H locs 0 0 (MQ below (va_Qv Q (wB D cls (tyl cI cL cZ cS) 12 (fM cI cL cZ ad) ad wr A) A) args s 0 0 A) (F0 m 12 ls []) := by
  have hx := C.1
  have hb := C.2.1
  have hts := C.2.2.2.2.1
  have hown := C.2.2.2.2.2.1
  have hml := C.2.2.2.2.2.2.1
  intro n
  induction n with
  | zero => intro σ H locs ls x3 h; exact h.elim
  | succ j12 ih =>
    intro σ H locs ls x3 h hl hP hD hS
    have hK12 := @ih
    have h : ((12 : Int32) ≤ x3 → (∀ σ47 : Mem, σ47 = mI σ 0 5 (0 : Int32) → (∀ σ52 : Mem, σ52 = mI σ47 0 6 (0 : Int32) → (∀ σ57 : Mem, σ57 = mI σ52 0 7 (0 : Int32) → (∀ σ62 : Mem, σ62 = mI σ57 0 15 (-1 : Int32) → (((0 : Int32) = 0 ∨ (0 : Int32) = 1) ∧ (∀ σ67 : Mem, σ67 = mI σ62 0 19 (0 : Int32) → (Q σ67)))))))) ∧ (¬ (12 : Int32) ≤ x3 → (vp_in x3 12 ∧ (∀ σ24 : Mem, σ24 = mI σ 1 (Int32.toNatClampNeg x3) x3 → (vp_in x3 12 ∧ (∀ σ31 : Mem, σ31 = mI σ24 2 (Int32.toNatClampNeg x3) (0 : Int32) → (vp_in x3 12 ∧ (∀ σ38 : Mem, σ38 = mI σ31 8 (Int32.toNatClampNeg x3) (vp_nar .boolean (0 : Int32)) → (∀ v39 : Int32, v39 = (x3 + 1) → ((wp_M_clear_12 Q j12) v39 σ38))))))))) := h
    refine lv_iload_n hx hb d_M_clear_12 rfl (lv_at hl 1 rfl) ?_
    refine lv_bipush (v := 12) hx hb d_M_clear_13 (by decide) ?_
    refine lv_icmp_ge hx hb d_M_clear_15 rfl (fun hc15 => ?_) (fun hc15 => ?_)
    · have h := h.1 hc15
      refine lv_aload_n hx hb d_M_clear_45 rfl (lv_at hl 0 rfl) ?_
      refine lv_iconst (v := 0) hx hb d_M_clear_46 (by decide) ?_
      refine r_putI (ty := .int) C ku_M ft_M fo_M fn_M hP hD hS (by decide) rfl rfl 5 (by decide) kw_514 rfl (by decide +kernel) rfl rfl (Nat.le_of_ble_eq_true rfl) d_M_clear_47 rfl (fun σ47 e47 H locs hP hD hS => ?_)
      have h := h σ47 e47
      refine lv_aload_n hx hb d_M_clear_50 rfl (lv_at hl 0 rfl) ?_
      refine lv_iconst (v := 0) hx hb d_M_clear_51 (by decide) ?_
      refine r_putI (ty := .int) C ku_M ft_M fo_M fn_M hP hD hS (by decide) rfl rfl 6 (by decide) kw_515 rfl (by decide +kernel) rfl rfl (Nat.le_of_ble_eq_true rfl) d_M_clear_52 rfl (fun σ52 e52 H locs hP hD hS => ?_)
      have h := h σ52 e52
      refine lv_aload_n hx hb d_M_clear_55 rfl (lv_at hl 0 rfl) ?_
      refine lv_iconst (v := 0) hx hb d_M_clear_56 (by decide) ?_
      refine r_putI (ty := .int) C ku_M ft_M fo_M fn_M hP hD hS (by decide) rfl rfl 7 (by decide) kw_516 rfl (by decide +kernel) rfl rfl (Nat.le_of_ble_eq_true rfl) d_M_clear_57 rfl (fun σ57 e57 H locs hP hD hS => ?_)
      have h := h σ57 e57
      refine lv_aload_n hx hb d_M_clear_60 rfl (lv_at hl 0 rfl) ?_
      refine lv_iconst (v := (-1)) hx hb d_M_clear_61 (by decide) ?_
      refine r_putI (ty := .int) C ku_M ft_M fo_M fn_M hP hD hS (by decide) rfl rfl 15 (by decide) kw_524 rfl (by decide +kernel) rfl rfl (Nat.le_of_ble_eq_true rfl) d_M_clear_62 rfl (fun σ62 e62 H locs hP hD hS => ?_)
      have h := h σ62 e62
      refine lv_aload_n hx hb d_M_clear_65 rfl (lv_at hl 0 rfl) ?_
      refine lv_iconst (v := 0) hx hb d_M_clear_66 (by decide) ?_
      obtain ⟨hb67, h⟩ := h
      refine r_putI (ty := .boolean) C ku_M ft_M fo_M fn_M hP hD hS (by decide) rfl rfl 19 (by decide) kw_528 rfl (by decide +kernel) (nar_b hb67) (fit_b hb67) (Nat.le_of_ble_eq_true rfl) d_M_clear_67 rfl (fun σ67 e67 H locs hP hD hS => ?_)
      have h := h σ67 e67
      exact r_vret C hP hD hS d_M_clear_70 h
    · have h := h.2 hc15
      refine lv_aload_n hx hb d_M_clear_18 rfl (lv_at hl 0 rfl) ?_
      refine r_get C ku_M hP (by decide) rfl rfl 3 (by decide) kw_512 rfl d_M_clear_19 ?_
      refine lv_iload_n hx hb d_M_clear_22 rfl (lv_at hl 1 rfl) ?_
      refine lv_iload_n hx hb d_M_clear_23 rfl (lv_at hl 1 rfl) ?_
      obtain ⟨hi24, h⟩ := h
      refine r_iast C hP hD hS (by decide) (fun _ _ => rfl) rfl hi24 d_M_clear_24 (fun σ24 e24 H locs hP hD hS => ?_)
      have h := h σ24 e24
      refine lv_aload_n hx hb d_M_clear_25 rfl (lv_at hl 0 rfl) ?_
      refine r_get C ku_M hP (by decide) rfl rfl 4 (by decide) kw_513 rfl d_M_clear_26 ?_
      refine lv_iload_n hx hb d_M_clear_29 rfl (lv_at hl 1 rfl) ?_
      refine lv_iconst (v := 0) hx hb d_M_clear_30 (by decide) ?_
      obtain ⟨hi31, h⟩ := h
      refine r_iast C hP hD hS (by decide) (fun _ _ => rfl) rfl hi31 d_M_clear_31 (fun σ31 e31 H locs hP hD hS => ?_)
      have h := h σ31 e31
      refine lv_aload_n hx hb d_M_clear_32 rfl (lv_at hl 0 rfl) ?_
      refine r_get C ku_M hP (by decide) rfl rfl 13 (by decide) kw_522 rfl d_M_clear_33 ?_
      refine lv_iload_n hx hb d_M_clear_36 rfl (lv_at hl 1 rfl) ?_
      refine lv_iconst (v := 0) hx hb d_M_clear_37 (by decide) ?_
      obtain ⟨hi38, h⟩ := h
      refine r_zast C hP hD hS (by decide) (fun _ _ => rfl) rfl hi38 d_M_clear_38 (fun σ38 e38 H locs hP hD hS => ?_)
      have h := h σ38 e38
      obtain ⟨v39, e39⟩ : ∃ z : Int32, z = (x3 + 1) := ⟨_, rfl⟩
      have h := h v39 e39
      refine lv_iinc (k := 1) (v := v39) (lv' := [(3, .int v39), (0, .ref (ad 0))]) hx hb d_M_clear_39 hl rfl (by rw [e39] <;> rfl) (by decide) rfl (fun ls hl => ?_)
      refine lv_goto hx hb d_M_clear_42 rfl ?_
      exact hK12 h (lv_sub hl [1, 0] rfl) hP hD hS
set_option maxHeartbeats 4000000 in
set_option maxRecDepth 100000 in
theorem m_M_clear {l : Launch} {D : va_G} {cI cL cZ cS : ClassId} {ad : Nat → Nat} {wr : va_W} {sz : Nat} {Q : Mem → Prop} {x1 : Int32} {x2 : Int32} {σ : Mem} (h : wp_M_clear Q x1 x2 σ) : Met l y_M_clear (Cond.code y_M_clear c_M_clear 4 none :: TB) rm_M_clear (wPc D cls (tyl cI cL cZ cS) 12 (fM cI cL cZ ad) ad wr sz σ [.ref (ad 0), .int x1, .int x2]) (va_Qv Q (wB D cls (tyl cI cL cZ cS) 12 (fM cI cL cZ ad) ad wr (wA 12 (fM cI cL cZ ad) ad wr sz σ)) (wA 12 (fM cI cL cZ ad) ad wr sz σ)) 0 0 (wA 12 (fM cI cL cZ ad) ad wr sz σ) := by
  refine Met.ofW (cc := c_M_clear) (maxL := 4) (ret := none) (by decide) rfl ?_
  intro p e s m args below meth c s₁ B hml hv
  obtain ⟨rfl, hsz, hP, hK, hD0, hN⟩ := hv
  subst hsz
  have hD : va_D (wA 12 (fM cI cL cZ ad) ad wr s.heap.size σ) (wW 12 (fM cI cL cZ ad) ad σ ++ wr) := hD0.self (sz := s.heap.size)
  have hA : ∀ q : Nat, s.heap.size ≤ q → (wA 12 (fM cI cL cZ ad) ad wr s.heap.size σ) q := fun q h => Or.inr h
  have hN : NX (wA 12 (fM cI cL cZ ad) ad wr s.heap.size σ) s s.heap := hN
  generalize (wA 12 (fM cI cL cZ ad) ad wr s.heap.size σ) = A at hD hA hN ⊢
  have C : wC TB "PreferenceCountModel" c_M_clear 4 none D cls (tyl cI cL cZ cS) A p s m ([.ref (ad 0), .int x1, .int x2].toArray) meth c := ⟨B.exec, B.bytes, B.returns, B.notSynchronized, fun w hw => atoms_spec (ws := Cond.code y_M_clear c_M_clear 4 none :: TB) B.pre w (List.mem_cons_of_mem _ hw), findClass_of_methodNamed B.named, hml, hK, hN, hA⟩
  have hx := C.1
  have hb := C.2.1
  have hts := C.2.2.2.2.1
  have hown := C.2.2.2.2.2.1
  have hS : va_S A s.heap s.heap [] := va_S.rf
  have hl := lv_entry ([.ref (ad 0), .int x1, .int x2]) (n := 4) (Nat.le_of_ble_eq_true rfl)
  rw [lg_entry_eq]
  generalize (lg_sl ([.ref (ad 0), .int x1, .int x2]) ++ List.replicate (4 - (lg_sl ([.ref (ad 0), .int x1, .int x2])).length) Slot.unset).toArray = ls at hl ⊢
  have hl : lv_has ls 4 [(0, .ref (ad 0)), (1, .int x1), (2, .int x2)] := hl
  have h : ∀ σ2 : Mem, σ2 = mI σ 0 1 x1 → (∀ σ7 : Mem, σ7 = mI σ2 0 2 x2 → (∃ k12 : Nat, wp_M_clear_12 Q k12 (0 : Int32) σ7)) := h
  refine lv_aload_n hx hb d_M_clear_0 rfl (lv_at hl 0 rfl) ?_
  refine lv_iload_n hx hb d_M_clear_1 rfl (lv_at hl 1 rfl) ?_
  refine r_putI (ty := .int) C ku_M ft_M fo_M fn_M hP hD hS (by decide) rfl rfl 1 (by decide) kw_510 rfl (by decide +kernel) rfl rfl (Nat.le_of_ble_eq_true rfl) d_M_clear_2 rfl (fun σ2 e2 H locs hP hD hS => ?_)
  have h := h σ2 e2
  refine lv_aload_n hx hb d_M_clear_5 rfl (lv_at hl 0 rfl) ?_
  refine lv_iload_n hx hb d_M_clear_6 rfl (lv_at hl 2 rfl) ?_
  refine r_putI (ty := .int) C ku_M ft_M fo_M fn_M hP hD hS (by decide) rfl rfl 2 (by decide) kw_511 rfl (by decide +kernel) rfl rfl (Nat.le_of_ble_eq_true rfl) d_M_clear_7 rfl (fun σ7 e7 H locs hP hD hS => ?_)
  have h := h σ7 e7
  refine lv_iconst (v := 0) hx hb d_M_clear_10 (by decide) ?_
  refine lv_istore_n (lv' := [(3, .int (0 : Int32)), (0, .ref (ad 0)), (1, .int x1), (2, .int x2)]) hx hb d_M_clear_11 rfl hl (by decide) rfl (fun ls hl => ?_)
  obtain ⟨n, h⟩ := h
  exact b_M_clear_12 C n h (lv_sub hl [1, 0] rfl) hP hD hS
def rm_M_says : Room := { frames := 0, cells := 0, slots := 0, locals := 0 }
set_option maxHeartbeats 4000000 in
set_option maxRecDepth 100000 in
theorem b_M_says_14 {p : Program} {l : Launch} {e : Env} {s : State} {m : MethodId} {args : Array Value} {below : List Frame} {meth : Method} {c : Code} {D : va_G} {cI cL cZ cS : ClassId} {ad : Nat → Nat} {wr : va_W} {A : Nat → Prop} {Q : Int32 → Mem → Prop} {t0 : Int32} {σ : Mem} {H : Heap} {locs : List Loc} {ls : Array Slot} (C : wC TB "PreferenceCountModel" c_M_says 2 (some .boolean) D cls (tyl cI cL cZ cS) A p s m args meth c) (h : wp_M_says_14 Q t0 σ) (hl : lv_has ls 2 []) (hP : va_P D cls (wW 12 (fM cI cL cZ ad) ad σ ++ wr) H) (hD : va_D A (wW 12 (fM cI cL cZ ad) ad σ ++ wr)) (hS : va_S A s.heap H locs) : W p l e (headSpec (Cond.code y_M_says c_M_says 2 (some .boolean) :: TB) rm_M_says).room s m args below meth c H locs 0 0 (MQ below (va_Qi Q (wB D cls (tyl cI cL cZ cS) 12 (fM cI cL cZ ad) ad wr A) A) args s 0 0 A) (F0 m 14 ls [.int t0]) := by
  have hx := C.1
  have hb := C.2.1
  have hts := C.2.2.2.2.1
  have hown := C.2.2.2.2.2.1
  have hml := C.2.2.2.2.2.2.1
  have h : (t0 = 0 ∨ t0 = 1) ∧ Q t0 σ := h
  obtain ⟨hb14, h⟩ := h
  exact r_zret C hb14 hP hD hS d_M_says_14 h
set_option maxHeartbeats 4000000 in
set_option maxRecDepth 100000 in
theorem m_M_says {l : Launch} {D : va_G} {cI cL cZ cS : ClassId} {ad : Nat → Nat} {wr : va_W} {sz : Nat} {Q : Int32 → Mem → Prop} {x1 : Int32} {σ : Mem} (h : wp_M_says Q x1 σ) : Met l y_M_says (Cond.code y_M_says c_M_says 2 (some .boolean) :: TB) rm_M_says (wPc D cls (tyl cI cL cZ cS) 12 (fM cI cL cZ ad) ad wr sz σ [.ref (ad 0), .int x1]) (va_Qi Q (wB D cls (tyl cI cL cZ cS) 12 (fM cI cL cZ ad) ad wr (wA 12 (fM cI cL cZ ad) ad wr sz σ)) (wA 12 (fM cI cL cZ ad) ad wr sz σ)) 0 0 (wA 12 (fM cI cL cZ ad) ad wr sz σ) := by
  refine Met.ofW (cc := c_M_says) (maxL := 2) (ret := (some .boolean)) (by decide) rfl ?_
  intro p e s m args below meth c s₁ B hml hv
  obtain ⟨rfl, hsz, hP, hK, hD0, hN⟩ := hv
  subst hsz
  have hD : va_D (wA 12 (fM cI cL cZ ad) ad wr s.heap.size σ) (wW 12 (fM cI cL cZ ad) ad σ ++ wr) := hD0.self (sz := s.heap.size)
  have hA : ∀ q : Nat, s.heap.size ≤ q → (wA 12 (fM cI cL cZ ad) ad wr s.heap.size σ) q := fun q h => Or.inr h
  have hN : NX (wA 12 (fM cI cL cZ ad) ad wr s.heap.size σ) s s.heap := hN
  generalize (wA 12 (fM cI cL cZ ad) ad wr s.heap.size σ) = A at hD hA hN ⊢
  have C : wC TB "PreferenceCountModel" c_M_says 2 (some .boolean) D cls (tyl cI cL cZ cS) A p s m ([.ref (ad 0), .int x1].toArray) meth c := ⟨B.exec, B.bytes, B.returns, B.notSynchronized, fun w hw => atoms_spec (ws := Cond.code y_M_says c_M_says 2 (some .boolean) :: TB) B.pre w (List.mem_cons_of_mem _ hw), findClass_of_methodNamed B.named, hml, hK, hN, hA⟩
  have hx := C.1
  have hb := C.2.1
  have hts := C.2.2.2.2.1
  have hown := C.2.2.2.2.2.1
  have hS : va_S A s.heap s.heap [] := va_S.rf
  have hl := lv_entry ([.ref (ad 0), .int x1]) (n := 2) (Nat.le_of_ble_eq_true rfl)
  rw [lg_entry_eq]
  generalize (lg_sl ([.ref (ad 0), .int x1]) ++ List.replicate (2 - (lg_sl ([.ref (ad 0), .int x1])).length) Slot.unset).toArray = ls at hl ⊢
  have hl : lv_has ls 2 [(0, .ref (ad 0)), (1, .int x1)] := hl
  have h : ∀ σ2 : Mem, σ2 = mI σ 0 0 x1 → ((x1 = 0 → (wp_M_says_14 Q (1 : Int32) σ2)) ∧ (¬ x1 = 0 → (wp_M_says_14 Q (0 : Int32) σ2))) := h
  refine lv_aload_n hx hb d_M_says_0 rfl (lv_at hl 0 rfl) ?_
  refine lv_iload_n hx hb d_M_says_1 rfl (lv_at hl 1 rfl) ?_
  refine r_putI (ty := .int) C ku_M ft_M fo_M fn_M hP hD hS (by decide) rfl rfl 0 (by decide) kw_509 rfl (by decide +kernel) rfl rfl (Nat.le_of_ble_eq_true rfl) d_M_says_2 rfl (fun σ2 e2 H locs hP hD hS => ?_)
  have h := h σ2 e2
  refine lv_iload_n hx hb d_M_says_5 rfl (lv_at hl 1 rfl) ?_
  refine lv_if_ne hx hb d_M_says_6 rfl (fun hc6 => ?_) (fun hc6 => ?_)
  · have h := h.2 hc6
    refine lv_iconst (v := 0) hx hb d_M_says_13 (by decide) ?_
    exact b_M_says_14 C h (lv_sub hl [] rfl) hP hD hS
  · have h := h.1 hc6
    refine lv_iconst (v := 1) hx hb d_M_says_9 (by decide) ?_
    refine lv_goto hx hb d_M_says_10 rfl ?_
    exact b_M_says_14 C h (lv_sub hl [] rfl) hP hD hS
def rm_M_isCandidate : Room := { frames := 0, cells := 0, slots := 0, locals := 0 }
set_option maxHeartbeats 4000000 in
set_option maxRecDepth 100000 in
theorem b_M_isCandidate_17 {p : Program} {l : Launch} {e : Env} {s : State} {m : MethodId} {args : Array Value} {below : List Frame} {meth : Method} {c : Code} {D : va_G} {cI cL cZ cS : ClassId} {ad : Nat → Nat} {wr : va_W} {A : Nat → Prop} {Q : Int32 → Mem → Prop} {t0 : Int32} {σ : Mem} {H : Heap} {locs : List Loc} {ls : Array Slot} (C : wC TB "PreferenceCountModel" c_M_isCandidate 2 (some .boolean) D cls (tyl cI cL cZ cS) A p s m args meth c) (h : wp_M_isCandidate_17 Q t0 σ) (hl : lv_has ls 2 []) (hP : va_P D cls (wW 12 (fM cI cL cZ ad) ad σ ++ wr) H) (hD : va_D A (wW 12 (fM cI cL cZ ad) ad σ ++ wr)) (hS : va_S A s.heap H locs) : W p l e (headSpec (Cond.code y_M_isCandidate c_M_isCandidate 2 (some .boolean) :: TB) rm_M_isCandidate).room s m args below meth c H locs 0 0 (MQ below (va_Qi Q (wB D cls (tyl cI cL cZ cS) 12 (fM cI cL cZ ad) ad wr A) A) args s 0 0 A) (F0 m 17 ls [.int t0]) := by
  have hx := C.1
  have hb := C.2.1
  have hts := C.2.2.2.2.1
  have hown := C.2.2.2.2.2.1
  have hml := C.2.2.2.2.2.2.1
  have h : (t0 = 0 ∨ t0 = 1) ∧ Q t0 σ := h
  obtain ⟨hb17, h⟩ := h
  exact r_zret C hb17 hP hD hS d_M_isCandidate_17 h
set_option maxHeartbeats 4000000 in
set_option maxRecDepth 100000 in
theorem b_M_isCandidate_16 {p : Program} {l : Launch} {e : Env} {s : State} {m : MethodId} {args : Array Value} {below : List Frame} {meth : Method} {c : Code} {D : va_G} {cI cL cZ cS : ClassId} {ad : Nat → Nat} {wr : va_W} {A : Nat → Prop} {Q : Int32 → Mem → Prop} {σ : Mem} {H : Heap} {locs : List Loc} {ls : Array Slot} (C : wC TB "PreferenceCountModel" c_M_isCandidate 2 (some .boolean) D cls (tyl cI cL cZ cS) A p s m args meth c) (h : wp_M_isCandidate_16 Q σ) (hl : lv_has ls 2 []) (hP : va_P D cls (wW 12 (fM cI cL cZ ad) ad σ ++ wr) H) (hD : va_D A (wW 12 (fM cI cL cZ ad) ad σ ++ wr)) (hS : va_S A s.heap H locs) : W p l e (headSpec (Cond.code y_M_isCandidate c_M_isCandidate 2 (some .boolean) :: TB) rm_M_isCandidate).room s m args below meth c H locs 0 0 (MQ below (va_Qi Q (wB D cls (tyl cI cL cZ cS) 12 (fM cI cL cZ ad) ad wr A) A) args s 0 0 A) (F0 m 16 ls []) := by
  have hx := C.1
  have hb := C.2.1
  have hts := C.2.2.2.2.1
  have hown := C.2.2.2.2.2.1
  have hml := C.2.2.2.2.2.2.1
  have h : wp_M_isCandidate_17 Q (0 : Int32) σ := h
  refine lv_iconst (v := 0) hx hb d_M_isCandidate_16 (by decide) ?_
  exact b_M_isCandidate_17 C h (lv_sub hl [] rfl) hP hD hS
set_option maxHeartbeats 4000000 in
set_option maxRecDepth 100000 in
theorem m_M_isCandidate {l : Launch} {D : va_G} {cI cL cZ cS : ClassId} {ad : Nat → Nat} {wr : va_W} {sz : Nat} {Q : Int32 → Mem → Prop} {x1 : Int32} {σ : Mem} (h : wp_M_isCandidate Q x1 σ) : Met l y_M_isCandidate (Cond.code y_M_isCandidate c_M_isCandidate 2 (some .boolean) :: TB) rm_M_isCandidate (wPc D cls (tyl cI cL cZ cS) 12 (fM cI cL cZ ad) ad wr sz σ [.ref (ad 0), .int x1]) (va_Qi Q (wB D cls (tyl cI cL cZ cS) 12 (fM cI cL cZ ad) ad wr (wA 12 (fM cI cL cZ ad) ad wr sz σ)) (wA 12 (fM cI cL cZ ad) ad wr sz σ)) 0 0 (wA 12 (fM cI cL cZ ad) ad wr sz σ) := by
  refine Met.ofW (cc := c_M_isCandidate) (maxL := 2) (ret := (some .boolean)) (by decide) rfl ?_
  intro p e s m args below meth c s₁ B hml hv
  obtain ⟨rfl, hsz, hP, hK, hD0, hN⟩ := hv
  subst hsz
  have hD : va_D (wA 12 (fM cI cL cZ ad) ad wr s.heap.size σ) (wW 12 (fM cI cL cZ ad) ad σ ++ wr) := hD0.self (sz := s.heap.size)
  have hA : ∀ q : Nat, s.heap.size ≤ q → (wA 12 (fM cI cL cZ ad) ad wr s.heap.size σ) q := fun q h => Or.inr h
  have hN : NX (wA 12 (fM cI cL cZ ad) ad wr s.heap.size σ) s s.heap := hN
  generalize (wA 12 (fM cI cL cZ ad) ad wr s.heap.size σ) = A at hD hA hN ⊢
  have C : wC TB "PreferenceCountModel" c_M_isCandidate 2 (some .boolean) D cls (tyl cI cL cZ cS) A p s m ([.ref (ad 0), .int x1].toArray) meth c := ⟨B.exec, B.bytes, B.returns, B.notSynchronized, fun w hw => atoms_spec (ws := Cond.code y_M_isCandidate c_M_isCandidate 2 (some .boolean) :: TB) B.pre w (List.mem_cons_of_mem _ hw), findClass_of_methodNamed B.named, hml, hK, hN, hA⟩
  have hx := C.1
  have hb := C.2.1
  have hts := C.2.2.2.2.1
  have hown := C.2.2.2.2.2.1
  have hS : va_S A s.heap s.heap [] := va_S.rf
  have hl := lv_entry ([.ref (ad 0), .int x1]) (n := 2) (Nat.le_of_ble_eq_true rfl)
  rw [lg_entry_eq]
  generalize (lg_sl ([.ref (ad 0), .int x1]) ++ List.replicate (2 - (lg_sl ([.ref (ad 0), .int x1])).length) Slot.unset).toArray = ls at hl ⊢
  have hl : lv_has ls 2 [(0, .ref (ad 0)), (1, .int x1)] := hl
  have h : (x1 < 0 → (wp_M_isCandidate_16 Q σ)) ∧ (¬ x1 < 0 → (((σ.1 0 1) ≤ x1 → (wp_M_isCandidate_16 Q σ)) ∧ (¬ (σ.1 0 1) ≤ x1 → (wp_M_isCandidate_17 Q (1 : Int32) σ)))) := h
  refine lv_iload_n hx hb d_M_isCandidate_0 rfl (lv_at hl 1 rfl) ?_
  refine lv_if_lt hx hb d_M_isCandidate_1 rfl (fun hc1 => ?_) (fun hc1 => ?_)
  · have h := h.1 hc1
    exact b_M_isCandidate_16 C h (lv_sub hl [] rfl) hP hD hS
  · have h := h.2 hc1
    refine lv_iload_n hx hb d_M_isCandidate_4 rfl (lv_at hl 1 rfl) ?_
    refine lv_aload_n hx hb d_M_isCandidate_5 rfl (lv_at hl 0 rfl) ?_
    refine r_get C ku_M hP (by decide) rfl rfl 1 (by decide) kw_510 rfl d_M_isCandidate_6 ?_
    refine lv_icmp_ge hx hb d_M_isCandidate_9 rfl (fun hc9 => ?_) (fun hc9 => ?_)
    · have h := h.1 hc9
      exact b_M_isCandidate_16 C h (lv_sub hl [] rfl) hP hD hS
    · have h := h.2 hc9
      refine lv_iconst (v := 1) hx hb d_M_isCandidate_12 (by decide) ?_
      refine lv_goto hx hb d_M_isCandidate_13 rfl ?_
      exact b_M_isCandidate_17 C h (lv_sub hl [] rfl) hP hD hS
def rm_M_begin : Room := { frames := 1, cells := 0, slots := 0, locals := 23 }
set_option maxHeartbeats 4000000 in
set_option maxRecDepth 100000 in
theorem b_M_begin_44 {p : Program} {l : Launch} {e : Env} {s : State} {m : MethodId} {args : Array Value} {below : List Frame} {meth : Method} {c : Code} {D : va_G} {cI cL cZ cS : ClassId} {ad : Nat → Nat} {wr : va_W} {A : Nat → Prop} {Q : Mem → Prop} {σ : Mem} {H : Heap} {locs : List Loc} {ls : Array Slot} (C : wC TB "PreferenceCountModel" c_M_begin 3 none D cls (tyl cI cL cZ cS) A p s m args meth c) (h : wp_M_begin_44 Q σ) (hl : lv_has ls 3 []) (hP : va_P D cls (wW 12 (fM cI cL cZ ad) ad σ ++ wr) H) (hD : va_D A (wW 12 (fM cI cL cZ ad) ad σ ++ wr)) (hS : va_S A s.heap H locs) : W p l e (headSpec (Cond.code y_M_begin c_M_begin 3 none :: TB) rm_M_begin).room s m args below meth c H locs 0 0 (MQ below (va_Qv Q (wB D cls (tyl cI cL cZ cS) 12 (fM cI cL cZ ad) ad wr A) A) args s 0 0 A) (F0 m 44 ls []) := by
  have hx := C.1
  have hb := C.2.1
  have hts := C.2.2.2.2.1
  have hown := C.2.2.2.2.2.1
  have hml := C.2.2.2.2.2.2.1
  have h : Q σ := h
  exact r_vret C hP hD hS d_M_begin_44 h
set_option maxHeartbeats 4000000 in
set_option maxRecDepth 100000 in
theorem b_M_begin_32 {p : Program} {l : Launch} {e : Env} {s : State} {m : MethodId} {args : Array Value} {below : List Frame} {meth : Method} {c : Code} {D : va_G} {cI cL cZ cS : ClassId} {ad : Nat → Nat} {wr : va_W} {A : Nat → Prop} {Q : Mem → Prop} {x1 : Int32} {x2 : Int32} {t0 : Int32} {σ : Mem} {H : Heap} {locs : List Loc} {ls : Array Slot} (C : wC TB "PreferenceCountModel" c_M_begin 3 none D cls (tyl cI cL cZ cS) A p s m args meth c) (h : wp_M_begin_32 Q x1 x2 t0 σ) (hl : lv_has ls 3 [(0, .ref (ad 0)), (1, .int x1), (2, .int x2)]) (hP : va_P D cls (wW 12 (fM cI cL cZ ad) ad σ ++ wr) H) (hD : va_D A (wW 12 (fM cI cL cZ ad) ad σ ++ wr)) (hS : va_S A s.heap H locs) : W p l e (headSpec (Cond.code y_M_begin c_M_begin 3 none :: TB) rm_M_begin).room s m args below meth c H locs 0 0 (MQ below (va_Qv Q (wB D cls (tyl cI cL cZ cS) 12 (fM cI cL cZ ad) ad wr A) A) args s 0 0 A) (F0 m 32 ls [.int t0, .ref (ad 0)]) := by
  have hx := C.1
  have hb := C.2.1
  have hts := C.2.2.2.2.1
  have hown := C.2.2.2.2.2.1
  have hml := C.2.2.2.2.2.2.1
  have h : wp_M_says (fun r32 σ32 => (r32 = 0 → (wp_M_begin_44 Q σ32)) ∧ (¬ r32 = 0 → (wp_M_clear (fun σ41 => wp_M_begin_44 Q σ41) x1 x2 σ32))) t0 σ := h
  refine r_calli C hD hS (va_runV (As := [.int t0]) (rest := []) ⟨hx, hb, hml, hown, hts⟩ (m_M_says h) (cwV 1 hts (g_V kw_579 kw_581 kp_19 kw_7 kw_582) rfl rfl rfl (by decide +kernel) ⟨Nat.le_of_ble_eq_true rfl, Nat.le_of_ble_eq_true rfl⟩) (r_preV (o := 0) C hP hD hS (by decide) rfl rfl) rfl rfl hl.1 rfl (lv_room (Nat.le_of_ble_eq_true rfl)) d_M_begin_32 ⟨Nat.le_of_ble_eq_true rfl, Nat.le_of_ble_eq_true rfl⟩) (fun r32 σ32 H locs h hP hD hS => ?_)
  refine lv_if_eq hx hb d_M_begin_35 rfl (fun hc35 => ?_) (fun hc35 => ?_)
  · have h := h.1 hc35
    exact b_M_begin_44 C h (lv_sub hl [] rfl) hP hD hS
  · have h := h.2 hc35
    refine lv_aload_n hx hb d_M_begin_38 rfl (lv_at hl 0 rfl) ?_
    refine lv_iload_n hx hb d_M_begin_39 rfl (lv_at hl 1 rfl) ?_
    refine lv_iload_n hx hb d_M_begin_40 rfl (lv_at hl 2 rfl) ?_
    refine r_callv C hD hS (va_runV (As := [.int x1, .int x2]) (rest := []) ⟨hx, hb, hml, hown, hts⟩ (m_M_clear h) (cwV 2 hts (g_V kw_505 kw_507 kp_18 kw_7 kw_508) rfl rfl rfl (by decide +kernel) ⟨Nat.le_of_ble_eq_true rfl, Nat.le_of_ble_eq_true rfl⟩) (r_preV (o := 0) C hP hD hS (by decide) rfl rfl) rfl rfl hl.1 rfl (lv_room (Nat.le_of_ble_eq_true rfl)) d_M_begin_41 ⟨Nat.le_of_ble_eq_true rfl, Nat.le_of_ble_eq_true rfl⟩) (fun σ41 H locs h hP hD hS => ?_)
    exact b_M_begin_44 C h (lv_sub hl [] rfl) hP hD hS
set_option maxHeartbeats 4000000 in
set_option maxRecDepth 100000 in
theorem b_M_begin_31 {p : Program} {l : Launch} {e : Env} {s : State} {m : MethodId} {args : Array Value} {below : List Frame} {meth : Method} {c : Code} {D : va_G} {cI cL cZ cS : ClassId} {ad : Nat → Nat} {wr : va_W} {A : Nat → Prop} {Q : Mem → Prop} {x1 : Int32} {x2 : Int32} {σ : Mem} {H : Heap} {locs : List Loc} {ls : Array Slot} (C : wC TB "PreferenceCountModel" c_M_begin 3 none D cls (tyl cI cL cZ cS) A p s m args meth c) (h : wp_M_begin_31 Q x1 x2 σ) (hl : lv_has ls 3 [(0, .ref (ad 0)), (1, .int x1), (2, .int x2)]) (hP : va_P D cls (wW 12 (fM cI cL cZ ad) ad σ ++ wr) H) (hD : va_D A (wW 12 (fM cI cL cZ ad) ad σ ++ wr)) (hS : va_S A s.heap H locs) : W p l e (headSpec (Cond.code y_M_begin c_M_begin 3 none :: TB) rm_M_begin).room s m args below meth c H locs 0 0 (MQ below (va_Qv Q (wB D cls (tyl cI cL cZ cS) 12 (fM cI cL cZ ad) ad wr A) A) args s 0 0 A) (F0 m 31 ls [.ref (ad 0)]) := by
  have hx := C.1
  have hb := C.2.1
  have hts := C.2.2.2.2.1
  have hown := C.2.2.2.2.2.1
  have hml := C.2.2.2.2.2.2.1
  have h : wp_M_begin_32 Q x1 x2 (1 : Int32) σ := h
  refine lv_iconst (v := 1) hx hb d_M_begin_31 (by decide) ?_
  exact b_M_begin_32 C h (lv_sub hl [0, 1, 2] rfl) hP hD hS
set_option maxHeartbeats 4000000 in
set_option maxRecDepth 100000 in
theorem m_M_begin {l : Launch} {D : va_G} {cI cL cZ cS : ClassId} {ad : Nat → Nat} {wr : va_W} {sz : Nat} {Q : Mem → Prop} {x1 : Int32} {x2 : Int32} {σ : Mem} (h : wp_M_begin Q x1 x2 σ) : Met l y_M_begin (Cond.code y_M_begin c_M_begin 3 none :: TB) rm_M_begin (wPc D cls (tyl cI cL cZ cS) 12 (fM cI cL cZ ad) ad wr sz σ [.ref (ad 0), .int x1, .int x2]) (va_Qv Q (wB D cls (tyl cI cL cZ cS) 12 (fM cI cL cZ ad) ad wr (wA 12 (fM cI cL cZ ad) ad wr sz σ)) (wA 12 (fM cI cL cZ ad) ad wr sz σ)) 0 0 (wA 12 (fM cI cL cZ ad) ad wr sz σ) := by
  refine Met.ofW (cc := c_M_begin) (maxL := 3) (ret := none) (by decide) rfl ?_
  intro p e s m args below meth c s₁ B hml hv
  obtain ⟨rfl, hsz, hP, hK, hD0, hN⟩ := hv
  subst hsz
  have hD : va_D (wA 12 (fM cI cL cZ ad) ad wr s.heap.size σ) (wW 12 (fM cI cL cZ ad) ad σ ++ wr) := hD0.self (sz := s.heap.size)
  have hA : ∀ q : Nat, s.heap.size ≤ q → (wA 12 (fM cI cL cZ ad) ad wr s.heap.size σ) q := fun q h => Or.inr h
  have hN : NX (wA 12 (fM cI cL cZ ad) ad wr s.heap.size σ) s s.heap := hN
  generalize (wA 12 (fM cI cL cZ ad) ad wr s.heap.size σ) = A at hD hA hN ⊢
  have C : wC TB "PreferenceCountModel" c_M_begin 3 none D cls (tyl cI cL cZ cS) A p s m ([.ref (ad 0), .int x1, .int x2].toArray) meth c := ⟨B.exec, B.bytes, B.returns, B.notSynchronized, fun w hw => atoms_spec (ws := Cond.code y_M_begin c_M_begin 3 none :: TB) B.pre w (List.mem_cons_of_mem _ hw), findClass_of_methodNamed B.named, hml, hK, hN, hA⟩
  have hx := C.1
  have hb := C.2.1
  have hts := C.2.2.2.2.1
  have hown := C.2.2.2.2.2.1
  have hS : va_S A s.heap s.heap [] := va_S.rf
  have hl := lv_entry ([.ref (ad 0), .int x1, .int x2]) (n := 3) (Nat.le_of_ble_eq_true rfl)
  rw [lg_entry_eq]
  generalize (lg_sl ([.ref (ad 0), .int x1, .int x2]) ++ List.replicate (3 - (lg_sl ([.ref (ad 0), .int x1, .int x2])).length) Slot.unset).toArray = ls at hl ⊢
  have hl : lv_has ls 3 [(0, .ref (ad 0)), (1, .int x1), (2, .int x2)] := hl
  have h : (x1 < (2 : Int32) → (wp_M_begin_31 Q x1 x2 σ)) ∧ (¬ x1 < (2 : Int32) → (((12 : Int32) < x1 → (wp_M_begin_31 Q x1 x2 σ)) ∧ (¬ (12 : Int32) < x1 → ((x2 < (1 : Int32) → (wp_M_begin_31 Q x1 x2 σ)) ∧ (¬ x2 < (1 : Int32) → (((4 : Int32) < x2 → (wp_M_begin_31 Q x1 x2 σ)) ∧ (¬ (4 : Int32) < x2 → ((x1 ≤ x2 → (wp_M_begin_31 Q x1 x2 σ)) ∧ (¬ x1 ≤ x2 → (wp_M_begin_32 Q x1 x2 (0 : Int32) σ)))))))))) := h
  refine lv_aload_n hx hb d_M_begin_0 rfl (lv_at hl 0 rfl) ?_
  refine lv_iload_n hx hb d_M_begin_1 rfl (lv_at hl 1 rfl) ?_
  refine lv_iconst (v := 2) hx hb d_M_begin_2 (by decide) ?_
  refine lv_icmp_lt hx hb d_M_begin_3 rfl (fun hc3 => ?_) (fun hc3 => ?_)
  · have h := h.1 hc3
    exact b_M_begin_31 C h (lv_sub hl [0, 1, 2] rfl) hP hD hS
  · have h := h.2 hc3
    refine lv_iload_n hx hb d_M_begin_6 rfl (lv_at hl 1 rfl) ?_
    refine lv_bipush (v := 12) hx hb d_M_begin_7 (by decide) ?_
    refine lv_icmp_gt hx hb d_M_begin_9 rfl (fun hc9 => ?_) (fun hc9 => ?_)
    · have h := h.1 hc9
      exact b_M_begin_31 C h (lv_sub hl [0, 1, 2] rfl) hP hD hS
    · have h := h.2 hc9
      refine lv_iload_n hx hb d_M_begin_12 rfl (lv_at hl 2 rfl) ?_
      refine lv_iconst (v := 1) hx hb d_M_begin_13 (by decide) ?_
      refine lv_icmp_lt hx hb d_M_begin_14 rfl (fun hc14 => ?_) (fun hc14 => ?_)
      · have h := h.1 hc14
        exact b_M_begin_31 C h (lv_sub hl [0, 1, 2] rfl) hP hD hS
      · have h := h.2 hc14
        refine lv_iload_n hx hb d_M_begin_17 rfl (lv_at hl 2 rfl) ?_
        refine lv_iconst (v := 4) hx hb d_M_begin_18 (by decide) ?_
        refine lv_icmp_gt hx hb d_M_begin_19 rfl (fun hc19 => ?_) (fun hc19 => ?_)
        · have h := h.1 hc19
          exact b_M_begin_31 C h (lv_sub hl [0, 1, 2] rfl) hP hD hS
        · have h := h.2 hc19
          refine lv_iload_n hx hb d_M_begin_22 rfl (lv_at hl 2 rfl) ?_
          refine lv_iload_n hx hb d_M_begin_23 rfl (lv_at hl 1 rfl) ?_
          refine lv_icmp_ge hx hb d_M_begin_24 rfl (fun hc24 => ?_) (fun hc24 => ?_)
          · have h := h.1 hc24
            exact b_M_begin_31 C h (lv_sub hl [0, 1, 2] rfl) hP hD hS
          · have h := h.2 hc24
            refine lv_iconst (v := 0) hx hb d_M_begin_27 (by decide) ?_
            refine lv_goto hx hb d_M_begin_28 rfl ?_
            exact b_M_begin_32 C h (lv_sub hl [0, 1, 2] rfl) hP hD hS
def rm_M_draw : Room := { frames := 1, cells := 0, slots := 0, locals := 21 }
set_option maxHeartbeats 4000000 in
set_option maxRecDepth 100000 in
theorem b_M_draw_104 {p : Program} {l : Launch} {e : Env} {s : State} {m : MethodId} {args : Array Value} {below : List Frame} {meth : Method} {c : Code} {D : va_G} {cI cL cZ cS : ClassId} {ad : Nat → Nat} {wr : va_W} {A : Nat → Prop} {Q : Mem → Prop} {σ : Mem} {H : Heap} {locs : List Loc} {ls : Array Slot} (C : wC TB "PreferenceCountModel" c_M_draw 5 none D cls (tyl cI cL cZ cS) A p s m args meth c) (h : wp_M_draw_104 Q σ) (hl : lv_has ls 5 []) (hP : va_P D cls (wW 12 (fM cI cL cZ ad) ad σ ++ wr) H) (hD : va_D A (wW 12 (fM cI cL cZ ad) ad σ ++ wr)) (hS : va_S A s.heap H locs) : W p l e (headSpec (Cond.code y_M_draw c_M_draw 5 none :: TB) rm_M_draw).room s m args below meth c H locs 0 0 (MQ below (va_Qv Q (wB D cls (tyl cI cL cZ cS) 12 (fM cI cL cZ ad) ad wr A) A) args s 0 0 A) (F0 m 104 ls []) := by
  have hx := C.1
  have hb := C.2.1
  have hts := C.2.2.2.2.1
  have hown := C.2.2.2.2.2.1
  have hml := C.2.2.2.2.2.2.1
  have h : Q σ := h
  exact r_vret C hP hD hS d_M_draw_104 h
set_option maxHeartbeats 4000000 in
set_option maxRecDepth 100000 in
theorem b_M_draw_91 {p : Program} {l : Launch} {e : Env} {s : State} {m : MethodId} {args : Array Value} {below : List Frame} {meth : Method} {c : Code} {D : va_G} {cI cL cZ cS : ClassId} {ad : Nat → Nat} {wr : va_W} {A : Nat → Prop} {Q : Mem → Prop} {x1 : Int32} {x2 : Int32} {t0 : Int32} {σ : Mem} {H : Heap} {locs : List Loc} {ls : Array Slot} (C : wC TB "PreferenceCountModel" c_M_draw 5 none D cls (tyl cI cL cZ cS) A p s m args meth c) (h : wp_M_draw_91 Q x1 x2 t0 σ) (hl : lv_has ls 5 [(0, .ref (ad 0)), (1, .int x1), (2, .int x2)]) (hP : va_P D cls (wW 12 (fM cI cL cZ ad) ad σ ++ wr) H) (hD : va_D A (wW 12 (fM cI cL cZ ad) ad σ ++ wr)) (hS : va_S A s.heap H locs) : W p l e (headSpec (Cond.code y_M_draw c_M_draw 5 none :: TB) rm_M_draw).room s m args below meth c H locs 0 0 (MQ below (va_Qv Q (wB D cls (tyl cI cL cZ cS) 12 (fM cI cL cZ ad) ad wr A) A) args s 0 0 A) (F0 m 91 ls [.int t0, .ref (ad 0)]) := by
  have hx := C.1
  have hb := C.2.1
  have hts := C.2.2.2.2.1
  have hown := C.2.2.2.2.2.1
  have hml := C.2.2.2.2.2.2.1
  have h : wp_M_says (fun r91 σ91 => (r91 = 0 → (wp_M_draw_104 Q σ91)) ∧ (¬ r91 = 0 → (vp_in x1 12 ∧ (∀ σ103 : Mem, σ103 = mI σ91 1 (Int32.toNatClampNeg x1) x2 → (wp_M_draw_104 Q σ103))))) t0 σ := h
  refine r_calli C hD hS (va_runV (As := [.int t0]) (rest := []) ⟨hx, hb, hml, hown, hts⟩ (m_M_says h) (cwV 1 hts (g_V kw_579 kw_581 kp_19 kw_7 kw_582) rfl rfl rfl (by decide +kernel) ⟨Nat.le_of_ble_eq_true rfl, Nat.le_of_ble_eq_true rfl⟩) (r_preV (o := 0) C hP hD hS (by decide) rfl rfl) rfl rfl hl.1 rfl (lv_room (Nat.le_of_ble_eq_true rfl)) d_M_draw_91 ⟨Nat.le_of_ble_eq_true rfl, Nat.le_of_ble_eq_true rfl⟩) (fun r91 σ91 H locs h hP hD hS => ?_)
  refine lv_if_eq hx hb d_M_draw_94 rfl (fun hc94 => ?_) (fun hc94 => ?_)
  · have h := h.1 hc94
    exact b_M_draw_104 C h (lv_sub hl [] rfl) hP hD hS
  · have h := h.2 hc94
    refine lv_aload_n hx hb d_M_draw_97 rfl (lv_at hl 0 rfl) ?_
    refine r_get C ku_M hP (by decide) rfl rfl 3 (by decide) kw_512 rfl d_M_draw_98 ?_
    refine lv_iload_n hx hb d_M_draw_101 rfl (lv_at hl 1 rfl) ?_
    refine lv_iload_n hx hb d_M_draw_102 rfl (lv_at hl 2 rfl) ?_
    obtain ⟨hi103, h⟩ := h
    refine r_iast C hP hD hS (by decide) (fun _ _ => rfl) rfl hi103 d_M_draw_103 (fun σ103 e103 H locs hP hD hS => ?_)
    have h := h σ103 e103
    exact b_M_draw_104 C h (lv_sub hl [] rfl) hP hD hS
set_option maxHeartbeats 4000000 in
set_option maxRecDepth 100000 in
theorem b_M_draw_63 {p : Program} {l : Launch} {e : Env} {s : State} {m : MethodId} {args : Array Value} {below : List Frame} {meth : Method} {c : Code} {D : va_G} {cI cL cZ cS : ClassId} {ad : Nat → Nat} {wr : va_W} {A : Nat → Prop} {Q : Mem → Prop} {K28 : Int32 → Int32 → Int32 → Int32 → Mem → Prop} {x1 : Int32} {x2 : Int32} {x4 : Int32} {t0 : Int32} {σ : Mem} {H : Heap} {locs : List Loc} {ls : Array Slot} (C : wC TB "PreferenceCountModel" c_M_draw 5 none D cls (tyl cI cL cZ cS) A p s m args meth c) (hK28 : ∀ {σ : Mem} {H : Heap} {locs : List Loc} {ls : Array Slot} {x1 : Int32} {x2 : Int32} {x3 : Int32} {x4 : Int32}, K28 x1 x2 x3 x4 σ → lv_has ls 5 [(0, .ref (ad 0)), (1, .int x1), (2, .int x2), (3, .int x3), (4, .int x4)] → va_P D cls (wW 12 (fM cI cL cZ ad) ad σ ++ wr) H → va_D A (wW 12 (fM cI cL cZ ad) ad σ ++ wr) → va_S A s.heap H locs → W p l e (headSpec (Cond.code y_M_draw c_M_draw 5 none :: TB) rm_M_draw).room s m args below meth c H locs 0 0 (MQ below (va_Qv Q (wB D cls (tyl cI cL cZ cS) 12 (fM cI cL cZ ad) ad wr A) A) args s 0 0 A) (F0 m 28 ls [])) (h : wp_M_draw_63 Q K28 x1 x2 x4 t0 σ) (hl : lv_has ls 5 [(0, .ref (ad 0)), (1, .int x1), (2, .int x2), (4, .int x4)]) (hP : va_P D cls (wW 12 (fM cI cL cZ ad) ad σ ++ wr) H) (hD : va_D A (wW 12 (fM cI cL cZ ad) ad σ ++ wr)) (hS : va_S A s.heap H locs) : W p l e (headSpec (Cond.code y_M_draw c_M_draw 5 none :: TB) rm_M_draw).room s m args below meth c H locs 0 0 (MQ below (va_Qv Q (wB D cls (tyl cI cL cZ cS) 12 (fM cI cL cZ ad) ad wr A) A) args s 0 0 A) (F0 m 63 ls [.int t0]) := by
  have hx := C.1
  have hb := C.2.1
  have hts := C.2.2.2.2.1
  have hown := C.2.2.2.2.2.1
  have hml := C.2.2.2.2.2.2.1
  have h : ∀ v64 : Int32, v64 = (x4 + 1) → (K28 x1 x2 t0 v64 σ) := h
  refine lv_istore_n (lv' := [(3, .int t0), (0, .ref (ad 0)), (1, .int x1), (2, .int x2), (4, .int x4)]) hx hb d_M_draw_63 rfl hl (by decide) rfl (fun ls hl => ?_)
  obtain ⟨v64, e64⟩ : ∃ z : Int32, z = (x4 + 1) := ⟨_, rfl⟩
  have h := h v64 e64
  refine lv_iinc (k := 4) (v := v64) (lv' := [(4, .int v64), (3, .int t0), (0, .ref (ad 0)), (1, .int x1), (2, .int x2)]) hx hb d_M_draw_64 hl rfl (by rw [e64] <;> rfl) (by decide) rfl (fun ls hl => ?_)
  refine lv_goto hx hb d_M_draw_67 rfl ?_
  exact hK28 h (lv_sub hl [2, 3, 4, 1, 0] rfl) hP hD hS
set_option maxHeartbeats 4000000 in
set_option maxRecDepth 100000 in
theorem b_M_draw_62 {p : Program} {l : Launch} {e : Env} {s : State} {m : MethodId} {args : Array Value} {below : List Frame} {meth : Method} {c : Code} {D : va_G} {cI cL cZ cS : ClassId} {ad : Nat → Nat} {wr : va_W} {A : Nat → Prop} {Q : Mem → Prop} {K28 : Int32 → Int32 → Int32 → Int32 → Mem → Prop} {x1 : Int32} {x2 : Int32} {x4 : Int32} {σ : Mem} {H : Heap} {locs : List Loc} {ls : Array Slot} (C : wC TB "PreferenceCountModel" c_M_draw 5 none D cls (tyl cI cL cZ cS) A p s m args meth c) (hK28 : ∀ {σ : Mem} {H : Heap} {locs : List Loc} {ls : Array Slot} {x1 : Int32} {x2 : Int32} {x3 : Int32} {x4 : Int32}, K28 x1 x2 x3 x4 σ → lv_has ls 5 [(0, .ref (ad 0)), (1, .int x1), (2, .int x2), (3, .int x3), (4, .int x4)] → va_P D cls (wW 12 (fM cI cL cZ ad) ad σ ++ wr) H → va_D A (wW 12 (fM cI cL cZ ad) ad σ ++ wr) → va_S A s.heap H locs → W p l e (headSpec (Cond.code y_M_draw c_M_draw 5 none :: TB) rm_M_draw).room s m args below meth c H locs 0 0 (MQ below (va_Qv Q (wB D cls (tyl cI cL cZ cS) 12 (fM cI cL cZ ad) ad wr A) A) args s 0 0 A) (F0 m 28 ls [])) (h : wp_M_draw_62 Q K28 x1 x2 x4 σ) (hl : lv_has ls 5 [(0, .ref (ad 0)), (1, .int x1), (2, .int x2), (4, .int x4)]) (hP : va_P D cls (wW 12 (fM cI cL cZ ad) ad σ ++ wr) H) (hD : va_D A (wW 12 (fM cI cL cZ ad) ad σ ++ wr)) (hS : va_S A s.heap H locs) : W p l e (headSpec (Cond.code y_M_draw c_M_draw 5 none :: TB) rm_M_draw).room s m args below meth c H locs 0 0 (MQ below (va_Qv Q (wB D cls (tyl cI cL cZ cS) 12 (fM cI cL cZ ad) ad wr A) A) args s 0 0 A) (F0 m 62 ls []) := by
  have hx := C.1
  have hb := C.2.1
  have hts := C.2.2.2.2.1
  have hown := C.2.2.2.2.2.1
  have hml := C.2.2.2.2.2.2.1
  have h : wp_M_draw_63 Q K28 x1 x2 x4 (0 : Int32) σ := h
  refine lv_iconst (v := 0) hx hb d_M_draw_62 (by decide) ?_
  exact b_M_draw_63 C hK28 h (lv_sub hl [0, 1, 2, 3] rfl) hP hD hS
set_option maxHeartbeats 4000000 in
set_option maxRecDepth 100000 in
theorem b_M_draw_58 {p : Program} {l : Launch} {e : Env} {s : State} {m : MethodId} {args : Array Value} {below : List Frame} {meth : Method} {c : Code} {D : va_G} {cI cL cZ cS : ClassId} {ad : Nat → Nat} {wr : va_W} {A : Nat → Prop} {Q : Mem → Prop} {K28 : Int32 → Int32 → Int32 → Int32 → Mem → Prop} {x1 : Int32} {x2 : Int32} {x4 : Int32} {σ : Mem} {H : Heap} {locs : List Loc} {ls : Array Slot} (C : wC TB "PreferenceCountModel" c_M_draw 5 none D cls (tyl cI cL cZ cS) A p s m args meth c) (hK28 : ∀ {σ : Mem} {H : Heap} {locs : List Loc} {ls : Array Slot} {x1 : Int32} {x2 : Int32} {x3 : Int32} {x4 : Int32}, K28 x1 x2 x3 x4 σ → lv_has ls 5 [(0, .ref (ad 0)), (1, .int x1), (2, .int x2), (3, .int x3), (4, .int x4)] → va_P D cls (wW 12 (fM cI cL cZ ad) ad σ ++ wr) H → va_D A (wW 12 (fM cI cL cZ ad) ad σ ++ wr) → va_S A s.heap H locs → W p l e (headSpec (Cond.code y_M_draw c_M_draw 5 none :: TB) rm_M_draw).room s m args below meth c H locs 0 0 (MQ below (va_Qv Q (wB D cls (tyl cI cL cZ cS) 12 (fM cI cL cZ ad) ad wr A) A) args s 0 0 A) (F0 m 28 ls [])) (h : wp_M_draw_58 Q K28 x1 x2 x4 σ) (hl : lv_has ls 5 [(0, .ref (ad 0)), (1, .int x1), (2, .int x2), (4, .int x4)]) (hP : va_P D cls (wW 12 (fM cI cL cZ ad) ad σ ++ wr) H) (hD : va_D A (wW 12 (fM cI cL cZ ad) ad σ ++ wr)) (hS : va_S A s.heap H locs) : W p l e (headSpec (Cond.code y_M_draw c_M_draw 5 none :: TB) rm_M_draw).room s m args below meth c H locs 0 0 (MQ below (va_Qv Q (wB D cls (tyl cI cL cZ cS) 12 (fM cI cL cZ ad) ad wr A) A) args s 0 0 A) (F0 m 58 ls []) := by
  have hx := C.1
  have hb := C.2.1
  have hts := C.2.2.2.2.1
  have hown := C.2.2.2.2.2.1
  have hml := C.2.2.2.2.2.2.1
  have h : wp_M_draw_63 Q K28 x1 x2 x4 (1 : Int32) σ := h
  refine lv_iconst (v := 1) hx hb d_M_draw_58 (by decide) ?_
  refine lv_goto hx hb d_M_draw_59 rfl ?_
  exact b_M_draw_63 C hK28 h (lv_sub hl [0, 1, 2, 3] rfl) hP hD hS
set_option maxHeartbeats 4000000 in
set_option maxRecDepth 100000 in
theorem b_M_draw_28 {p : Program} {l : Launch} {e : Env} {s : State} {m : MethodId} {args : Array Value} {below : List Frame} {meth : Method} {c : Code} {D : va_G} {cI cL cZ cS : ClassId} {ad : Nat → Nat} {wr : va_W} {A : Nat → Prop} {Q : Mem → Prop} (C : wC TB "PreferenceCountModel" c_M_draw 5 none D cls (tyl cI cL cZ cS) A p s m args meth c) : ∀ (n : Nat) {σ : Mem} {H : Heap} {locs : List Loc} {ls : Array Slot} {x1 : Int32} {x2 : Int32} {x3 : Int32} {x4 : Int32}, wp_M_draw_28 Q n x1 x2 x3 x4 σ → lv_has ls 5 [(0, .ref (ad 0)), (1, .int x1), (2, .int x2), (3, .int x3), (4, .int x4)] → va_P D cls (wW 12 (fM cI cL cZ ad) ad σ ++ wr) H → va_D A (wW 12 (fM cI cL cZ ad) ad σ ++ wr) → va_S A s.heap H locs → W p l e (headSpec (Cond.code y_M_draw c_M_draw 5 none :: TB) rm_M_draw).room s m args below meth c H locs 0 0 (MQ below (va_Qv Q (wB D cls (tyl cI cL cZ cS) 12 (fM cI cL cZ ad) ad wr A) A) args s 0 0 A) (F0 m 28 ls []) := by
  have hx := C.1
  have hb := C.2.1
  have hts := C.2.2.2.2.1
  have hown := C.2.2.2.2.2.1
  have hml := C.2.2.2.2.2.2.1
  intro n
  induction n with
  | zero => intro σ H locs ls x1 x2 x3 x4 h; exact h.elim
  | succ j28 ih =>
    intro σ H locs ls x1 x2 x3 x4 h hl hP hD hS
    have hK28 := @ih
    have h : ((σ.1 0 1) ≤ x4 → (((σ.1 0 15) < 0 → ((x3 = 0 → (wp_M_draw_91 Q x1 x2 (2 : Int32) σ)) ∧ (¬ x3 = 0 → (wp_M_draw_91 Q x1 x2 (0 : Int32) σ)))) ∧ (¬ (σ.1 0 15) < 0 → (wp_M_draw_91 Q x1 x2 (1 : Int32) σ)))) ∧ (¬ (σ.1 0 1) ≤ x4 → ((x3 = 0 → (wp_M_draw_62 Q (wp_M_draw_28 Q j28) x1 x2 x4 σ)) ∧ (¬ x3 = 0 → ((x4 = x1 → (wp_M_draw_58 Q (wp_M_draw_28 Q j28) x1 x2 x4 σ)) ∧ (¬ x4 = x1 → (vp_in x4 12 ∧ (((σ.1 1 (Int32.toNatClampNeg x4)) = x2 → (wp_M_draw_62 Q (wp_M_draw_28 Q j28) x1 x2 x4 σ)) ∧ (¬ (σ.1 1 (Int32.toNatClampNeg x4)) = x2 → (wp_M_draw_58 Q (wp_M_draw_28 Q j28) x1 x2 x4 σ))))))))) := h
    refine lv_iload hx hb d_M_draw_28 (lv_at hl 4 rfl) ?_
    refine lv_aload_n hx hb d_M_draw_30 rfl (lv_at hl 0 rfl) ?_
    refine r_get C ku_M hP (by decide) rfl rfl 1 (by decide) kw_510 rfl d_M_draw_31 ?_
    refine lv_icmp_ge hx hb d_M_draw_34 rfl (fun hc34 => ?_) (fun hc34 => ?_)
    · have h := h.1 hc34
      refine lv_aload_n hx hb d_M_draw_70 rfl (lv_at hl 0 rfl) ?_
      refine lv_aload_n hx hb d_M_draw_71 rfl (lv_at hl 0 rfl) ?_
      refine r_get C ku_M hP (by decide) rfl rfl 15 (by decide) kw_524 rfl d_M_draw_72 ?_
      refine lv_if_lt hx hb d_M_draw_75 rfl (fun hc75 => ?_) (fun hc75 => ?_)
      · have h := h.1 hc75
        refine lv_iload_n hx hb d_M_draw_82 rfl (lv_at hl 3 rfl) ?_
        refine lv_if_eq hx hb d_M_draw_83 rfl (fun hc83 => ?_) (fun hc83 => ?_)
        · have h := h.1 hc83
          refine lv_iconst (v := 2) hx hb d_M_draw_90 (by decide) ?_
          exact b_M_draw_91 C h (lv_sub hl [0, 1, 2] rfl) hP hD hS
        · have h := h.2 hc83
          refine lv_iconst (v := 0) hx hb d_M_draw_86 (by decide) ?_
          refine lv_goto hx hb d_M_draw_87 rfl ?_
          exact b_M_draw_91 C h (lv_sub hl [0, 1, 2] rfl) hP hD hS
      · have h := h.2 hc75
        refine lv_iconst (v := 1) hx hb d_M_draw_78 (by decide) ?_
        refine lv_goto hx hb d_M_draw_79 rfl ?_
        exact b_M_draw_91 C h (lv_sub hl [0, 1, 2] rfl) hP hD hS
    · have h := h.2 hc34
      refine lv_iload_n hx hb d_M_draw_37 rfl (lv_at hl 3 rfl) ?_
      refine lv_if_eq hx hb d_M_draw_38 rfl (fun hc38 => ?_) (fun hc38 => ?_)
      · have h := h.1 hc38
        exact b_M_draw_62 C hK28 h (lv_sub hl [0, 1, 2, 4] rfl) hP hD hS
      · have h := h.2 hc38
        refine lv_iload hx hb d_M_draw_41 (lv_at hl 4 rfl) ?_
        refine lv_iload_n hx hb d_M_draw_43 rfl (lv_at hl 1 rfl) ?_
        refine lv_icmp_eq hx hb d_M_draw_44 rfl (fun hc44 => ?_) (fun hc44 => ?_)
        · have h := h.1 hc44
          exact b_M_draw_58 C hK28 h (lv_sub hl [0, 1, 2, 4] rfl) hP hD hS
        · have h := h.2 hc44
          refine lv_aload_n hx hb d_M_draw_47 rfl (lv_at hl 0 rfl) ?_
          refine r_get C ku_M hP (by decide) rfl rfl 3 (by decide) kw_512 rfl d_M_draw_48 ?_
          refine lv_iload hx hb d_M_draw_51 (lv_at hl 4 rfl) ?_
          obtain ⟨hi53, h⟩ := h
          refine r_iald C hP (by decide) rfl rfl hi53 d_M_draw_53 ?_
          refine lv_iload_n hx hb d_M_draw_54 rfl (lv_at hl 2 rfl) ?_
          refine lv_icmp_eq hx hb d_M_draw_55 rfl (fun hc55 => ?_) (fun hc55 => ?_)
          · have h := h.1 hc55
            exact b_M_draw_62 C hK28 h (lv_sub hl [0, 1, 2, 4] rfl) hP hD hS
          · have h := h.2 hc55
            exact b_M_draw_58 C hK28 h (lv_sub hl [0, 1, 2, 4] rfl) hP hD hS
set_option maxHeartbeats 4000000 in
set_option maxRecDepth 100000 in
theorem b_M_draw_24 {p : Program} {l : Launch} {e : Env} {s : State} {m : MethodId} {args : Array Value} {below : List Frame} {meth : Method} {c : Code} {D : va_G} {cI cL cZ cS : ClassId} {ad : Nat → Nat} {wr : va_W} {A : Nat → Prop} {Q : Mem → Prop} {x1 : Int32} {x2 : Int32} {t0 : Int32} {σ : Mem} {H : Heap} {locs : List Loc} {ls : Array Slot} (C : wC TB "PreferenceCountModel" c_M_draw 5 none D cls (tyl cI cL cZ cS) A p s m args meth c) (h : wp_M_draw_24 Q x1 x2 t0 σ) (hl : lv_has ls 5 [(0, .ref (ad 0)), (1, .int x1), (2, .int x2)]) (hP : va_P D cls (wW 12 (fM cI cL cZ ad) ad σ ++ wr) H) (hD : va_D A (wW 12 (fM cI cL cZ ad) ad σ ++ wr)) (hS : va_S A s.heap H locs) : W p l e (headSpec (Cond.code y_M_draw c_M_draw 5 none :: TB) rm_M_draw).room s m args below meth c H locs 0 0 (MQ below (va_Qv Q (wB D cls (tyl cI cL cZ cS) 12 (fM cI cL cZ ad) ad wr A) A) args s 0 0 A) (F0 m 24 ls [.int t0]) := by
  have hx := C.1
  have hb := C.2.1
  have hts := C.2.2.2.2.1
  have hown := C.2.2.2.2.2.1
  have hml := C.2.2.2.2.2.2.1
  have h : ∃ k28 : Nat, wp_M_draw_28 Q k28 x1 x2 t0 (0 : Int32) σ := h
  refine lv_istore_n (lv' := [(3, .int t0), (0, .ref (ad 0)), (1, .int x1), (2, .int x2)]) hx hb d_M_draw_24 rfl hl (by decide) rfl (fun ls hl => ?_)
  refine lv_iconst (v := 0) hx hb d_M_draw_25 (by decide) ?_
  refine lv_istore (lv' := [(4, .int (0 : Int32)), (3, .int t0), (0, .ref (ad 0)), (1, .int x1), (2, .int x2)]) hx hb d_M_draw_26 hl (by decide) rfl (fun ls hl => ?_)
  obtain ⟨n, h⟩ := h
  exact b_M_draw_28 C n h (lv_sub hl [2, 3, 4, 1, 0] rfl) hP hD hS
set_option maxHeartbeats 4000000 in
set_option maxRecDepth 100000 in
theorem b_M_draw_23 {p : Program} {l : Launch} {e : Env} {s : State} {m : MethodId} {args : Array Value} {below : List Frame} {meth : Method} {c : Code} {D : va_G} {cI cL cZ cS : ClassId} {ad : Nat → Nat} {wr : va_W} {A : Nat → Prop} {Q : Mem → Prop} {x1 : Int32} {x2 : Int32} {σ : Mem} {H : Heap} {locs : List Loc} {ls : Array Slot} (C : wC TB "PreferenceCountModel" c_M_draw 5 none D cls (tyl cI cL cZ cS) A p s m args meth c) (h : wp_M_draw_23 Q x1 x2 σ) (hl : lv_has ls 5 [(0, .ref (ad 0)), (1, .int x1), (2, .int x2)]) (hP : va_P D cls (wW 12 (fM cI cL cZ ad) ad σ ++ wr) H) (hD : va_D A (wW 12 (fM cI cL cZ ad) ad σ ++ wr)) (hS : va_S A s.heap H locs) : W p l e (headSpec (Cond.code y_M_draw c_M_draw 5 none :: TB) rm_M_draw).room s m args below meth c H locs 0 0 (MQ below (va_Qv Q (wB D cls (tyl cI cL cZ cS) 12 (fM cI cL cZ ad) ad wr A) A) args s 0 0 A) (F0 m 23 ls []) := by
  have hx := C.1
  have hb := C.2.1
  have hts := C.2.2.2.2.1
  have hown := C.2.2.2.2.2.1
  have hml := C.2.2.2.2.2.2.1
  have h : wp_M_draw_24 Q x1 x2 (0 : Int32) σ := h
  refine lv_iconst (v := 0) hx hb d_M_draw_23 (by decide) ?_
  exact b_M_draw_24 C h (lv_sub hl [0, 1, 2] rfl) hP hD hS
set_option maxHeartbeats 4000000 in
set_option maxRecDepth 100000 in
theorem m_M_draw {l : Launch} {D : va_G} {cI cL cZ cS : ClassId} {ad : Nat → Nat} {wr : va_W} {sz : Nat} {Q : Mem → Prop} {x1 : Int32} {x2 : Int32} {σ : Mem} (h : wp_M_draw Q x1 x2 σ) : Met l y_M_draw (Cond.code y_M_draw c_M_draw 5 none :: TB) rm_M_draw (wPc D cls (tyl cI cL cZ cS) 12 (fM cI cL cZ ad) ad wr sz σ [.ref (ad 0), .int x1, .int x2]) (va_Qv Q (wB D cls (tyl cI cL cZ cS) 12 (fM cI cL cZ ad) ad wr (wA 12 (fM cI cL cZ ad) ad wr sz σ)) (wA 12 (fM cI cL cZ ad) ad wr sz σ)) 0 0 (wA 12 (fM cI cL cZ ad) ad wr sz σ) := by
  refine Met.ofW (cc := c_M_draw) (maxL := 5) (ret := none) (by decide) rfl ?_
  intro p e s m args below meth c s₁ B hml hv
  obtain ⟨rfl, hsz, hP, hK, hD0, hN⟩ := hv
  subst hsz
  have hD : va_D (wA 12 (fM cI cL cZ ad) ad wr s.heap.size σ) (wW 12 (fM cI cL cZ ad) ad σ ++ wr) := hD0.self (sz := s.heap.size)
  have hA : ∀ q : Nat, s.heap.size ≤ q → (wA 12 (fM cI cL cZ ad) ad wr s.heap.size σ) q := fun q h => Or.inr h
  have hN : NX (wA 12 (fM cI cL cZ ad) ad wr s.heap.size σ) s s.heap := hN
  generalize (wA 12 (fM cI cL cZ ad) ad wr s.heap.size σ) = A at hD hA hN ⊢
  have C : wC TB "PreferenceCountModel" c_M_draw 5 none D cls (tyl cI cL cZ cS) A p s m ([.ref (ad 0), .int x1, .int x2].toArray) meth c := ⟨B.exec, B.bytes, B.returns, B.notSynchronized, fun w hw => atoms_spec (ws := Cond.code y_M_draw c_M_draw 5 none :: TB) B.pre w (List.mem_cons_of_mem _ hw), findClass_of_methodNamed B.named, hml, hK, hN, hA⟩
  have hx := C.1
  have hb := C.2.1
  have hts := C.2.2.2.2.1
  have hown := C.2.2.2.2.2.1
  have hS : va_S A s.heap s.heap [] := va_S.rf
  have hl := lv_entry ([.ref (ad 0), .int x1, .int x2]) (n := 5) (Nat.le_of_ble_eq_true rfl)
  rw [lg_entry_eq]
  generalize (lg_sl ([.ref (ad 0), .int x1, .int x2]) ++ List.replicate (5 - (lg_sl ([.ref (ad 0), .int x1, .int x2])).length) Slot.unset).toArray = ls at hl ⊢
  have hl : lv_has ls 5 [(0, .ref (ad 0)), (1, .int x1), (2, .int x2)] := hl
  have h : wp_M_isCandidate (fun r2 σ2 => (r2 = 0 → (wp_M_draw_23 Q x1 x2 σ2)) ∧ (¬ r2 = 0 → ((x2 < 0 → (wp_M_draw_23 Q x1 x2 σ2)) ∧ (¬ x2 < 0 → (((999 : Int32) < x2 → (wp_M_draw_23 Q x1 x2 σ2)) ∧ (¬ (999 : Int32) < x2 → (wp_M_draw_24 Q x1 x2 (1 : Int32) σ2))))))) x1 σ := h
  refine lv_aload_n hx hb d_M_draw_0 rfl (lv_at hl 0 rfl) ?_
  refine lv_iload_n hx hb d_M_draw_1 rfl (lv_at hl 1 rfl) ?_
  refine r_calli C hD hS (va_runV (As := [.int x1]) (rest := []) ⟨hx, hb, hml, hown, hts⟩ (m_M_isCandidate h) (cwV 1 hts (g_V kw_587 kw_589 kp_20 kw_7 kw_590) rfl rfl rfl (by decide +kernel) ⟨Nat.le_of_ble_eq_true rfl, Nat.le_of_ble_eq_true rfl⟩) (r_preV (o := 0) C hP hD hS (by decide) rfl rfl) rfl rfl hl.1 rfl (lv_room (Nat.le_of_ble_eq_true rfl)) d_M_draw_2 ⟨Nat.le_of_ble_eq_true rfl, Nat.le_of_ble_eq_true rfl⟩) (fun r2 σ2 H locs h hP hD hS => ?_)
  refine lv_if_eq hx hb d_M_draw_5 rfl (fun hc5 => ?_) (fun hc5 => ?_)
  · have h := h.1 hc5
    exact b_M_draw_23 C h (lv_sub hl [0, 1, 2] rfl) hP hD hS
  · have h := h.2 hc5
    refine lv_iload_n hx hb d_M_draw_8 rfl (lv_at hl 2 rfl) ?_
    refine lv_if_lt hx hb d_M_draw_9 rfl (fun hc9 => ?_) (fun hc9 => ?_)
    · have h := h.1 hc9
      exact b_M_draw_23 C h (lv_sub hl [0, 1, 2] rfl) hP hD hS
    · have h := h.2 hc9
      refine lv_iload_n hx hb d_M_draw_12 rfl (lv_at hl 2 rfl) ?_
      refine lv_sipush (v := 999) hx hb d_M_draw_13 (by decide) ?_
      refine lv_icmp_gt hx hb d_M_draw_16 rfl (fun hc16 => ?_) (fun hc16 => ?_)
      · have h := h.1 hc16
        exact b_M_draw_23 C h (lv_sub hl [0, 1, 2] rfl) hP hD hS
      · have h := h.2 hc16
        refine lv_iconst (v := 1) hx hb d_M_draw_19 (by decide) ?_
        refine lv_goto hx hb d_M_draw_20 rfl ?_
        exact b_M_draw_24 C h (lv_sub hl [0, 1, 2] rfl) hP hD hS
def rm_M_continuing : Room := { frames := 0, cells := 0, slots := 0, locals := 0 }
set_option maxHeartbeats 4000000 in
set_option maxRecDepth 100000 in
theorem b_M_continuing_27 {p : Program} {l : Launch} {e : Env} {s : State} {m : MethodId} {args : Array Value} {below : List Frame} {meth : Method} {c : Code} {D : va_G} {cI cL cZ cS : ClassId} {ad : Nat → Nat} {wr : va_W} {A : Nat → Prop} {Q : Int32 → Mem → Prop} {K4 : Int32 → Int32 → Mem → Prop} {x2 : Int32} {t0 : Int32} {t1 : Int32} {σ : Mem} {H : Heap} {locs : List Loc} {ls : Array Slot} (C : wC TB "PreferenceCountModel" c_M_continuing 3 (some .int) D cls (tyl cI cL cZ cS) A p s m args meth c) (hK4 : ∀ {σ : Mem} {H : Heap} {locs : List Loc} {ls : Array Slot} {x1 : Int32} {x2 : Int32}, K4 x1 x2 σ → lv_has ls 3 [(0, .ref (ad 0)), (1, .int x1), (2, .int x2)] → va_P D cls (wW 12 (fM cI cL cZ ad) ad σ ++ wr) H → va_D A (wW 12 (fM cI cL cZ ad) ad σ ++ wr) → va_S A s.heap H locs → W p l e (headSpec (Cond.code y_M_continuing c_M_continuing 3 (some .int) :: TB) rm_M_continuing).room s m args below meth c H locs 0 0 (MQ below (va_Qi Q (wB D cls (tyl cI cL cZ cS) 12 (fM cI cL cZ ad) ad wr A) A) args s 0 0 A) (F0 m 4 ls [])) (h : wp_M_continuing_27 Q K4 x2 t0 t1 σ) (hl : lv_has ls 3 [(0, .ref (ad 0)), (2, .int x2)]) (hP : va_P D cls (wW 12 (fM cI cL cZ ad) ad σ ++ wr) H) (hD : va_D A (wW 12 (fM cI cL cZ ad) ad σ ++ wr)) (hS : va_S A s.heap H locs) : W p l e (headSpec (Cond.code y_M_continuing c_M_continuing 3 (some .int) :: TB) rm_M_continuing).room s m args below meth c H locs 0 0 (MQ below (va_Qi Q (wB D cls (tyl cI cL cZ cS) 12 (fM cI cL cZ ad) ad wr A) A) args s 0 0 A) (F0 m 27 ls [.int t0, .int t1]) := by
  have hx := C.1
  have hb := C.2.1
  have hts := C.2.2.2.2.1
  have hown := C.2.2.2.2.2.1
  have hml := C.2.2.2.2.2.2.1
  have h : ∀ v28 : Int32, v28 = (t1 + t0) → (∀ v29 : Int32, v29 = (x2 + 1) → (K4 v28 v29 σ)) := h
  refine lv_iadd hx hb d_M_continuing_27 ?_
  refine lv_topi (fun v28 e28 => ?_)
  have h := h v28 e28
  refine lv_istore_n (lv' := [(1, .int v28), (0, .ref (ad 0)), (2, .int x2)]) hx hb d_M_continuing_28 rfl hl (by decide) rfl (fun ls hl => ?_)
  obtain ⟨v29, e29⟩ : ∃ z : Int32, z = (x2 + 1) := ⟨_, rfl⟩
  have h := h v29 e29
  refine lv_iinc (k := 2) (v := v29) (lv' := [(2, .int v29), (1, .int v28), (0, .ref (ad 0))]) hx hb d_M_continuing_29 hl rfl (by rw [e29] <;> rfl) (by decide) rfl (fun ls hl => ?_)
  refine lv_goto hx hb d_M_continuing_32 rfl ?_
  exact hK4 h (lv_sub hl [2, 1, 0] rfl) hP hD hS
set_option maxHeartbeats 4000000 in
set_option maxRecDepth 100000 in
theorem b_M_continuing_4 {p : Program} {l : Launch} {e : Env} {s : State} {m : MethodId} {args : Array Value} {below : List Frame} {meth : Method} {c : Code} {D : va_G} {cI cL cZ cS : ClassId} {ad : Nat → Nat} {wr : va_W} {A : Nat → Prop} {Q : Int32 → Mem → Prop} (C : wC TB "PreferenceCountModel" c_M_continuing 3 (some .int) D cls (tyl cI cL cZ cS) A p s m args meth c) : ∀ (n : Nat) {σ : Mem} {H : Heap} {locs : List Loc} {ls : Array Slot} {x1 : Int32} {x2 : Int32}, wp_M_continuing_4 Q n x1 x2 σ → lv_has ls 3 [(0, .ref (ad 0)), (1, .int x1), (2, .int x2)] → va_P D cls (wW 12 (fM cI cL cZ ad) ad σ ++ wr) H → va_D A (wW 12 (fM cI cL cZ ad) ad σ ++ wr) → va_S A s.heap H locs → W p l e (headSpec (Cond.code y_M_continuing c_M_continuing 3 (some .int) :: TB) rm_M_continuing).room s m args below meth c H locs 0 0 (MQ below (va_Qi Q (wB D cls (tyl cI cL cZ cS) 12 (fM cI cL cZ ad) ad wr A) A) args s 0 0 A) (F0 m 4 ls []) := by
  have hx := C.1
  have hb := C.2.1
  have hts := C.2.2.2.2.1
  have hown := C.2.2.2.2.2.1
  have hml := C.2.2.2.2.2.2.1
  intro n
  induction n with
  | zero => intro σ H locs ls x1 x2 h; exact h.elim
  | succ j4 ih =>
    intro σ H locs ls x1 x2 h hl hP hD hS
    have hK4 := @ih
    have h : ((σ.1 0 1) ≤ x2 → (Q x1 σ)) ∧ (¬ (σ.1 0 1) ≤ x2 → (vp_in x2 12 ∧ (((σ.1 2 (Int32.toNatClampNeg x2)) = 0 → (wp_M_continuing_27 Q (wp_M_continuing_4 Q j4) x2 (1 : Int32) x1 σ)) ∧ (¬ (σ.1 2 (Int32.toNatClampNeg x2)) = 0 → (wp_M_continuing_27 Q (wp_M_continuing_4 Q j4) x2 (0 : Int32) x1 σ))))) := h
    refine lv_iload_n hx hb d_M_continuing_4 rfl (lv_at hl 2 rfl) ?_
    refine lv_aload_n hx hb d_M_continuing_5 rfl (lv_at hl 0 rfl) ?_
    refine r_get C ku_M hP (by decide) rfl rfl 1 (by decide) kw_510 rfl d_M_continuing_6 ?_
    refine lv_icmp_ge hx hb d_M_continuing_9 rfl (fun hc9 => ?_) (fun hc9 => ?_)
    · have h := h.1 hc9
      refine lv_iload_n hx hb d_M_continuing_35 rfl (lv_at hl 1 rfl) ?_
      exact r_iret C hP hD hS d_M_continuing_36 h
    · have h := h.2 hc9
      refine lv_iload_n hx hb d_M_continuing_12 rfl (lv_at hl 1 rfl) ?_
      refine lv_aload_n hx hb d_M_continuing_13 rfl (lv_at hl 0 rfl) ?_
      refine r_get C ku_M hP (by decide) rfl rfl 4 (by decide) kw_513 rfl d_M_continuing_14 ?_
      refine lv_iload_n hx hb d_M_continuing_17 rfl (lv_at hl 2 rfl) ?_
      obtain ⟨hi18, h⟩ := h
      refine r_iald C hP (by decide) rfl rfl hi18 d_M_continuing_18 ?_
      refine lv_if_ne hx hb d_M_continuing_19 rfl (fun hc19 => ?_) (fun hc19 => ?_)
      · have h := h.2 hc19
        refine lv_iconst (v := 0) hx hb d_M_continuing_26 (by decide) ?_
        exact b_M_continuing_27 C hK4 h (lv_sub hl [0, 2] rfl) hP hD hS
      · have h := h.1 hc19
        refine lv_iconst (v := 1) hx hb d_M_continuing_22 (by decide) ?_
        refine lv_goto hx hb d_M_continuing_23 rfl ?_
        exact b_M_continuing_27 C hK4 h (lv_sub hl [0, 2] rfl) hP hD hS
set_option maxHeartbeats 4000000 in
set_option maxRecDepth 100000 in
theorem m_M_continuing {l : Launch} {D : va_G} {cI cL cZ cS : ClassId} {ad : Nat → Nat} {wr : va_W} {sz : Nat} {Q : Int32 → Mem → Prop} {σ : Mem} (h : wp_M_continuing Q σ) : Met l y_M_continuing (Cond.code y_M_continuing c_M_continuing 3 (some .int) :: TB) rm_M_continuing (wPc D cls (tyl cI cL cZ cS) 12 (fM cI cL cZ ad) ad wr sz σ [.ref (ad 0)]) (va_Qi Q (wB D cls (tyl cI cL cZ cS) 12 (fM cI cL cZ ad) ad wr (wA 12 (fM cI cL cZ ad) ad wr sz σ)) (wA 12 (fM cI cL cZ ad) ad wr sz σ)) 0 0 (wA 12 (fM cI cL cZ ad) ad wr sz σ) := by
  refine Met.ofW (cc := c_M_continuing) (maxL := 3) (ret := (some .int)) (by decide) rfl ?_
  intro p e s m args below meth c s₁ B hml hv
  obtain ⟨rfl, hsz, hP, hK, hD0, hN⟩ := hv
  subst hsz
  have hD : va_D (wA 12 (fM cI cL cZ ad) ad wr s.heap.size σ) (wW 12 (fM cI cL cZ ad) ad σ ++ wr) := hD0.self (sz := s.heap.size)
  have hA : ∀ q : Nat, s.heap.size ≤ q → (wA 12 (fM cI cL cZ ad) ad wr s.heap.size σ) q := fun q h => Or.inr h
  have hN : NX (wA 12 (fM cI cL cZ ad) ad wr s.heap.size σ) s s.heap := hN
  generalize (wA 12 (fM cI cL cZ ad) ad wr s.heap.size σ) = A at hD hA hN ⊢
  have C : wC TB "PreferenceCountModel" c_M_continuing 3 (some .int) D cls (tyl cI cL cZ cS) A p s m ([.ref (ad 0)].toArray) meth c := ⟨B.exec, B.bytes, B.returns, B.notSynchronized, fun w hw => atoms_spec (ws := Cond.code y_M_continuing c_M_continuing 3 (some .int) :: TB) B.pre w (List.mem_cons_of_mem _ hw), findClass_of_methodNamed B.named, hml, hK, hN, hA⟩
  have hx := C.1
  have hb := C.2.1
  have hts := C.2.2.2.2.1
  have hown := C.2.2.2.2.2.1
  have hS : va_S A s.heap s.heap [] := va_S.rf
  have hl := lv_entry ([.ref (ad 0)]) (n := 3) (Nat.le_of_ble_eq_true rfl)
  rw [lg_entry_eq]
  generalize (lg_sl ([.ref (ad 0)]) ++ List.replicate (3 - (lg_sl ([.ref (ad 0)])).length) Slot.unset).toArray = ls at hl ⊢
  have hl : lv_has ls 3 [(0, .ref (ad 0))] := hl
  have h : ∃ k4 : Nat, wp_M_continuing_4 Q k4 (0 : Int32) (0 : Int32) σ := h
  refine lv_iconst (v := 0) hx hb d_M_continuing_0 (by decide) ?_
  refine lv_istore_n (lv' := [(1, .int (0 : Int32)), (0, .ref (ad 0))]) hx hb d_M_continuing_1 rfl hl (by decide) rfl (fun ls hl => ?_)
  refine lv_iconst (v := 0) hx hb d_M_continuing_2 (by decide) ?_
  refine lv_istore_n (lv' := [(2, .int (0 : Int32)), (1, .int (0 : Int32)), (0, .ref (ad 0))]) hx hb d_M_continuing_3 rfl hl (by decide) rfl (fun ls hl => ?_)
  obtain ⟨n, h⟩ := h
  exact b_M_continuing_4 C n h (lv_sub hl [2, 1, 0] rfl) hP hD hS
def rm_M_exclude : Room := { frames := 0, cells := 0, slots := 0, locals := 0 }
set_option maxHeartbeats 4000000 in
set_option maxRecDepth 100000 in
theorem m_M_exclude {l : Launch} {D : va_G} {cI cL cZ cS : ClassId} {ad : Nat → Nat} {wr : va_W} {sz : Nat} {Q : Mem → Prop} {x1 : Int32} {σ : Mem} (h : wp_M_exclude Q x1 σ) : Met l y_M_exclude (Cond.code y_M_exclude c_M_exclude 2 none :: TB) rm_M_exclude (wPc D cls (tyl cI cL cZ cS) 12 (fM cI cL cZ ad) ad wr sz σ [.ref (ad 0), .int x1]) (va_Qv Q (wB D cls (tyl cI cL cZ cS) 12 (fM cI cL cZ ad) ad wr (wA 12 (fM cI cL cZ ad) ad wr sz σ)) (wA 12 (fM cI cL cZ ad) ad wr sz σ)) 0 0 (wA 12 (fM cI cL cZ ad) ad wr sz σ) := by
  refine Met.ofW (cc := c_M_exclude) (maxL := 2) (ret := none) (by decide) rfl ?_
  intro p e s m args below meth c s₁ B hml hv
  obtain ⟨rfl, hsz, hP, hK, hD0, hN⟩ := hv
  subst hsz
  have hD : va_D (wA 12 (fM cI cL cZ ad) ad wr s.heap.size σ) (wW 12 (fM cI cL cZ ad) ad σ ++ wr) := hD0.self (sz := s.heap.size)
  have hA : ∀ q : Nat, s.heap.size ≤ q → (wA 12 (fM cI cL cZ ad) ad wr s.heap.size σ) q := fun q h => Or.inr h
  have hN : NX (wA 12 (fM cI cL cZ ad) ad wr s.heap.size σ) s s.heap := hN
  generalize (wA 12 (fM cI cL cZ ad) ad wr s.heap.size σ) = A at hD hA hN ⊢
  have C : wC TB "PreferenceCountModel" c_M_exclude 2 none D cls (tyl cI cL cZ cS) A p s m ([.ref (ad 0), .int x1].toArray) meth c := ⟨B.exec, B.bytes, B.returns, B.notSynchronized, fun w hw => atoms_spec (ws := Cond.code y_M_exclude c_M_exclude 2 none :: TB) B.pre w (List.mem_cons_of_mem _ hw), findClass_of_methodNamed B.named, hml, hK, hN, hA⟩
  have hx := C.1
  have hb := C.2.1
  have hts := C.2.2.2.2.1
  have hown := C.2.2.2.2.2.1
  have hS : va_S A s.heap s.heap [] := va_S.rf
  have hl := lv_entry ([.ref (ad 0), .int x1]) (n := 2) (Nat.le_of_ble_eq_true rfl)
  rw [lg_entry_eq]
  generalize (lg_sl ([.ref (ad 0), .int x1]) ++ List.replicate (2 - (lg_sl ([.ref (ad 0), .int x1])).length) Slot.unset).toArray = ls at hl ⊢
  have hl : lv_has ls 2 [(0, .ref (ad 0)), (1, .int x1)] := hl
  have h : ∀ σ7 : Mem, σ7 = mI σ 0 6 ((σ.1 0 6) + (1 : Int32)) → (vp_in x1 12 ∧ (∀ σ20 : Mem, σ20 = mI σ7 2 (Int32.toNatClampNeg x1) (-(σ7.1 0 6)) → (Q σ20))) := h
  refine lv_aload_n hx hb d_M_exclude_0 rfl (lv_at hl 0 rfl) ?_
  refine lv_dup hx hb d_M_exclude_1 rfl ?_
  refine r_get C ku_M hP (by decide) rfl rfl 6 (by decide) kw_515 rfl d_M_exclude_2 ?_
  refine lv_iconst (v := 1) hx hb d_M_exclude_5 (by decide) ?_
  refine lv_iadd hx hb d_M_exclude_6 ?_
  refine r_putI (ty := .int) C ku_M ft_M fo_M fn_M hP hD hS (by decide) rfl rfl 6 (by decide) kw_515 rfl (by decide +kernel) rfl rfl (Nat.le_of_ble_eq_true rfl) d_M_exclude_7 rfl (fun σ7 e7 H locs hP hD hS => ?_)
  have h := h σ7 e7
  refine lv_aload_n hx hb d_M_exclude_10 rfl (lv_at hl 0 rfl) ?_
  refine r_get C ku_M hP (by decide) rfl rfl 4 (by decide) kw_513 rfl d_M_exclude_11 ?_
  refine lv_iload_n hx hb d_M_exclude_14 rfl (lv_at hl 1 rfl) ?_
  refine lv_aload_n hx hb d_M_exclude_15 rfl (lv_at hl 0 rfl) ?_
  refine r_get C ku_M hP (by decide) rfl rfl 6 (by decide) kw_515 rfl d_M_exclude_16 ?_
  refine lv_ineg hx hb d_M_exclude_19 ?_
  obtain ⟨hi20, h⟩ := h
  refine r_iast C hP hD hS (by decide) (fun _ _ => rfl) rfl hi20 d_M_exclude_20 (fun σ20 e20 H locs hP hD hS => ?_)
  have h := h σ20 e20
  exact r_vret C hP hD hS d_M_exclude_21 h
def rm_M_withdraw : Room := { frames := 1, cells := 0, slots := 0, locals := 22 }
set_option maxHeartbeats 4000000 in
set_option maxRecDepth 100000 in
theorem b_M_withdraw_80 {p : Program} {l : Launch} {e : Env} {s : State} {m : MethodId} {args : Array Value} {below : List Frame} {meth : Method} {c : Code} {D : va_G} {cI cL cZ cS : ClassId} {ad : Nat → Nat} {wr : va_W} {A : Nat → Prop} {Q : Mem → Prop} {σ : Mem} {H : Heap} {locs : List Loc} {ls : Array Slot} (C : wC TB "PreferenceCountModel" c_M_withdraw 3 none D cls (tyl cI cL cZ cS) A p s m args meth c) (h : wp_M_withdraw_80 Q σ) (hl : lv_has ls 3 []) (hP : va_P D cls (wW 12 (fM cI cL cZ ad) ad σ ++ wr) H) (hD : va_D A (wW 12 (fM cI cL cZ ad) ad σ ++ wr)) (hS : va_S A s.heap H locs) : W p l e (headSpec (Cond.code y_M_withdraw c_M_withdraw 3 none :: TB) rm_M_withdraw).room s m args below meth c H locs 0 0 (MQ below (va_Qv Q (wB D cls (tyl cI cL cZ cS) 12 (fM cI cL cZ ad) ad wr A) A) args s 0 0 A) (F0 m 80 ls []) := by
  have hx := C.1
  have hb := C.2.1
  have hts := C.2.2.2.2.1
  have hown := C.2.2.2.2.2.1
  have hml := C.2.2.2.2.2.2.1
  have h : Q σ := h
  exact r_vret C hP hD hS d_M_withdraw_80 h
set_option maxHeartbeats 4000000 in
set_option maxRecDepth 100000 in
theorem b_M_withdraw_69 {p : Program} {l : Launch} {e : Env} {s : State} {m : MethodId} {args : Array Value} {below : List Frame} {meth : Method} {c : Code} {D : va_G} {cI cL cZ cS : ClassId} {ad : Nat → Nat} {wr : va_W} {A : Nat → Prop} {Q : Mem → Prop} {x1 : Int32} {t0 : Int32} {σ : Mem} {H : Heap} {locs : List Loc} {ls : Array Slot} (C : wC TB "PreferenceCountModel" c_M_withdraw 3 none D cls (tyl cI cL cZ cS) A p s m args meth c) (h : wp_M_withdraw_69 Q x1 t0 σ) (hl : lv_has ls 3 [(0, .ref (ad 0)), (1, .int x1)]) (hP : va_P D cls (wW 12 (fM cI cL cZ ad) ad σ ++ wr) H) (hD : va_D A (wW 12 (fM cI cL cZ ad) ad σ ++ wr)) (hS : va_S A s.heap H locs) : W p l e (headSpec (Cond.code y_M_withdraw c_M_withdraw 3 none :: TB) rm_M_withdraw).room s m args below meth c H locs 0 0 (MQ below (va_Qv Q (wB D cls (tyl cI cL cZ cS) 12 (fM cI cL cZ ad) ad wr A) A) args s 0 0 A) (F0 m 69 ls [.int t0, .ref (ad 0)]) := by
  have hx := C.1
  have hb := C.2.1
  have hts := C.2.2.2.2.1
  have hown := C.2.2.2.2.2.1
  have hml := C.2.2.2.2.2.2.1
  have h : wp_M_says (fun r69 σ69 => (r69 = 0 → (wp_M_withdraw_80 Q σ69)) ∧ (¬ r69 = 0 → (wp_M_exclude (fun σ77 => wp_M_withdraw_80 Q σ77) x1 σ69))) t0 σ := h
  refine r_calli C hD hS (va_runV (As := [.int t0]) (rest := []) ⟨hx, hb, hml, hown, hts⟩ (m_M_says h) (cwV 1 hts (g_V kw_579 kw_581 kp_19 kw_7 kw_582) rfl rfl rfl (by decide +kernel) ⟨Nat.le_of_ble_eq_true rfl, Nat.le_of_ble_eq_true rfl⟩) (r_preV (o := 0) C hP hD hS (by decide) rfl rfl) rfl rfl hl.1 rfl (lv_room (Nat.le_of_ble_eq_true rfl)) d_M_withdraw_69 ⟨Nat.le_of_ble_eq_true rfl, Nat.le_of_ble_eq_true rfl⟩) (fun r69 σ69 H locs h hP hD hS => ?_)
  refine lv_if_eq hx hb d_M_withdraw_72 rfl (fun hc72 => ?_) (fun hc72 => ?_)
  · have h := h.1 hc72
    exact b_M_withdraw_80 C h (lv_sub hl [] rfl) hP hD hS
  · have h := h.2 hc72
    refine lv_aload_n hx hb d_M_withdraw_75 rfl (lv_at hl 0 rfl) ?_
    refine lv_iload_n hx hb d_M_withdraw_76 rfl (lv_at hl 1 rfl) ?_
    refine r_callv C hD hS (va_runV (As := [.int x1]) (rest := []) ⟨hx, hb, hml, hown, hts⟩ (m_M_exclude h) (cwV 1 hts (g_V kw_599 kw_601 kp_22 kw_7 kw_602) rfl rfl rfl (by decide +kernel) ⟨Nat.le_of_ble_eq_true rfl, Nat.le_of_ble_eq_true rfl⟩) (r_preV (o := 0) C hP hD hS (by decide) rfl rfl) rfl rfl hl.1 rfl (lv_room (Nat.le_of_ble_eq_true rfl)) d_M_withdraw_77 ⟨Nat.le_of_ble_eq_true rfl, Nat.le_of_ble_eq_true rfl⟩) (fun σ77 H locs h hP hD hS => ?_)
    exact b_M_withdraw_80 C h (lv_sub hl [] rfl) hP hD hS
set_option maxHeartbeats 4000000 in
set_option maxRecDepth 100000 in
theorem b_M_withdraw_47 {p : Program} {l : Launch} {e : Env} {s : State} {m : MethodId} {args : Array Value} {below : List Frame} {meth : Method} {c : Code} {D : va_G} {cI cL cZ cS : ClassId} {ad : Nat → Nat} {wr : va_W} {A : Nat → Prop} {Q : Mem → Prop} {x1 : Int32} {t0 : Int32} {σ : Mem} {H : Heap} {locs : List Loc} {ls : Array Slot} (C : wC TB "PreferenceCountModel" c_M_withdraw 3 none D cls (tyl cI cL cZ cS) A p s m args meth c) (h : wp_M_withdraw_47 Q x1 t0 σ) (hl : lv_has ls 3 [(0, .ref (ad 0)), (1, .int x1)]) (hP : va_P D cls (wW 12 (fM cI cL cZ ad) ad σ ++ wr) H) (hD : va_D A (wW 12 (fM cI cL cZ ad) ad σ ++ wr)) (hS : va_S A s.heap H locs) : W p l e (headSpec (Cond.code y_M_withdraw c_M_withdraw 3 none :: TB) rm_M_withdraw).room s m args below meth c H locs 0 0 (MQ below (va_Qv Q (wB D cls (tyl cI cL cZ cS) 12 (fM cI cL cZ ad) ad wr A) A) args s 0 0 A) (F0 m 47 ls [.int t0]) := by
  have hx := C.1
  have hb := C.2.1
  have hts := C.2.2.2.2.1
  have hown := C.2.2.2.2.2.1
  have hml := C.2.2.2.2.2.2.1
  have h : ((σ.1 0 15) < 0 → ((t0 = 0 → (wp_M_withdraw_69 Q x1 (2 : Int32) σ)) ∧ (¬ t0 = 0 → (wp_M_withdraw_69 Q x1 (0 : Int32) σ)))) ∧ (¬ (σ.1 0 15) < 0 → (wp_M_withdraw_69 Q x1 (1 : Int32) σ)) := h
  refine lv_istore_n (lv' := [(2, .int t0), (0, .ref (ad 0)), (1, .int x1)]) hx hb d_M_withdraw_47 rfl hl (by decide) rfl (fun ls hl => ?_)
  refine lv_aload_n hx hb d_M_withdraw_48 rfl (lv_at hl 1 rfl) ?_
  refine lv_aload_n hx hb d_M_withdraw_49 rfl (lv_at hl 1 rfl) ?_
  refine r_get C ku_M hP (by decide) rfl rfl 15 (by decide) kw_524 rfl d_M_withdraw_50 ?_
  refine lv_if_lt hx hb d_M_withdraw_53 rfl (fun hc53 => ?_) (fun hc53 => ?_)
  · have h := h.1 hc53
    refine lv_iload_n hx hb d_M_withdraw_60 rfl (lv_at hl 0 rfl) ?_
    refine lv_if_eq hx hb d_M_withdraw_61 rfl (fun hc61 => ?_) (fun hc61 => ?_)
    · have h := h.1 hc61
      refine lv_iconst (v := 2) hx hb d_M_withdraw_68 (by decide) ?_
      exact b_M_withdraw_69 C h (lv_sub hl [1, 2] rfl) hP hD hS
    · have h := h.2 hc61
      refine lv_iconst (v := 0) hx hb d_M_withdraw_64 (by decide) ?_
      refine lv_goto hx hb d_M_withdraw_65 rfl ?_
      exact b_M_withdraw_69 C h (lv_sub hl [1, 2] rfl) hP hD hS
  · have h := h.2 hc53
    refine lv_iconst (v := 1) hx hb d_M_withdraw_56 (by decide) ?_
    refine lv_goto hx hb d_M_withdraw_57 rfl ?_
    exact b_M_withdraw_69 C h (lv_sub hl [1, 2] rfl) hP hD hS
set_option maxHeartbeats 4000000 in
set_option maxRecDepth 100000 in
theorem b_M_withdraw_46 {p : Program} {l : Launch} {e : Env} {s : State} {m : MethodId} {args : Array Value} {below : List Frame} {meth : Method} {c : Code} {D : va_G} {cI cL cZ cS : ClassId} {ad : Nat → Nat} {wr : va_W} {A : Nat → Prop} {Q : Mem → Prop} {x1 : Int32} {σ : Mem} {H : Heap} {locs : List Loc} {ls : Array Slot} (C : wC TB "PreferenceCountModel" c_M_withdraw 3 none D cls (tyl cI cL cZ cS) A p s m args meth c) (h : wp_M_withdraw_46 Q x1 σ) (hl : lv_has ls 3 [(0, .ref (ad 0)), (1, .int x1)]) (hP : va_P D cls (wW 12 (fM cI cL cZ ad) ad σ ++ wr) H) (hD : va_D A (wW 12 (fM cI cL cZ ad) ad σ ++ wr)) (hS : va_S A s.heap H locs) : W p l e (headSpec (Cond.code y_M_withdraw c_M_withdraw 3 none :: TB) rm_M_withdraw).room s m args below meth c H locs 0 0 (MQ below (va_Qv Q (wB D cls (tyl cI cL cZ cS) 12 (fM cI cL cZ ad) ad wr A) A) args s 0 0 A) (F0 m 46 ls []) := by
  have hx := C.1
  have hb := C.2.1
  have hts := C.2.2.2.2.1
  have hown := C.2.2.2.2.2.1
  have hml := C.2.2.2.2.2.2.1
  have h : wp_M_withdraw_47 Q x1 (0 : Int32) σ := h
  refine lv_iconst (v := 0) hx hb d_M_withdraw_46 (by decide) ?_
  exact b_M_withdraw_47 C h (lv_sub hl [0, 1] rfl) hP hD hS
set_option maxHeartbeats 4000000 in
set_option maxRecDepth 100000 in
theorem b_M_withdraw_25 {p : Program} {l : Launch} {e : Env} {s : State} {m : MethodId} {args : Array Value} {below : List Frame} {meth : Method} {c : Code} {D : va_G} {cI cL cZ cS : ClassId} {ad : Nat → Nat} {wr : va_W} {A : Nat → Prop} {Q : Mem → Prop} {x1 : Int32} {t0 : Int32} {σ : Mem} {H : Heap} {locs : List Loc} {ls : Array Slot} (C : wC TB "PreferenceCountModel" c_M_withdraw 3 none D cls (tyl cI cL cZ cS) A p s m args meth c) (h : wp_M_withdraw_25 Q x1 t0 σ) (hl : lv_has ls 3 [(0, .ref (ad 0)), (1, .int x1)]) (hP : va_P D cls (wW 12 (fM cI cL cZ ad) ad σ ++ wr) H) (hD : va_D A (wW 12 (fM cI cL cZ ad) ad σ ++ wr)) (hS : va_S A s.heap H locs) : W p l e (headSpec (Cond.code y_M_withdraw c_M_withdraw 3 none :: TB) rm_M_withdraw).room s m args below meth c H locs 0 0 (MQ below (va_Qv Q (wB D cls (tyl cI cL cZ cS) 12 (fM cI cL cZ ad) ad wr A) A) args s 0 0 A) (F0 m 25 ls [.int t0, .ref (ad 2)]) := by
  have hx := C.1
  have hb := C.2.1
  have hts := C.2.2.2.2.1
  have hown := C.2.2.2.2.2.1
  have hml := C.2.2.2.2.2.2.1
  have h : vp_in t0 12 ∧ (((σ.1 2 (Int32.toNatClampNeg t0)) = 0 → (wp_M_continuing (fun r30 σ30 => (r30 ≤ ((σ30.1 0 2) + (1 : Int32)) → (wp_M_withdraw_46 Q x1 σ30)) ∧ (¬ r30 ≤ ((σ30.1 0 2) + (1 : Int32)) → (wp_M_withdraw_47 Q x1 (1 : Int32) σ30))) σ)) ∧ (¬ (σ.1 2 (Int32.toNatClampNeg t0)) = 0 → (wp_M_withdraw_46 Q x1 σ))) := h
  obtain ⟨hi25, h⟩ := h
  refine r_iald C hP (by decide) rfl rfl hi25 d_M_withdraw_25 ?_
  refine lv_if_ne hx hb d_M_withdraw_26 rfl (fun hc26 => ?_) (fun hc26 => ?_)
  · have h := h.2 hc26
    exact b_M_withdraw_46 C h (lv_sub hl [0, 1] rfl) hP hD hS
  · have h := h.1 hc26
    refine lv_aload_n hx hb d_M_withdraw_29 rfl (lv_at hl 0 rfl) ?_
    refine r_calli C hD hS (va_runV (As := []) (rest := []) ⟨hx, hb, hml, hown, hts⟩ (m_M_continuing h) (cwV 0 hts (g_V kw_595 kw_597 kp_21 kw_7 kw_598) rfl rfl rfl (by decide +kernel) ⟨Nat.le_of_ble_eq_true rfl, Nat.le_of_ble_eq_true rfl⟩) (r_preV (o := 0) C hP hD hS (by decide) rfl rfl) rfl rfl hl.1 rfl (lv_room (Nat.le_of_ble_eq_true rfl)) d_M_withdraw_30 ⟨Nat.le_of_ble_eq_true rfl, Nat.le_of_ble_eq_true rfl⟩) (fun r30 σ30 H locs h hP hD hS => ?_)
    refine lv_aload_n hx hb d_M_withdraw_33 rfl (lv_at hl 0 rfl) ?_
    refine r_get C ku_M hP (by decide) rfl rfl 2 (by decide) kw_511 rfl d_M_withdraw_34 ?_
    refine lv_iconst (v := 1) hx hb d_M_withdraw_37 (by decide) ?_
    refine lv_iadd hx hb d_M_withdraw_38 ?_
    refine lv_icmp_le hx hb d_M_withdraw_39 rfl (fun hc39 => ?_) (fun hc39 => ?_)
    · have h := h.1 hc39
      exact b_M_withdraw_46 C h (lv_sub hl [0, 1] rfl) hP hD hS
    · have h := h.2 hc39
      refine lv_iconst (v := 1) hx hb d_M_withdraw_42 (by decide) ?_
      refine lv_goto hx hb d_M_withdraw_43 rfl ?_
      exact b_M_withdraw_47 C h (lv_sub hl [0, 1] rfl) hP hD hS
set_option maxHeartbeats 4000000 in
set_option maxRecDepth 100000 in
theorem m_M_withdraw {l : Launch} {D : va_G} {cI cL cZ cS : ClassId} {ad : Nat → Nat} {wr : va_W} {sz : Nat} {Q : Mem → Prop} {x1 : Int32} {σ : Mem} (h : wp_M_withdraw Q x1 σ) : Met l y_M_withdraw (Cond.code y_M_withdraw c_M_withdraw 3 none :: TB) rm_M_withdraw (wPc D cls (tyl cI cL cZ cS) 12 (fM cI cL cZ ad) ad wr sz σ [.ref (ad 0), .int x1]) (va_Qv Q (wB D cls (tyl cI cL cZ cS) 12 (fM cI cL cZ ad) ad wr (wA 12 (fM cI cL cZ ad) ad wr sz σ)) (wA 12 (fM cI cL cZ ad) ad wr sz σ)) 0 0 (wA 12 (fM cI cL cZ ad) ad wr sz σ) := by
  refine Met.ofW (cc := c_M_withdraw) (maxL := 3) (ret := none) (by decide) rfl ?_
  intro p e s m args below meth c s₁ B hml hv
  obtain ⟨rfl, hsz, hP, hK, hD0, hN⟩ := hv
  subst hsz
  have hD : va_D (wA 12 (fM cI cL cZ ad) ad wr s.heap.size σ) (wW 12 (fM cI cL cZ ad) ad σ ++ wr) := hD0.self (sz := s.heap.size)
  have hA : ∀ q : Nat, s.heap.size ≤ q → (wA 12 (fM cI cL cZ ad) ad wr s.heap.size σ) q := fun q h => Or.inr h
  have hN : NX (wA 12 (fM cI cL cZ ad) ad wr s.heap.size σ) s s.heap := hN
  generalize (wA 12 (fM cI cL cZ ad) ad wr s.heap.size σ) = A at hD hA hN ⊢
  have C : wC TB "PreferenceCountModel" c_M_withdraw 3 none D cls (tyl cI cL cZ cS) A p s m ([.ref (ad 0), .int x1].toArray) meth c := ⟨B.exec, B.bytes, B.returns, B.notSynchronized, fun w hw => atoms_spec (ws := Cond.code y_M_withdraw c_M_withdraw 3 none :: TB) B.pre w (List.mem_cons_of_mem _ hw), findClass_of_methodNamed B.named, hml, hK, hN, hA⟩
  have hx := C.1
  have hb := C.2.1
  have hts := C.2.2.2.2.1
  have hown := C.2.2.2.2.2.1
  have hS : va_S A s.heap s.heap [] := va_S.rf
  have hl := lv_entry ([.ref (ad 0), .int x1]) (n := 3) (Nat.le_of_ble_eq_true rfl)
  rw [lg_entry_eq]
  generalize (lg_sl ([.ref (ad 0), .int x1]) ++ List.replicate (3 - (lg_sl ([.ref (ad 0), .int x1])).length) Slot.unset).toArray = ls at hl ⊢
  have hl : lv_has ls 3 [(0, .ref (ad 0)), (1, .int x1)] := hl
  have h : wp_M_isCandidate (fun r2 σ2 => (r2 = 0 → (wp_M_withdraw_46 Q x1 σ2)) ∧ (¬ r2 = 0 → (wp_M_isCandidate (fun r14 σ14 => (r14 = 0 → (wp_M_withdraw_25 Q x1 (0 : Int32) σ14)) ∧ (¬ r14 = 0 → (wp_M_withdraw_25 Q x1 x1 σ14))) x1 σ2))) x1 σ := h
  refine lv_aload_n hx hb d_M_withdraw_0 rfl (lv_at hl 0 rfl) ?_
  refine lv_iload_n hx hb d_M_withdraw_1 rfl (lv_at hl 1 rfl) ?_
  refine r_calli C hD hS (va_runV (As := [.int x1]) (rest := []) ⟨hx, hb, hml, hown, hts⟩ (m_M_isCandidate h) (cwV 1 hts (g_V kw_587 kw_589 kp_20 kw_7 kw_590) rfl rfl rfl (by decide +kernel) ⟨Nat.le_of_ble_eq_true rfl, Nat.le_of_ble_eq_true rfl⟩) (r_preV (o := 0) C hP hD hS (by decide) rfl rfl) rfl rfl hl.1 rfl (lv_room (Nat.le_of_ble_eq_true rfl)) d_M_withdraw_2 ⟨Nat.le_of_ble_eq_true rfl, Nat.le_of_ble_eq_true rfl⟩) (fun r2 σ2 H locs h hP hD hS => ?_)
  refine lv_if_eq hx hb d_M_withdraw_5 rfl (fun hc5 => ?_) (fun hc5 => ?_)
  · have h := h.1 hc5
    exact b_M_withdraw_46 C h (lv_sub hl [0, 1] rfl) hP hD hS
  · have h := h.2 hc5
    refine lv_aload_n hx hb d_M_withdraw_8 rfl (lv_at hl 0 rfl) ?_
    refine r_get C ku_M hP (by decide) rfl rfl 4 (by decide) kw_513 rfl d_M_withdraw_9 ?_
    refine lv_aload_n hx hb d_M_withdraw_12 rfl (lv_at hl 0 rfl) ?_
    refine lv_iload_n hx hb d_M_withdraw_13 rfl (lv_at hl 1 rfl) ?_
    refine r_calli C hD hS (va_runV (As := [.int x1]) (rest := [.ref (ad 2)]) ⟨hx, hb, hml, hown, hts⟩ (m_M_isCandidate h) (cwV 1 hts (g_V kw_587 kw_589 kp_20 kw_7 kw_590) rfl rfl rfl (by decide +kernel) ⟨Nat.le_of_ble_eq_true rfl, Nat.le_of_ble_eq_true rfl⟩) (r_preV (o := 0) C hP hD hS (by decide) rfl rfl) rfl rfl hl.1 rfl (lv_room (Nat.le_of_ble_eq_true rfl)) d_M_withdraw_14 ⟨Nat.le_of_ble_eq_true rfl, Nat.le_of_ble_eq_true rfl⟩) (fun r14 σ14 H locs h hP hD hS => ?_)
    refine lv_if_eq hx hb d_M_withdraw_17 rfl (fun hc17 => ?_) (fun hc17 => ?_)
    · have h := h.1 hc17
      refine lv_iconst (v := 0) hx hb d_M_withdraw_24 (by decide) ?_
      exact b_M_withdraw_25 C h (lv_sub hl [0, 1] rfl) hP hD hS
    · have h := h.2 hc17
      refine lv_iload_n hx hb d_M_withdraw_20 rfl (lv_at hl 1 rfl) ?_
      refine lv_goto hx hb d_M_withdraw_21 rfl ?_
      exact b_M_withdraw_25 C h (lv_sub hl [0, 1] rfl) hP hD hS
def rm_M_rank : Room := { frames := 0, cells := 0, slots := 0, locals := 0 }
set_option maxHeartbeats 4000000 in
set_option maxRecDepth 100000 in
theorem m_M_rank {l : Launch} {D : va_G} {cI cL cZ cS : ClassId} {ad : Nat → Nat} {wr : va_W} {sz : Nat} {Q : Int32 → Mem → Prop} {y0 : Int64} {x2 : Int32} {σ : Mem} (h : wp_M_rank Q y0 x2 σ) : Met l y_M_rank (Cond.code y_M_rank c_M_rank 3 (some .int) :: TB) rm_M_rank (wPc D cls (tyl cI cL cZ cS) 12 (fM cI cL cZ ad) ad wr sz σ [.long y0, .int x2]) (va_Qi Q (wB D cls (tyl cI cL cZ cS) 12 (fM cI cL cZ ad) ad wr (wA 12 (fM cI cL cZ ad) ad wr sz σ)) (wA 12 (fM cI cL cZ ad) ad wr sz σ)) 0 0 (wA 12 (fM cI cL cZ ad) ad wr sz σ) := by
  refine Met.ofW (cc := c_M_rank) (maxL := 3) (ret := (some .int)) (by decide) rfl ?_
  intro p e s m args below meth c s₁ B hml hv
  obtain ⟨rfl, hsz, hP, hK, hD0, hN⟩ := hv
  subst hsz
  have hD : va_D (wA 12 (fM cI cL cZ ad) ad wr s.heap.size σ) (wW 12 (fM cI cL cZ ad) ad σ ++ wr) := hD0.self (sz := s.heap.size)
  have hA : ∀ q : Nat, s.heap.size ≤ q → (wA 12 (fM cI cL cZ ad) ad wr s.heap.size σ) q := fun q h => Or.inr h
  have hN : NX (wA 12 (fM cI cL cZ ad) ad wr s.heap.size σ) s s.heap := hN
  generalize (wA 12 (fM cI cL cZ ad) ad wr s.heap.size σ) = A at hD hA hN ⊢
  have C : wC TB "PreferenceCountModel" c_M_rank 3 (some .int) D cls (tyl cI cL cZ cS) A p s m ([.long y0, .int x2].toArray) meth c := ⟨B.exec, B.bytes, B.returns, B.notSynchronized, fun w hw => atoms_spec (ws := Cond.code y_M_rank c_M_rank 3 (some .int) :: TB) B.pre w (List.mem_cons_of_mem _ hw), findClass_of_methodNamed B.named, hml, hK, hN, hA⟩
  have hx := C.1
  have hb := C.2.1
  have hts := C.2.2.2.2.1
  have hown := C.2.2.2.2.2.1
  have hS : va_S A s.heap s.heap [] := va_S.rf
  have hl := lv_entry ([.long y0, .int x2]) (n := 3) (Nat.le_of_ble_eq_true rfl)
  rw [lg_entry_eq]
  generalize (lg_sl ([.long y0, .int x2]) ++ List.replicate (3 - (lg_sl ([.long y0, .int x2])).length) Slot.unset).toArray = ls at hl ⊢
  have hl : lv_has ls 3 [(0, .long y0), (2, .int x2)] := hl
  have h : Q ((Int64.toInt32 ((((Int64.toUInt64 y0 >>> (Int64.toUInt64 (Int32.toInt64 ((4 : Int32) * x2)) &&& Int64.toUInt64 63)).toInt64)) &&& (15 : Int64))) - (1 : Int32)) σ := h
  refine lv_lload_n hx hb d_M_rank_0 rfl (lv_at hl 0 rfl) ?_
  refine lv_iconst (v := 4) hx hb d_M_rank_1 (by decide) ?_
  refine lv_iload_n hx hb d_M_rank_2 rfl (lv_at hl 1 rfl) ?_
  refine lv_imul hx hb d_M_rank_3 ?_
  refine lv_lushr hx hb d_M_rank_4 rfl ?_
  refine lv_ldc2 hx hb hown (hts _ kw_611) d_M_rank_5 ?_
  refine lv_land hx hb d_M_rank_8 ?_
  refine lv_l2i hx hb d_M_rank_9 rfl ?_
  refine lv_iconst (v := 1) hx hb d_M_rank_10 (by decide) ?_
  refine lv_isub hx hb d_M_rank_11 ?_
  exact r_iret C hP hD hS d_M_rank_12 h
def rm_M_lay : Room := { frames := 1, cells := 0, slots := 0, locals := 22 }
set_option maxHeartbeats 4000000 in
set_option maxRecDepth 100000 in
theorem b_M_lay_191 {p : Program} {l : Launch} {e : Env} {s : State} {m : MethodId} {args : Array Value} {below : List Frame} {meth : Method} {c : Code} {D : va_G} {cI cL cZ cS : ClassId} {ad : Nat → Nat} {wr : va_W} {A : Nat → Prop} {Q : Int32 → Mem → Prop} {K168 : Int64 → Int32 → Int32 → Int32 → Mem → Prop} (C : wC TB "PreferenceCountModel" c_M_lay 8 (some .int) D cls (tyl cI cL cZ cS) A p s m args meth c) (hK168 : ∀ {σ : Mem} {H : Heap} {locs : List Loc} {ls : Array Slot} {y1 : Int64} {x3 : Int32} {x4 : Int32} {x6 : Int32}, K168 y1 x3 x4 x6 σ → lv_has ls 8 [(0, .ref (ad 0)), (1, .long y1), (3, .int x3), (4, .int x4), (6, .int x6)] → va_P D cls (wW 12 (fM cI cL cZ ad) ad σ ++ wr) H → va_D A (wW 12 (fM cI cL cZ ad) ad σ ++ wr) → va_S A s.heap H locs → W p l e (headSpec (Cond.code y_M_lay c_M_lay 8 (some .int) :: TB) rm_M_lay).room s m args below meth c H locs 0 0 (MQ below (va_Qi Q (wB D cls (tyl cI cL cZ cS) 12 (fM cI cL cZ ad) ad wr A) A) args s 0 0 A) (F0 m 168 ls [])) : ∀ (n : Nat) {σ : Mem} {H : Heap} {locs : List Loc} {ls : Array Slot} {y1 : Int64} {x3 : Int32} {x4 : Int32} {x6 : Int32} {x7 : Int32}, wp_M_lay_191 Q K168 n y1 x3 x4 x6 x7 σ → lv_has ls 8 [(0, .ref (ad 0)), (1, .long y1), (3, .int x3), (4, .int x4), (6, .int x6), (7, .int x7)] → va_P D cls (wW 12 (fM cI cL cZ ad) ad σ ++ wr) H → va_D A (wW 12 (fM cI cL cZ ad) ad σ ++ wr) → va_S A s.heap H locs → W p l e (headSpec (Cond.code y_M_lay c_M_lay 8 (some .int) :: TB) rm_M_lay).room s m args below meth c H locs 0 0 (MQ below (va_Qi Q (wB D cls (tyl cI cL cZ cS) 12 (fM cI cL cZ ad) ad wr A) A) args s 0 0 A) (F0 m 191 ls []) := by
  have hx := C.1
  have hb := C.2.1
  have hts := C.2.2.2.2.1
  have hown := C.2.2.2.2.2.1
  have hml := C.2.2.2.2.2.2.1
  intro n
  induction n with
  | zero => intro σ H locs ls y1 x3 x4 x6 x7 h; exact h.elim
  | succ j191 ih =>
    intro σ H locs ls y1 x3 x4 x6 x7 h hl hP hD hS
    have hK191 := @ih
    have h : (x4 ≤ x7 → (∀ v223 : Int32, v223 = (x6 + 1) → (K168 y1 x3 x4 v223 σ))) ∧ (¬ x4 ≤ x7 → (wp_M_rank (fun r213 σ213 => vp_in (((7 : Int32) * x6) + x7) 350 ∧ (∀ σ216 : Mem, σ216 = mI σ213 3 (Int32.toNatClampNeg (((7 : Int32) * x6) + x7)) r213 → (∀ v217 : Int32, v217 = (x7 + 1) → ((wp_M_lay_191 Q K168 j191) y1 x3 x4 x6 v217 σ216)))) y1 x7 σ)) := h
    refine lv_iload hx hb d_M_lay_191 (lv_at hl 5 rfl) ?_
    refine lv_iload hx hb d_M_lay_193 (lv_at hl 3 rfl) ?_
    refine lv_icmp_ge hx hb d_M_lay_195 rfl (fun hc195 => ?_) (fun hc195 => ?_)
    · have h := h.1 hc195
      obtain ⟨v223, e223⟩ : ∃ z : Int32, z = (x6 + 1) := ⟨_, rfl⟩
      have h := h v223 e223
      refine lv_iinc (k := 4) (v := v223) (lv' := [(6, .int v223), (0, .ref (ad 0)), (1, .long y1), (3, .int x3), (4, .int x4), (7, .int x7)]) hx hb d_M_lay_223 hl rfl (by rw [e223] <;> rfl) (by decide) rfl (fun ls hl => ?_)
      refine lv_goto hx hb d_M_lay_226 rfl ?_
      exact hK168 h (lv_sub hl [1, 2, 3, 4, 0] rfl) hP hD hS
    · have h := h.2 hc195
      refine lv_aload_n hx hb d_M_lay_198 rfl (lv_at hl 0 rfl) ?_
      refine r_get C ku_M hP (by decide) rfl rfl 8 (by decide) kw_517 rfl d_M_lay_199 ?_
      refine lv_bipush (v := 7) hx hb d_M_lay_202 (by decide) ?_
      refine lv_iload hx hb d_M_lay_204 (lv_at hl 4 rfl) ?_
      refine lv_imul hx hb d_M_lay_206 ?_
      refine lv_iload hx hb d_M_lay_207 (lv_at hl 5 rfl) ?_
      refine lv_iadd hx hb d_M_lay_209 ?_
      refine lv_lload_n hx hb d_M_lay_210 rfl (lv_at hl 1 rfl) ?_
      refine lv_iload hx hb d_M_lay_211 (lv_at hl 5 rfl) ?_
      refine r_calli C hD hS (va_runS (As := [.long y1, .int x7]) (rest := [.int (((7 : Int32) * x6) + x7), .ref (ad 3)]) ⟨hx, hb, hml, hown, hts⟩ (m_M_rank h) (va_cwS 2 hts (g_S kw_608 kw_609 kw_7 kw_610) rfl rfl rfl (by decide +kernel) ⟨Nat.le_of_ble_eq_true rfl, Nat.le_of_ble_eq_true rfl⟩) (r_preS C hP hD hS) rfl rfl hl.1 rfl (lv_room (Nat.le_of_ble_eq_true rfl)) d_M_lay_213 ⟨Nat.le_of_ble_eq_true rfl, Nat.le_of_ble_eq_true rfl⟩) (fun r213 σ213 H locs h hP hD hS => ?_)
      obtain ⟨hi216, h⟩ := h
      refine r_iast C hP hD hS (by decide) (fun _ _ => rfl) rfl hi216 d_M_lay_216 (fun σ216 e216 H locs hP hD hS => ?_)
      have h := h σ216 e216
      obtain ⟨v217, e217⟩ : ∃ z : Int32, z = (x7 + 1) := ⟨_, rfl⟩
      have h := h v217 e217
      refine lv_iinc (k := 5) (v := v217) (lv' := [(7, .int v217), (0, .ref (ad 0)), (1, .long y1), (3, .int x3), (4, .int x4), (6, .int x6)]) hx hb d_M_lay_217 hl rfl (by rw [e217] <;> rfl) (by decide) rfl (fun ls hl => ?_)
      refine lv_goto hx hb d_M_lay_220 rfl ?_
      exact hK191 h (lv_sub hl [1, 2, 3, 4, 5, 0] rfl) hP hD hS
set_option maxHeartbeats 4000000 in
set_option maxRecDepth 100000 in
theorem b_M_lay_168 {p : Program} {l : Launch} {e : Env} {s : State} {m : MethodId} {args : Array Value} {below : List Frame} {meth : Method} {c : Code} {D : va_G} {cI cL cZ cS : ClassId} {ad : Nat → Nat} {wr : va_W} {A : Nat → Prop} {Q : Int32 → Mem → Prop} (C : wC TB "PreferenceCountModel" c_M_lay 8 (some .int) D cls (tyl cI cL cZ cS) A p s m args meth c) : ∀ (n : Nat) {σ : Mem} {H : Heap} {locs : List Loc} {ls : Array Slot} {y1 : Int64} {x3 : Int32} {x4 : Int32} {x6 : Int32}, wp_M_lay_168 Q n y1 x3 x4 x6 σ → lv_has ls 8 [(0, .ref (ad 0)), (1, .long y1), (3, .int x3), (4, .int x4), (6, .int x6)] → va_P D cls (wW 12 (fM cI cL cZ ad) ad σ ++ wr) H → va_D A (wW 12 (fM cI cL cZ ad) ad σ ++ wr) → va_S A s.heap H locs → W p l e (headSpec (Cond.code y_M_lay c_M_lay 8 (some .int) :: TB) rm_M_lay).room s m args below meth c H locs 0 0 (MQ below (va_Qi Q (wB D cls (tyl cI cL cZ cS) 12 (fM cI cL cZ ad) ad wr A) A) args s 0 0 A) (F0 m 168 ls []) := by
  have hx := C.1
  have hb := C.2.1
  have hts := C.2.2.2.2.1
  have hown := C.2.2.2.2.2.1
  have hml := C.2.2.2.2.2.2.1
  intro n
  induction n with
  | zero => intro σ H locs ls y1 x3 x4 x6 h; exact h.elim
  | succ j168 ih =>
    intro σ H locs ls y1 x3 x4 x6 h hl hP hD hS
    have hK168 := @ih
    have h : (((σ.1 0 7) + x3) ≤ x6 → (∀ σ236 : Mem, σ236 = mI σ 0 7 ((σ.1 0 7) + x3) → (Q (σ236.1 0 7) σ236))) ∧ (¬ ((σ.1 0 7) + x3) ≤ x6 → (vp_in x6 50 ∧ (∀ σ187 : Mem, σ187 = mI σ 4 (Int32.toNatClampNeg x6) x4 → (∃ k191 : Nat, wp_M_lay_191 Q (wp_M_lay_168 Q j168) k191 y1 x3 x4 x6 (0 : Int32) σ187)))) := h
    refine lv_iload hx hb d_M_lay_168 (lv_at hl 4 rfl) ?_
    refine lv_aload_n hx hb d_M_lay_170 rfl (lv_at hl 0 rfl) ?_
    refine r_get C ku_M hP (by decide) rfl rfl 7 (by decide) kw_516 rfl d_M_lay_171 ?_
    refine lv_iload_n hx hb d_M_lay_174 rfl (lv_at hl 2 rfl) ?_
    refine lv_iadd hx hb d_M_lay_175 ?_
    refine lv_icmp_ge hx hb d_M_lay_176 rfl (fun hc176 => ?_) (fun hc176 => ?_)
    · have h := h.1 hc176
      refine lv_aload_n hx hb d_M_lay_229 rfl (lv_at hl 0 rfl) ?_
      refine lv_dup hx hb d_M_lay_230 rfl ?_
      refine r_get C ku_M hP (by decide) rfl rfl 7 (by decide) kw_516 rfl d_M_lay_231 ?_
      refine lv_iload_n hx hb d_M_lay_234 rfl (lv_at hl 2 rfl) ?_
      refine lv_iadd hx hb d_M_lay_235 ?_
      refine r_putI (ty := .int) C ku_M ft_M fo_M fn_M hP hD hS (by decide) rfl rfl 7 (by decide) kw_516 rfl (by decide +kernel) rfl rfl (Nat.le_of_ble_eq_true rfl) d_M_lay_236 rfl (fun σ236 e236 H locs hP hD hS => ?_)
      have h := h σ236 e236
      refine lv_aload_n hx hb d_M_lay_239 rfl (lv_at hl 0 rfl) ?_
      refine r_get C ku_M hP (by decide) rfl rfl 7 (by decide) kw_516 rfl d_M_lay_240 ?_
      exact r_iret C hP hD hS d_M_lay_243 h
    · have h := h.2 hc176
      refine lv_aload_n hx hb d_M_lay_179 rfl (lv_at hl 0 rfl) ?_
      refine r_get C ku_M hP (by decide) rfl rfl 9 (by decide) kw_518 rfl d_M_lay_180 ?_
      refine lv_iload hx hb d_M_lay_183 (lv_at hl 4 rfl) ?_
      refine lv_iload hx hb d_M_lay_185 (lv_at hl 3 rfl) ?_
      obtain ⟨hi187, h⟩ := h
      refine r_iast C hP hD hS (by decide) (fun _ _ => rfl) rfl hi187 d_M_lay_187 (fun σ187 e187 H locs hP hD hS => ?_)
      have h := h σ187 e187
      refine lv_iconst (v := 0) hx hb d_M_lay_188 (by decide) ?_
      refine lv_istore (lv' := [(7, .int (0 : Int32)), (0, .ref (ad 0)), (1, .long y1), (3, .int x3), (4, .int x4), (6, .int x6)]) hx hb d_M_lay_189 hl (by decide) rfl (fun ls hl => ?_)
      obtain ⟨n, h⟩ := h
      exact b_M_lay_191 C hK168 n h (lv_sub hl [1, 2, 3, 4, 5, 0] rfl) hP hD hS
set_option maxHeartbeats 4000000 in
set_option maxRecDepth 100000 in
theorem b_M_lay_154 {p : Program} {l : Launch} {e : Env} {s : State} {m : MethodId} {args : Array Value} {below : List Frame} {meth : Method} {c : Code} {D : va_G} {cI cL cZ cS : ClassId} {ad : Nat → Nat} {wr : va_W} {A : Nat → Prop} {Q : Int32 → Mem → Prop} {y1 : Int64} {x3 : Int32} {x4 : Int32} {t0 : Int32} {σ : Mem} {H : Heap} {locs : List Loc} {ls : Array Slot} (C : wC TB "PreferenceCountModel" c_M_lay 8 (some .int) D cls (tyl cI cL cZ cS) A p s m args meth c) (h : wp_M_lay_154 Q y1 x3 x4 t0 σ) (hl : lv_has ls 8 [(0, .ref (ad 0)), (1, .long y1), (3, .int x3), (4, .int x4)]) (hP : va_P D cls (wW 12 (fM cI cL cZ ad) ad σ ++ wr) H) (hD : va_D A (wW 12 (fM cI cL cZ ad) ad σ ++ wr)) (hS : va_S A s.heap H locs) : W p l e (headSpec (Cond.code y_M_lay c_M_lay 8 (some .int) :: TB) rm_M_lay).room s m args below meth c H locs 0 0 (MQ below (va_Qi Q (wB D cls (tyl cI cL cZ cS) 12 (fM cI cL cZ ad) ad wr A) A) args s 0 0 A) (F0 m 154 ls [.int t0, .ref (ad 0)]) := by
  have hx := C.1
  have hb := C.2.1
  have hts := C.2.2.2.2.1
  have hown := C.2.2.2.2.2.1
  have hml := C.2.2.2.2.2.2.1
  have h : wp_M_says (fun r154 σ154 => (r154 = 0 → (Q (0 : Int32) σ154)) ∧ (¬ r154 = 0 → (∀ v166 : Int32, v166 = (σ154.1 0 7) → (∃ k168 : Nat, wp_M_lay_168 Q k168 y1 x3 x4 v166 σ154)))) t0 σ := h
  refine r_calli C hD hS (va_runV (As := [.int t0]) (rest := []) ⟨hx, hb, hml, hown, hts⟩ (m_M_says h) (cwV 1 hts (g_V kw_579 kw_581 kp_19 kw_7 kw_582) rfl rfl rfl (by decide +kernel) ⟨Nat.le_of_ble_eq_true rfl, Nat.le_of_ble_eq_true rfl⟩) (r_preV (o := 0) C hP hD hS (by decide) rfl rfl) rfl rfl hl.1 rfl (lv_room (Nat.le_of_ble_eq_true rfl)) d_M_lay_154 ⟨Nat.le_of_ble_eq_true rfl, Nat.le_of_ble_eq_true rfl⟩) (fun r154 σ154 H locs h hP hD hS => ?_)
  refine lv_if_ne hx hb d_M_lay_157 rfl (fun hc157 => ?_) (fun hc157 => ?_)
  · have h := h.2 hc157
    refine lv_aload_n hx hb d_M_lay_162 rfl (lv_at hl 0 rfl) ?_
    refine r_get C ku_M hP (by decide) rfl rfl 7 (by decide) kw_516 rfl d_M_lay_163 ?_
    refine lv_topi (fun v166 e166 => ?_)
    have h := h v166 e166
    refine lv_istore (lv' := [(6, .int v166), (0, .ref (ad 0)), (1, .long y1), (3, .int x3), (4, .int x4)]) hx hb d_M_lay_166 hl (by decide) rfl (fun ls hl => ?_)
    obtain ⟨n, h⟩ := h
    exact b_M_lay_168 C n h (lv_sub hl [1, 2, 3, 4, 0] rfl) hP hD hS
  · have h := h.1 hc157
    refine lv_iconst (v := 0) hx hb d_M_lay_160 (by decide) ?_
    exact r_iret C hP hD hS d_M_lay_161 h
set_option maxHeartbeats 4000000 in
set_option maxRecDepth 100000 in
theorem b_M_lay_153 {p : Program} {l : Launch} {e : Env} {s : State} {m : MethodId} {args : Array Value} {below : List Frame} {meth : Method} {c : Code} {D : va_G} {cI cL cZ cS : ClassId} {ad : Nat → Nat} {wr : va_W} {A : Nat → Prop} {Q : Int32 → Mem → Prop} {y1 : Int64} {x3 : Int32} {x4 : Int32} {σ : Mem} {H : Heap} {locs : List Loc} {ls : Array Slot} (C : wC TB "PreferenceCountModel" c_M_lay 8 (some .int) D cls (tyl cI cL cZ cS) A p s m args meth c) (h : wp_M_lay_153 Q y1 x3 x4 σ) (hl : lv_has ls 8 [(0, .ref (ad 0)), (1, .long y1), (3, .int x3), (4, .int x4)]) (hP : va_P D cls (wW 12 (fM cI cL cZ ad) ad σ ++ wr) H) (hD : va_D A (wW 12 (fM cI cL cZ ad) ad σ ++ wr)) (hS : va_S A s.heap H locs) : W p l e (headSpec (Cond.code y_M_lay c_M_lay 8 (some .int) :: TB) rm_M_lay).room s m args below meth c H locs 0 0 (MQ below (va_Qi Q (wB D cls (tyl cI cL cZ cS) 12 (fM cI cL cZ ad) ad wr A) A) args s 0 0 A) (F0 m 153 ls [.ref (ad 0)]) := by
  have hx := C.1
  have hb := C.2.1
  have hts := C.2.2.2.2.1
  have hown := C.2.2.2.2.2.1
  have hml := C.2.2.2.2.2.2.1
  have h : wp_M_lay_154 Q y1 x3 x4 (2 : Int32) σ := h
  refine lv_iconst (v := 2) hx hb d_M_lay_153 (by decide) ?_
  exact b_M_lay_154 C h (lv_sub hl [0, 1, 2, 3] rfl) hP hD hS
set_option maxHeartbeats 4000000 in
set_option maxRecDepth 100000 in
theorem b_M_lay_127 {p : Program} {l : Launch} {e : Env} {s : State} {m : MethodId} {args : Array Value} {below : List Frame} {meth : Method} {c : Code} {D : va_G} {cI cL cZ cS : ClassId} {ad : Nat → Nat} {wr : va_W} {A : Nat → Prop} {Q : Int32 → Mem → Prop} {y1 : Int64} {x3 : Int32} {x4 : Int32} {x5 : Int32} {σ : Mem} {H : Heap} {locs : List Loc} {ls : Array Slot} (C : wC TB "PreferenceCountModel" c_M_lay 8 (some .int) D cls (tyl cI cL cZ cS) A p s m args meth c) (h : wp_M_lay_127 Q y1 x3 x4 x5 σ) (hl : lv_has ls 8 [(0, .ref (ad 0)), (1, .long y1), (3, .int x3), (4, .int x4), (5, .int x5)]) (hP : va_P D cls (wW 12 (fM cI cL cZ ad) ad σ ++ wr) H) (hD : va_D A (wW 12 (fM cI cL cZ ad) ad σ ++ wr)) (hS : va_S A s.heap H locs) : W p l e (headSpec (Cond.code y_M_lay c_M_lay 8 (some .int) :: TB) rm_M_lay).room s m args below meth c H locs 0 0 (MQ below (va_Qi Q (wB D cls (tyl cI cL cZ cS) 12 (fM cI cL cZ ad) ad wr A) A) args s 0 0 A) (F0 m 127 ls []) := by
  have hx := C.1
  have hb := C.2.1
  have hts := C.2.2.2.2.1
  have hown := C.2.2.2.2.2.1
  have hml := C.2.2.2.2.2.2.1
  have h : ((σ.1 0 15) < 0 → ((x5 = 0 → (wp_M_lay_153 Q y1 x3 x4 σ)) ∧ (¬ x5 = 0 → ((x4 ≤ 0 → (wp_M_lay_153 Q y1 x3 x4 σ)) ∧ (¬ x4 ≤ 0 → (wp_M_lay_154 Q y1 x3 x4 (0 : Int32) σ)))))) ∧ (¬ (σ.1 0 15) < 0 → (wp_M_lay_154 Q y1 x3 x4 (1 : Int32) σ)) := h
  refine lv_aload_n hx hb d_M_lay_127 rfl (lv_at hl 0 rfl) ?_
  refine lv_aload_n hx hb d_M_lay_128 rfl (lv_at hl 0 rfl) ?_
  refine r_get C ku_M hP (by decide) rfl rfl 15 (by decide) kw_524 rfl d_M_lay_129 ?_
  refine lv_if_lt hx hb d_M_lay_132 rfl (fun hc132 => ?_) (fun hc132 => ?_)
  · have h := h.1 hc132
    refine lv_iload hx hb d_M_lay_139 (lv_at hl 4 rfl) ?_
    refine lv_if_eq hx hb d_M_lay_141 rfl (fun hc141 => ?_) (fun hc141 => ?_)
    · have h := h.1 hc141
      exact b_M_lay_153 C h (lv_sub hl [0, 1, 2, 3] rfl) hP hD hS
    · have h := h.2 hc141
      refine lv_iload hx hb d_M_lay_144 (lv_at hl 3 rfl) ?_
      refine lv_if_le hx hb d_M_lay_146 rfl (fun hc146 => ?_) (fun hc146 => ?_)
      · have h := h.1 hc146
        exact b_M_lay_153 C h (lv_sub hl [0, 1, 2, 3] rfl) hP hD hS
      · have h := h.2 hc146
        refine lv_iconst (v := 0) hx hb d_M_lay_149 (by decide) ?_
        refine lv_goto hx hb d_M_lay_150 rfl ?_
        exact b_M_lay_154 C h (lv_sub hl [0, 1, 2, 3] rfl) hP hD hS
  · have h := h.2 hc132
    refine lv_iconst (v := 1) hx hb d_M_lay_135 (by decide) ?_
    refine lv_goto hx hb d_M_lay_136 rfl ?_
    exact b_M_lay_154 C h (lv_sub hl [0, 1, 2, 3] rfl) hP hD hS
set_option maxHeartbeats 4000000 in
set_option maxRecDepth 100000 in
theorem b_M_lay_113 {p : Program} {l : Launch} {e : Env} {s : State} {m : MethodId} {args : Array Value} {below : List Frame} {meth : Method} {c : Code} {D : va_G} {cI cL cZ cS : ClassId} {ad : Nat → Nat} {wr : va_W} {A : Nat → Prop} {Q : Int32 → Mem → Prop} {K30 : Int64 → Int32 → Int32 → Int32 → Mem → Prop} {K81 : Int64 → Int32 → Int32 → Int32 → Int32 → Mem → Prop} {y1 : Int64} {x3 : Int32} {x4 : Int32} {x6 : Int32} {t0 : Int32} {σ : Mem} {H : Heap} {locs : List Loc} {ls : Array Slot} (C : wC TB "PreferenceCountModel" c_M_lay 8 (some .int) D cls (tyl cI cL cZ cS) A p s m args meth c) (hK30 : ∀ {σ : Mem} {H : Heap} {locs : List Loc} {ls : Array Slot} {y1 : Int64} {x3 : Int32} {x4 : Int32} {x5 : Int32}, K30 y1 x3 x4 x5 σ → lv_has ls 8 [(0, .ref (ad 0)), (1, .long y1), (3, .int x3), (4, .int x4), (5, .int x5)] → va_P D cls (wW 12 (fM cI cL cZ ad) ad σ ++ wr) H → va_D A (wW 12 (fM cI cL cZ ad) ad σ ++ wr) → va_S A s.heap H locs → W p l e (headSpec (Cond.code y_M_lay c_M_lay 8 (some .int) :: TB) rm_M_lay).room s m args below meth c H locs 0 0 (MQ below (va_Qi Q (wB D cls (tyl cI cL cZ cS) 12 (fM cI cL cZ ad) ad wr A) A) args s 0 0 A) (F0 m 30 ls [])) (hK81 : ∀ {σ : Mem} {H : Heap} {locs : List Loc} {ls : Array Slot} {y1 : Int64} {x3 : Int32} {x4 : Int32} {x5 : Int32} {x6 : Int32}, K81 y1 x3 x4 x5 x6 σ → lv_has ls 8 [(0, .ref (ad 0)), (1, .long y1), (3, .int x3), (4, .int x4), (5, .int x5), (6, .int x6)] → va_P D cls (wW 12 (fM cI cL cZ ad) ad σ ++ wr) H → va_D A (wW 12 (fM cI cL cZ ad) ad σ ++ wr) → va_S A s.heap H locs → W p l e (headSpec (Cond.code y_M_lay c_M_lay 8 (some .int) :: TB) rm_M_lay).room s m args below meth c H locs 0 0 (MQ below (va_Qi Q (wB D cls (tyl cI cL cZ cS) 12 (fM cI cL cZ ad) ad wr A) A) args s 0 0 A) (F0 m 81 ls [])) (h : wp_M_lay_113 Q K30 K81 y1 x3 x4 x6 t0 σ) (hl : lv_has ls 8 [(0, .ref (ad 0)), (1, .long y1), (3, .int x3), (4, .int x4), (6, .int x6)]) (hP : va_P D cls (wW 12 (fM cI cL cZ ad) ad σ ++ wr) H) (hD : va_D A (wW 12 (fM cI cL cZ ad) ad σ ++ wr)) (hS : va_S A s.heap H locs) : W p l e (headSpec (Cond.code y_M_lay c_M_lay 8 (some .int) :: TB) rm_M_lay).room s m args below meth c H locs 0 0 (MQ below (va_Qi Q (wB D cls (tyl cI cL cZ cS) 12 (fM cI cL cZ ad) ad wr A) A) args s 0 0 A) (F0 m 113 ls [.int t0]) := by
  have hx := C.1
  have hb := C.2.1
  have hts := C.2.2.2.2.1
  have hown := C.2.2.2.2.2.1
  have hml := C.2.2.2.2.2.2.1
  have h : ∀ v115 : Int32, v115 = (x6 + 1) → (K81 y1 x3 x4 t0 v115 σ) := h
  refine lv_istore (lv' := [(5, .int t0), (0, .ref (ad 0)), (1, .long y1), (3, .int x3), (4, .int x4), (6, .int x6)]) hx hb d_M_lay_113 hl (by decide) rfl (fun ls hl => ?_)
  obtain ⟨v115, e115⟩ : ∃ z : Int32, z = (x6 + 1) := ⟨_, rfl⟩
  have h := h v115 e115
  refine lv_iinc (k := 5) (v := v115) (lv' := [(6, .int v115), (5, .int t0), (0, .ref (ad 0)), (1, .long y1), (3, .int x3), (4, .int x4)]) hx hb d_M_lay_115 hl rfl (by rw [e115] <;> rfl) (by decide) rfl (fun ls hl => ?_)
  refine lv_goto hx hb d_M_lay_118 rfl ?_
  exact hK81 h (lv_sub hl [2, 3, 4, 5, 1, 0] rfl) hP hD hS
set_option maxHeartbeats 4000000 in
set_option maxRecDepth 100000 in
theorem b_M_lay_112 {p : Program} {l : Launch} {e : Env} {s : State} {m : MethodId} {args : Array Value} {below : List Frame} {meth : Method} {c : Code} {D : va_G} {cI cL cZ cS : ClassId} {ad : Nat → Nat} {wr : va_W} {A : Nat → Prop} {Q : Int32 → Mem → Prop} {K30 : Int64 → Int32 → Int32 → Int32 → Mem → Prop} {K81 : Int64 → Int32 → Int32 → Int32 → Int32 → Mem → Prop} {y1 : Int64} {x3 : Int32} {x4 : Int32} {x6 : Int32} {σ : Mem} {H : Heap} {locs : List Loc} {ls : Array Slot} (C : wC TB "PreferenceCountModel" c_M_lay 8 (some .int) D cls (tyl cI cL cZ cS) A p s m args meth c) (hK30 : ∀ {σ : Mem} {H : Heap} {locs : List Loc} {ls : Array Slot} {y1 : Int64} {x3 : Int32} {x4 : Int32} {x5 : Int32}, K30 y1 x3 x4 x5 σ → lv_has ls 8 [(0, .ref (ad 0)), (1, .long y1), (3, .int x3), (4, .int x4), (5, .int x5)] → va_P D cls (wW 12 (fM cI cL cZ ad) ad σ ++ wr) H → va_D A (wW 12 (fM cI cL cZ ad) ad σ ++ wr) → va_S A s.heap H locs → W p l e (headSpec (Cond.code y_M_lay c_M_lay 8 (some .int) :: TB) rm_M_lay).room s m args below meth c H locs 0 0 (MQ below (va_Qi Q (wB D cls (tyl cI cL cZ cS) 12 (fM cI cL cZ ad) ad wr A) A) args s 0 0 A) (F0 m 30 ls [])) (hK81 : ∀ {σ : Mem} {H : Heap} {locs : List Loc} {ls : Array Slot} {y1 : Int64} {x3 : Int32} {x4 : Int32} {x5 : Int32} {x6 : Int32}, K81 y1 x3 x4 x5 x6 σ → lv_has ls 8 [(0, .ref (ad 0)), (1, .long y1), (3, .int x3), (4, .int x4), (5, .int x5), (6, .int x6)] → va_P D cls (wW 12 (fM cI cL cZ ad) ad σ ++ wr) H → va_D A (wW 12 (fM cI cL cZ ad) ad σ ++ wr) → va_S A s.heap H locs → W p l e (headSpec (Cond.code y_M_lay c_M_lay 8 (some .int) :: TB) rm_M_lay).room s m args below meth c H locs 0 0 (MQ below (va_Qi Q (wB D cls (tyl cI cL cZ cS) 12 (fM cI cL cZ ad) ad wr A) A) args s 0 0 A) (F0 m 81 ls [])) (h : wp_M_lay_112 Q K30 K81 y1 x3 x4 x6 σ) (hl : lv_has ls 8 [(0, .ref (ad 0)), (1, .long y1), (3, .int x3), (4, .int x4), (6, .int x6)]) (hP : va_P D cls (wW 12 (fM cI cL cZ ad) ad σ ++ wr) H) (hD : va_D A (wW 12 (fM cI cL cZ ad) ad σ ++ wr)) (hS : va_S A s.heap H locs) : W p l e (headSpec (Cond.code y_M_lay c_M_lay 8 (some .int) :: TB) rm_M_lay).room s m args below meth c H locs 0 0 (MQ below (va_Qi Q (wB D cls (tyl cI cL cZ cS) 12 (fM cI cL cZ ad) ad wr A) A) args s 0 0 A) (F0 m 112 ls []) := by
  have hx := C.1
  have hb := C.2.1
  have hts := C.2.2.2.2.1
  have hown := C.2.2.2.2.2.1
  have hml := C.2.2.2.2.2.2.1
  have h : wp_M_lay_113 Q K30 K81 y1 x3 x4 x6 (0 : Int32) σ := h
  refine lv_iconst (v := 0) hx hb d_M_lay_112 (by decide) ?_
  exact b_M_lay_113 C hK30 hK81 h (lv_sub hl [0, 1, 2, 3, 4] rfl) hP hD hS
set_option maxHeartbeats 4000000 in
set_option maxRecDepth 100000 in
theorem b_M_lay_81 {p : Program} {l : Launch} {e : Env} {s : State} {m : MethodId} {args : Array Value} {below : List Frame} {meth : Method} {c : Code} {D : va_G} {cI cL cZ cS : ClassId} {ad : Nat → Nat} {wr : va_W} {A : Nat → Prop} {Q : Int32 → Mem → Prop} {K30 : Int64 → Int32 → Int32 → Int32 → Mem → Prop} (C : wC TB "PreferenceCountModel" c_M_lay 8 (some .int) D cls (tyl cI cL cZ cS) A p s m args meth c) (hK30 : ∀ {σ : Mem} {H : Heap} {locs : List Loc} {ls : Array Slot} {y1 : Int64} {x3 : Int32} {x4 : Int32} {x5 : Int32}, K30 y1 x3 x4 x5 σ → lv_has ls 8 [(0, .ref (ad 0)), (1, .long y1), (3, .int x3), (4, .int x4), (5, .int x5)] → va_P D cls (wW 12 (fM cI cL cZ ad) ad σ ++ wr) H → va_D A (wW 12 (fM cI cL cZ ad) ad σ ++ wr) → va_S A s.heap H locs → W p l e (headSpec (Cond.code y_M_lay c_M_lay 8 (some .int) :: TB) rm_M_lay).room s m args below meth c H locs 0 0 (MQ below (va_Qi Q (wB D cls (tyl cI cL cZ cS) 12 (fM cI cL cZ ad) ad wr A) A) args s 0 0 A) (F0 m 30 ls [])) : ∀ (n : Nat) {σ : Mem} {H : Heap} {locs : List Loc} {ls : Array Slot} {y1 : Int64} {x3 : Int32} {x4 : Int32} {x5 : Int32} {x6 : Int32}, wp_M_lay_81 Q K30 n y1 x3 x4 x5 x6 σ → lv_has ls 8 [(0, .ref (ad 0)), (1, .long y1), (3, .int x3), (4, .int x4), (5, .int x5), (6, .int x6)] → va_P D cls (wW 12 (fM cI cL cZ ad) ad σ ++ wr) H → va_D A (wW 12 (fM cI cL cZ ad) ad σ ++ wr) → va_S A s.heap H locs → W p l e (headSpec (Cond.code y_M_lay c_M_lay 8 (some .int) :: TB) rm_M_lay).room s m args below meth c H locs 0 0 (MQ below (va_Qi Q (wB D cls (tyl cI cL cZ cS) 12 (fM cI cL cZ ad) ad wr A) A) args s 0 0 A) (F0 m 81 ls []) := by
  have hx := C.1
  have hb := C.2.1
  have hts := C.2.2.2.2.1
  have hown := C.2.2.2.2.2.1
  have hml := C.2.2.2.2.2.2.1
  intro n
  induction n with
  | zero => intro σ H locs ls y1 x3 x4 x5 x6 h; exact h.elim
  | succ j81 ih =>
    intro σ H locs ls y1 x3 x4 x5 x6 h hl hP hD hS
    have hK81 := @ih
    have h : (x4 ≤ x6 → (∀ v121 : Int32, v121 = (x4 + 1) → (K30 y1 x3 v121 x5 σ))) ∧ (¬ x4 ≤ x6 → ((x5 = 0 → (wp_M_lay_112 Q K30 (wp_M_lay_81 Q K30 j81) y1 x3 x4 x6 σ)) ∧ (¬ x5 = 0 → (wp_M_rank (fun r96 σ96 => wp_M_rank (fun r102 σ102 => (r96 = r102 → (wp_M_lay_112 Q K30 (wp_M_lay_81 Q K30 j81) y1 x3 x4 x6 σ102)) ∧ (¬ r96 = r102 → (wp_M_lay_113 Q K30 (wp_M_lay_81 Q K30 j81) y1 x3 x4 x6 (1 : Int32) σ102))) y1 x4 σ96) y1 x6 σ)))) := h
    refine lv_iload hx hb d_M_lay_81 (lv_at hl 5 rfl) ?_
    refine lv_iload hx hb d_M_lay_83 (lv_at hl 3 rfl) ?_
    refine lv_icmp_ge hx hb d_M_lay_85 rfl (fun hc85 => ?_) (fun hc85 => ?_)
    · have h := h.1 hc85
      obtain ⟨v121, e121⟩ : ∃ z : Int32, z = (x4 + 1) := ⟨_, rfl⟩
      have h := h v121 e121
      refine lv_iinc (k := 3) (v := v121) (lv' := [(4, .int v121), (0, .ref (ad 0)), (1, .long y1), (3, .int x3), (5, .int x5), (6, .int x6)]) hx hb d_M_lay_121 hl rfl (by rw [e121] <;> rfl) (by decide) rfl (fun ls hl => ?_)
      refine lv_goto hx hb d_M_lay_124 rfl ?_
      exact hK30 h (lv_sub hl [1, 2, 3, 0, 4] rfl) hP hD hS
    · have h := h.2 hc85
      refine lv_iload hx hb d_M_lay_88 (lv_at hl 4 rfl) ?_
      refine lv_if_eq hx hb d_M_lay_90 rfl (fun hc90 => ?_) (fun hc90 => ?_)
      · have h := h.1 hc90
        exact b_M_lay_112 C hK30 hK81 h (lv_sub hl [0, 1, 2, 3, 5] rfl) hP hD hS
      · have h := h.2 hc90
        refine lv_lload_n hx hb d_M_lay_93 rfl (lv_at hl 1 rfl) ?_
        refine lv_iload hx hb d_M_lay_94 (lv_at hl 5 rfl) ?_
        refine r_calli C hD hS (va_runS (As := [.long y1, .int x6]) (rest := []) ⟨hx, hb, hml, hown, hts⟩ (m_M_rank h) (va_cwS 2 hts (g_S kw_608 kw_609 kw_7 kw_610) rfl rfl rfl (by decide +kernel) ⟨Nat.le_of_ble_eq_true rfl, Nat.le_of_ble_eq_true rfl⟩) (r_preS C hP hD hS) rfl rfl hl.1 rfl (lv_room (Nat.le_of_ble_eq_true rfl)) d_M_lay_96 ⟨Nat.le_of_ble_eq_true rfl, Nat.le_of_ble_eq_true rfl⟩) (fun r96 σ96 H locs h hP hD hS => ?_)
        refine lv_lload_n hx hb d_M_lay_99 rfl (lv_at hl 1 rfl) ?_
        refine lv_iload hx hb d_M_lay_100 (lv_at hl 3 rfl) ?_
        refine r_calli C hD hS (va_runS (As := [.long y1, .int x4]) (rest := [.int r96]) ⟨hx, hb, hml, hown, hts⟩ (m_M_rank h) (va_cwS 2 hts (g_S kw_608 kw_609 kw_7 kw_610) rfl rfl rfl (by decide +kernel) ⟨Nat.le_of_ble_eq_true rfl, Nat.le_of_ble_eq_true rfl⟩) (r_preS C hP hD hS) rfl rfl hl.1 rfl (lv_room (Nat.le_of_ble_eq_true rfl)) d_M_lay_102 ⟨Nat.le_of_ble_eq_true rfl, Nat.le_of_ble_eq_true rfl⟩) (fun r102 σ102 H locs h hP hD hS => ?_)
        refine lv_icmp_eq hx hb d_M_lay_105 rfl (fun hc105 => ?_) (fun hc105 => ?_)
        · have h := h.1 hc105
          exact b_M_lay_112 C hK30 hK81 h (lv_sub hl [0, 1, 2, 3, 5] rfl) hP hD hS
        · have h := h.2 hc105
          refine lv_iconst (v := 1) hx hb d_M_lay_108 (by decide) ?_
          refine lv_goto hx hb d_M_lay_109 rfl ?_
          exact b_M_lay_113 C hK30 hK81 h (lv_sub hl [0, 1, 2, 3, 5] rfl) hP hD hS
set_option maxHeartbeats 4000000 in
set_option maxRecDepth 100000 in
theorem b_M_lay_76 {p : Program} {l : Launch} {e : Env} {s : State} {m : MethodId} {args : Array Value} {below : List Frame} {meth : Method} {c : Code} {D : va_G} {cI cL cZ cS : ClassId} {ad : Nat → Nat} {wr : va_W} {A : Nat → Prop} {Q : Int32 → Mem → Prop} {K30 : Int64 → Int32 → Int32 → Int32 → Mem → Prop} {y1 : Int64} {x3 : Int32} {x4 : Int32} {t0 : Int32} {σ : Mem} {H : Heap} {locs : List Loc} {ls : Array Slot} (C : wC TB "PreferenceCountModel" c_M_lay 8 (some .int) D cls (tyl cI cL cZ cS) A p s m args meth c) (hK30 : ∀ {σ : Mem} {H : Heap} {locs : List Loc} {ls : Array Slot} {y1 : Int64} {x3 : Int32} {x4 : Int32} {x5 : Int32}, K30 y1 x3 x4 x5 σ → lv_has ls 8 [(0, .ref (ad 0)), (1, .long y1), (3, .int x3), (4, .int x4), (5, .int x5)] → va_P D cls (wW 12 (fM cI cL cZ ad) ad σ ++ wr) H → va_D A (wW 12 (fM cI cL cZ ad) ad σ ++ wr) → va_S A s.heap H locs → W p l e (headSpec (Cond.code y_M_lay c_M_lay 8 (some .int) :: TB) rm_M_lay).room s m args below meth c H locs 0 0 (MQ below (va_Qi Q (wB D cls (tyl cI cL cZ cS) 12 (fM cI cL cZ ad) ad wr A) A) args s 0 0 A) (F0 m 30 ls [])) (h : wp_M_lay_76 Q K30 y1 x3 x4 t0 σ) (hl : lv_has ls 8 [(0, .ref (ad 0)), (1, .long y1), (3, .int x3), (4, .int x4)]) (hP : va_P D cls (wW 12 (fM cI cL cZ ad) ad σ ++ wr) H) (hD : va_D A (wW 12 (fM cI cL cZ ad) ad σ ++ wr)) (hS : va_S A s.heap H locs) : W p l e (headSpec (Cond.code y_M_lay c_M_lay 8 (some .int) :: TB) rm_M_lay).room s m args below meth c H locs 0 0 (MQ below (va_Qi Q (wB D cls (tyl cI cL cZ cS) 12 (fM cI cL cZ ad) ad wr A) A) args s 0 0 A) (F0 m 76 ls [.int t0]) := by
  have hx := C.1
  have hb := C.2.1
  have hts := C.2.2.2.2.1
  have hown := C.2.2.2.2.2.1
  have hml := C.2.2.2.2.2.2.1
  have h : ∃ k81 : Nat, wp_M_lay_81 Q K30 k81 y1 x3 x4 t0 (0 : Int32) σ := h
  refine lv_istore (lv' := [(5, .int t0), (0, .ref (ad 0)), (1, .long y1), (3, .int x3), (4, .int x4)]) hx hb d_M_lay_76 hl (by decide) rfl (fun ls hl => ?_)
  refine lv_iconst (v := 0) hx hb d_M_lay_78 (by decide) ?_
  refine lv_istore (lv' := [(6, .int (0 : Int32)), (5, .int t0), (0, .ref (ad 0)), (1, .long y1), (3, .int x3), (4, .int x4)]) hx hb d_M_lay_79 hl (by decide) rfl (fun ls hl => ?_)
  obtain ⟨n, h⟩ := h
  exact b_M_lay_81 C hK30 n h (lv_sub hl [2, 3, 4, 5, 1, 0] rfl) hP hD hS
set_option maxHeartbeats 4000000 in
set_option maxRecDepth 100000 in
theorem b_M_lay_75 {p : Program} {l : Launch} {e : Env} {s : State} {m : MethodId} {args : Array Value} {below : List Frame} {meth : Method} {c : Code} {D : va_G} {cI cL cZ cS : ClassId} {ad : Nat → Nat} {wr : va_W} {A : Nat → Prop} {Q : Int32 → Mem → Prop} {K30 : Int64 → Int32 → Int32 → Int32 → Mem → Prop} {y1 : Int64} {x3 : Int32} {x4 : Int32} {σ : Mem} {H : Heap} {locs : List Loc} {ls : Array Slot} (C : wC TB "PreferenceCountModel" c_M_lay 8 (some .int) D cls (tyl cI cL cZ cS) A p s m args meth c) (hK30 : ∀ {σ : Mem} {H : Heap} {locs : List Loc} {ls : Array Slot} {y1 : Int64} {x3 : Int32} {x4 : Int32} {x5 : Int32}, K30 y1 x3 x4 x5 σ → lv_has ls 8 [(0, .ref (ad 0)), (1, .long y1), (3, .int x3), (4, .int x4), (5, .int x5)] → va_P D cls (wW 12 (fM cI cL cZ ad) ad σ ++ wr) H → va_D A (wW 12 (fM cI cL cZ ad) ad σ ++ wr) → va_S A s.heap H locs → W p l e (headSpec (Cond.code y_M_lay c_M_lay 8 (some .int) :: TB) rm_M_lay).room s m args below meth c H locs 0 0 (MQ below (va_Qi Q (wB D cls (tyl cI cL cZ cS) 12 (fM cI cL cZ ad) ad wr A) A) args s 0 0 A) (F0 m 30 ls [])) (h : wp_M_lay_75 Q K30 y1 x3 x4 σ) (hl : lv_has ls 8 [(0, .ref (ad 0)), (1, .long y1), (3, .int x3), (4, .int x4)]) (hP : va_P D cls (wW 12 (fM cI cL cZ ad) ad σ ++ wr) H) (hD : va_D A (wW 12 (fM cI cL cZ ad) ad σ ++ wr)) (hS : va_S A s.heap H locs) : W p l e (headSpec (Cond.code y_M_lay c_M_lay 8 (some .int) :: TB) rm_M_lay).room s m args below meth c H locs 0 0 (MQ below (va_Qi Q (wB D cls (tyl cI cL cZ cS) 12 (fM cI cL cZ ad) ad wr A) A) args s 0 0 A) (F0 m 75 ls []) := by
  have hx := C.1
  have hb := C.2.1
  have hts := C.2.2.2.2.1
  have hown := C.2.2.2.2.2.1
  have hml := C.2.2.2.2.2.2.1
  have h : wp_M_lay_76 Q K30 y1 x3 x4 (0 : Int32) σ := h
  refine lv_iconst (v := 0) hx hb d_M_lay_75 (by decide) ?_
  exact b_M_lay_76 C hK30 h (lv_sub hl [0, 1, 2, 3] rfl) hP hD hS
set_option maxHeartbeats 4000000 in
set_option maxRecDepth 100000 in
theorem b_M_lay_30 {p : Program} {l : Launch} {e : Env} {s : State} {m : MethodId} {args : Array Value} {below : List Frame} {meth : Method} {c : Code} {D : va_G} {cI cL cZ cS : ClassId} {ad : Nat → Nat} {wr : va_W} {A : Nat → Prop} {Q : Int32 → Mem → Prop} (C : wC TB "PreferenceCountModel" c_M_lay 8 (some .int) D cls (tyl cI cL cZ cS) A p s m args meth c) : ∀ (n : Nat) {σ : Mem} {H : Heap} {locs : List Loc} {ls : Array Slot} {y1 : Int64} {x3 : Int32} {x4 : Int32} {x5 : Int32}, wp_M_lay_30 Q n y1 x3 x4 x5 σ → lv_has ls 8 [(0, .ref (ad 0)), (1, .long y1), (3, .int x3), (4, .int x4), (5, .int x5)] → va_P D cls (wW 12 (fM cI cL cZ ad) ad σ ++ wr) H → va_D A (wW 12 (fM cI cL cZ ad) ad σ ++ wr) → va_S A s.heap H locs → W p l e (headSpec (Cond.code y_M_lay c_M_lay 8 (some .int) :: TB) rm_M_lay).room s m args below meth c H locs 0 0 (MQ below (va_Qi Q (wB D cls (tyl cI cL cZ cS) 12 (fM cI cL cZ ad) ad wr A) A) args s 0 0 A) (F0 m 30 ls []) := by
  have hx := C.1
  have hb := C.2.1
  have hts := C.2.2.2.2.1
  have hown := C.2.2.2.2.2.1
  have hml := C.2.2.2.2.2.2.1
  intro n
  induction n with
  | zero => intro σ H locs ls y1 x3 x4 x5 h; exact h.elim
  | succ j30 ih =>
    intro σ H locs ls y1 x3 x4 x5 h hl hP hD hS
    have hK30 := @ih
    have h : ((16 : Int32) ≤ x4 → (wp_M_lay_127 Q y1 x3 x4 x5 σ)) ∧ (¬ (16 : Int32) ≤ x4 → (wp_M_rank (fun r40 σ40 => (r40 < 0 → (wp_M_lay_127 Q y1 x3 x4 x5 σ40)) ∧ (¬ r40 < 0 → ((x5 = 0 → (wp_M_lay_75 Q (wp_M_lay_30 Q j30) y1 x3 x4 σ40)) ∧ (¬ x5 = 0 → (((7 : Int32) ≤ x4 → (wp_M_lay_75 Q (wp_M_lay_30 Q j30) y1 x3 x4 σ40)) ∧ (¬ (7 : Int32) ≤ x4 → (wp_M_rank (fun r61 σ61 => ((σ61.1 0 1) ≤ r61 → (wp_M_lay_75 Q (wp_M_lay_30 Q j30) y1 x3 x4 σ61)) ∧ (¬ (σ61.1 0 1) ≤ r61 → (wp_M_lay_76 Q (wp_M_lay_30 Q j30) y1 x3 x4 (1 : Int32) σ61))) y1 x4 σ40))))))) y1 x4 σ)) := h
    refine lv_iload hx hb d_M_lay_30 (lv_at hl 3 rfl) ?_
    refine lv_bipush (v := 16) hx hb d_M_lay_32 (by decide) ?_
    refine lv_icmp_ge hx hb d_M_lay_34 rfl (fun hc34 => ?_) (fun hc34 => ?_)
    · have h := h.1 hc34
      exact b_M_lay_127 C h (lv_sub hl [0, 1, 2, 3, 4] rfl) hP hD hS
    · have h := h.2 hc34
      refine lv_lload_n hx hb d_M_lay_37 rfl (lv_at hl 1 rfl) ?_
      refine lv_iload hx hb d_M_lay_38 (lv_at hl 3 rfl) ?_
      refine r_calli C hD hS (va_runS (As := [.long y1, .int x4]) (rest := []) ⟨hx, hb, hml, hown, hts⟩ (m_M_rank h) (va_cwS 2 hts (g_S kw_608 kw_609 kw_7 kw_610) rfl rfl rfl (by decide +kernel) ⟨Nat.le_of_ble_eq_true rfl, Nat.le_of_ble_eq_true rfl⟩) (r_preS C hP hD hS) rfl rfl hl.1 rfl (lv_room (Nat.le_of_ble_eq_true rfl)) d_M_lay_40 ⟨Nat.le_of_ble_eq_true rfl, Nat.le_of_ble_eq_true rfl⟩) (fun r40 σ40 H locs h hP hD hS => ?_)
      refine lv_if_lt hx hb d_M_lay_43 rfl (fun hc43 => ?_) (fun hc43 => ?_)
      · have h := h.1 hc43
        exact b_M_lay_127 C h (lv_sub hl [0, 1, 2, 3, 4] rfl) hP hD hS
      · have h := h.2 hc43
        refine lv_iload hx hb d_M_lay_46 (lv_at hl 4 rfl) ?_
        refine lv_if_eq hx hb d_M_lay_48 rfl (fun hc48 => ?_) (fun hc48 => ?_)
        · have h := h.1 hc48
          exact b_M_lay_75 C hK30 h (lv_sub hl [0, 1, 2, 3] rfl) hP hD hS
        · have h := h.2 hc48
          refine lv_iload hx hb d_M_lay_51 (lv_at hl 3 rfl) ?_
          refine lv_bipush (v := 7) hx hb d_M_lay_53 (by decide) ?_
          refine lv_icmp_ge hx hb d_M_lay_55 rfl (fun hc55 => ?_) (fun hc55 => ?_)
          · have h := h.1 hc55
            exact b_M_lay_75 C hK30 h (lv_sub hl [0, 1, 2, 3] rfl) hP hD hS
          · have h := h.2 hc55
            refine lv_lload_n hx hb d_M_lay_58 rfl (lv_at hl 1 rfl) ?_
            refine lv_iload hx hb d_M_lay_59 (lv_at hl 3 rfl) ?_
            refine r_calli C hD hS (va_runS (As := [.long y1, .int x4]) (rest := []) ⟨hx, hb, hml, hown, hts⟩ (m_M_rank h) (va_cwS 2 hts (g_S kw_608 kw_609 kw_7 kw_610) rfl rfl rfl (by decide +kernel) ⟨Nat.le_of_ble_eq_true rfl, Nat.le_of_ble_eq_true rfl⟩) (r_preS C hP hD hS) rfl rfl hl.1 rfl (lv_room (Nat.le_of_ble_eq_true rfl)) d_M_lay_61 ⟨Nat.le_of_ble_eq_true rfl, Nat.le_of_ble_eq_true rfl⟩) (fun r61 σ61 H locs h hP hD hS => ?_)
            refine lv_aload_n hx hb d_M_lay_64 rfl (lv_at hl 0 rfl) ?_
            refine r_get C ku_M hP (by decide) rfl rfl 1 (by decide) kw_510 rfl d_M_lay_65 ?_
            refine lv_icmp_ge hx hb d_M_lay_68 rfl (fun hc68 => ?_) (fun hc68 => ?_)
            · have h := h.1 hc68
              exact b_M_lay_75 C hK30 h (lv_sub hl [0, 1, 2, 3] rfl) hP hD hS
            · have h := h.2 hc68
              refine lv_iconst (v := 1) hx hb d_M_lay_71 (by decide) ?_
              refine lv_goto hx hb d_M_lay_72 rfl ?_
              exact b_M_lay_76 C hK30 h (lv_sub hl [0, 1, 2, 3] rfl) hP hD hS
set_option maxHeartbeats 4000000 in
set_option maxRecDepth 100000 in
theorem b_M_lay_28 {p : Program} {l : Launch} {e : Env} {s : State} {m : MethodId} {args : Array Value} {below : List Frame} {meth : Method} {c : Code} {D : va_G} {cI cL cZ cS : ClassId} {ad : Nat → Nat} {wr : va_W} {A : Nat → Prop} {Q : Int32 → Mem → Prop} {y1 : Int64} {x3 : Int32} {x4 : Int32} {t0 : Int32} {σ : Mem} {H : Heap} {locs : List Loc} {ls : Array Slot} (C : wC TB "PreferenceCountModel" c_M_lay 8 (some .int) D cls (tyl cI cL cZ cS) A p s m args meth c) (h : wp_M_lay_28 Q y1 x3 x4 t0 σ) (hl : lv_has ls 8 [(0, .ref (ad 0)), (1, .long y1), (3, .int x3), (4, .int x4)]) (hP : va_P D cls (wW 12 (fM cI cL cZ ad) ad σ ++ wr) H) (hD : va_D A (wW 12 (fM cI cL cZ ad) ad σ ++ wr)) (hS : va_S A s.heap H locs) : W p l e (headSpec (Cond.code y_M_lay c_M_lay 8 (some .int) :: TB) rm_M_lay).room s m args below meth c H locs 0 0 (MQ below (va_Qi Q (wB D cls (tyl cI cL cZ cS) 12 (fM cI cL cZ ad) ad wr A) A) args s 0 0 A) (F0 m 28 ls [.int t0]) := by
  have hx := C.1
  have hb := C.2.1
  have hts := C.2.2.2.2.1
  have hown := C.2.2.2.2.2.1
  have hml := C.2.2.2.2.2.2.1
  have h : ∃ k30 : Nat, wp_M_lay_30 Q k30 y1 x3 x4 t0 σ := h
  refine lv_istore (lv' := [(5, .int t0), (0, .ref (ad 0)), (1, .long y1), (3, .int x3), (4, .int x4)]) hx hb d_M_lay_28 hl (by decide) rfl (fun ls hl => ?_)
  obtain ⟨n, h⟩ := h
  exact b_M_lay_30 C n h (lv_sub hl [1, 2, 3, 4, 0] rfl) hP hD hS
set_option maxHeartbeats 4000000 in
set_option maxRecDepth 100000 in
theorem b_M_lay_27 {p : Program} {l : Launch} {e : Env} {s : State} {m : MethodId} {args : Array Value} {below : List Frame} {meth : Method} {c : Code} {D : va_G} {cI cL cZ cS : ClassId} {ad : Nat → Nat} {wr : va_W} {A : Nat → Prop} {Q : Int32 → Mem → Prop} {y1 : Int64} {x3 : Int32} {x4 : Int32} {σ : Mem} {H : Heap} {locs : List Loc} {ls : Array Slot} (C : wC TB "PreferenceCountModel" c_M_lay 8 (some .int) D cls (tyl cI cL cZ cS) A p s m args meth c) (h : wp_M_lay_27 Q y1 x3 x4 σ) (hl : lv_has ls 8 [(0, .ref (ad 0)), (1, .long y1), (3, .int x3), (4, .int x4)]) (hP : va_P D cls (wW 12 (fM cI cL cZ ad) ad σ ++ wr) H) (hD : va_D A (wW 12 (fM cI cL cZ ad) ad σ ++ wr)) (hS : va_S A s.heap H locs) : W p l e (headSpec (Cond.code y_M_lay c_M_lay 8 (some .int) :: TB) rm_M_lay).room s m args below meth c H locs 0 0 (MQ below (va_Qi Q (wB D cls (tyl cI cL cZ cS) 12 (fM cI cL cZ ad) ad wr A) A) args s 0 0 A) (F0 m 27 ls []) := by
  have hx := C.1
  have hb := C.2.1
  have hts := C.2.2.2.2.1
  have hown := C.2.2.2.2.2.1
  have hml := C.2.2.2.2.2.2.1
  have h : wp_M_lay_28 Q y1 x3 x4 (0 : Int32) σ := h
  refine lv_iconst (v := 0) hx hb d_M_lay_27 (by decide) ?_
  exact b_M_lay_28 C h (lv_sub hl [0, 1, 2, 3] rfl) hP hD hS
set_option maxHeartbeats 4000000 in
set_option maxRecDepth 100000 in
theorem m_M_lay {l : Launch} {D : va_G} {cI cL cZ cS : ClassId} {ad : Nat → Nat} {wr : va_W} {sz : Nat} {Q : Int32 → Mem → Prop} {y1 : Int64} {x3 : Int32} {σ : Mem} (h : wp_M_lay Q y1 x3 σ) : Met l y_M_lay (Cond.code y_M_lay c_M_lay 8 (some .int) :: TB) rm_M_lay (wPc D cls (tyl cI cL cZ cS) 12 (fM cI cL cZ ad) ad wr sz σ [.ref (ad 0), .long y1, .int x3]) (va_Qi Q (wB D cls (tyl cI cL cZ cS) 12 (fM cI cL cZ ad) ad wr (wA 12 (fM cI cL cZ ad) ad wr sz σ)) (wA 12 (fM cI cL cZ ad) ad wr sz σ)) 0 0 (wA 12 (fM cI cL cZ ad) ad wr sz σ) := by
  refine Met.ofW (cc := c_M_lay) (maxL := 8) (ret := (some .int)) (by decide) rfl ?_
  intro p e s m args below meth c s₁ B hml hv
  obtain ⟨rfl, hsz, hP, hK, hD0, hN⟩ := hv
  subst hsz
  have hD : va_D (wA 12 (fM cI cL cZ ad) ad wr s.heap.size σ) (wW 12 (fM cI cL cZ ad) ad σ ++ wr) := hD0.self (sz := s.heap.size)
  have hA : ∀ q : Nat, s.heap.size ≤ q → (wA 12 (fM cI cL cZ ad) ad wr s.heap.size σ) q := fun q h => Or.inr h
  have hN : NX (wA 12 (fM cI cL cZ ad) ad wr s.heap.size σ) s s.heap := hN
  generalize (wA 12 (fM cI cL cZ ad) ad wr s.heap.size σ) = A at hD hA hN ⊢
  have C : wC TB "PreferenceCountModel" c_M_lay 8 (some .int) D cls (tyl cI cL cZ cS) A p s m ([.ref (ad 0), .long y1, .int x3].toArray) meth c := ⟨B.exec, B.bytes, B.returns, B.notSynchronized, fun w hw => atoms_spec (ws := Cond.code y_M_lay c_M_lay 8 (some .int) :: TB) B.pre w (List.mem_cons_of_mem _ hw), findClass_of_methodNamed B.named, hml, hK, hN, hA⟩
  have hx := C.1
  have hb := C.2.1
  have hts := C.2.2.2.2.1
  have hown := C.2.2.2.2.2.1
  have hS : va_S A s.heap s.heap [] := va_S.rf
  have hl := lv_entry ([.ref (ad 0), .long y1, .int x3]) (n := 8) (Nat.le_of_ble_eq_true rfl)
  rw [lg_entry_eq]
  generalize (lg_sl ([.ref (ad 0), .long y1, .int x3]) ++ List.replicate (8 - (lg_sl ([.ref (ad 0), .long y1, .int x3])).length) Slot.unset).toArray = ls at hl ⊢
  have hl : lv_has ls 8 [(0, .ref (ad 0)), (1, .long y1), (3, .int x3)] := hl
  have h : (x3 < (1 : Int32) → (wp_M_lay_27 Q y1 x3 (0 : Int32) σ)) ∧ (¬ x3 < (1 : Int32) → ((0 < (lg_cmp ((Int32.toInt64 (σ.1 0 7)) + (Int32.toInt64 x3)) (50 : Int64)) → (wp_M_lay_27 Q y1 x3 (0 : Int32) σ)) ∧ (¬ 0 < (lg_cmp ((Int32.toInt64 (σ.1 0 7)) + (Int32.toInt64 x3)) (50 : Int64)) → (wp_M_lay_28 Q y1 x3 (0 : Int32) (1 : Int32) σ)))) := h
  refine lv_iconst (v := 0) hx hb d_M_lay_0 (by decide) ?_
  refine lv_istore (lv' := [(4, .int (0 : Int32)), (0, .ref (ad 0)), (1, .long y1), (3, .int x3)]) hx hb d_M_lay_1 hl (by decide) rfl (fun ls hl => ?_)
  refine lv_iload_n hx hb d_M_lay_3 rfl (lv_at hl 3 rfl) ?_
  refine lv_iconst (v := 1) hx hb d_M_lay_4 (by decide) ?_
  refine lv_icmp_lt hx hb d_M_lay_5 rfl (fun hc5 => ?_) (fun hc5 => ?_)
  · have h := h.1 hc5
    exact b_M_lay_27 C h (lv_sub hl [1, 2, 3, 0] rfl) hP hD hS
  · have h := h.2 hc5
    refine lv_aload_n hx hb d_M_lay_8 rfl (lv_at hl 1 rfl) ?_
    refine r_get C ku_M hP (by decide) rfl rfl 7 (by decide) kw_516 rfl d_M_lay_9 ?_
    refine lv_i2l hx hb d_M_lay_12 rfl ?_
    refine lv_iload_n hx hb d_M_lay_13 rfl (lv_at hl 3 rfl) ?_
    refine lv_i2l hx hb d_M_lay_14 rfl ?_
    refine lv_ladd hx hb d_M_lay_15 ?_
    refine lv_ldc2 hx hb hown (hts _ kw_607) d_M_lay_16 ?_
    refine W.lcmp hx hb d_M_lay_19 ?_
    refine lv_if_gt hx hb d_M_lay_20 rfl (fun hc20 => ?_) (fun hc20 => ?_)
    · have h := h.1 hc20
      exact b_M_lay_27 C h (lv_sub hl [1, 2, 3, 0] rfl) hP hD hS
    · have h := h.2 hc20
      refine lv_iconst (v := 1) hx hb d_M_lay_23 (by decide) ?_
      refine lv_goto hx hb d_M_lay_24 rfl ?_
      exact b_M_lay_28 C h (lv_sub hl [1, 2, 3, 0] rfl) hP hD hS
def rm_M_common : Room := { frames := 0, cells := 0, slots := 0, locals := 0 }
set_option maxHeartbeats 4000000 in
set_option maxRecDepth 100000 in
theorem b_M_common_6 {p : Program} {l : Launch} {e : Env} {s : State} {m : MethodId} {args : Array Value} {below : List Frame} {meth : Method} {c : Code} {D : va_G} {cI cL cZ cS : ClassId} {ad : Nat → Nat} {wr : va_W} {A : Nat → Prop} {Q : Int64 → Mem → Prop} (C : wC TB "PreferenceCountModel" c_M_common 10 (some .long) D cls (tyl cI cL cZ cS) A p s m args meth c) : ∀ (n : Nat) {σ : Mem} {H : Heap} {locs : List Loc} {ls : Array Slot} {y4 : Int64} {y6 : Int64}, wp_M_common_6 Q n y4 y6 σ → lv_has ls 10 [(4, .long y4), (6, .long y6)] → va_P D cls (wW 12 (fM cI cL cZ ad) ad σ ++ wr) H → va_D A (wW 12 (fM cI cL cZ ad) ad σ ++ wr) → va_S A s.heap H locs → W p l e (headSpec (Cond.code y_M_common c_M_common 10 (some .long) :: TB) rm_M_common).room s m args below meth c H locs 0 0 (MQ below (va_Ql Q (wB D cls (tyl cI cL cZ cS) 12 (fM cI cL cZ ad) ad wr A) A) args s 0 0 A) (F0 m 6 ls []) := by
  have hx := C.1
  have hb := C.2.1
  have hts := C.2.2.2.2.1
  have hown := C.2.2.2.2.2.1
  have hml := C.2.2.2.2.2.2.1
  intro n
  induction n with
  | zero => intro σ H locs ls y4 y6 h; exact h.elim
  | succ j6 ih =>
    intro σ H locs ls y4 y6 h hl hP hD hS
    have hK6 := @ih
    have h : ((lg_cmp y6 (0 : Int64)) = 0 → (Q y4 σ)) ∧ (¬ (lg_cmp y6 (0 : Int64)) = 0 → ((¬ y6 = 0) ∧ (∀ v18 : Int64, v18 = (y4 - y4 / y6 * y6) → ((wp_M_common_6 Q j6) y6 v18 σ)))) := h
    refine lv_lload hx hb d_M_common_6 (lv_at hl 1 rfl) ?_
    refine lv_lconst (v := 0) hx hb d_M_common_8 (by decide) ?_
    refine W.lcmp hx hb d_M_common_9 ?_
    refine lv_if_eq hx hb d_M_common_10 rfl (fun hc10 => ?_) (fun hc10 => ?_)
    · have h := h.1 hc10
      refine lv_lload hx hb d_M_common_31 (lv_at hl 0 rfl) ?_
      exact r_lret C hP hD hS d_M_common_33 h
    · have h := h.2 hc10
      refine lv_lload hx hb d_M_common_13 (lv_at hl 0 rfl) ?_
      refine lv_lload hx hb d_M_common_15 (lv_at hl 1 rfl) ?_
      obtain ⟨hz17, h⟩ := h
      refine lv_lrem hx hb d_M_common_17 hz17 ?_
      refine lv_topl (fun v18 e18 => ?_)
      have h := h v18 e18
      refine lv_lstore (lv' := [(8, .long v18), (4, .long y4), (6, .long y6)]) hx hb d_M_common_18 hl (by decide) rfl (fun ls hl => ?_)
      refine lv_lload hx hb d_M_common_20 (lv_at hl 2 rfl) ?_
      refine lv_lstore (lv' := [(4, .long y6), (8, .long v18), (6, .long y6)]) hx hb d_M_common_22 hl (by decide) rfl (fun ls hl => ?_)
      refine lv_lload hx hb d_M_common_24 (lv_at hl 1 rfl) ?_
      refine lv_lstore (lv' := [(6, .long v18), (4, .long y6), (8, .long v18)]) hx hb d_M_common_26 hl (by decide) rfl (fun ls hl => ?_)
      refine lv_goto hx hb d_M_common_28 rfl ?_
      exact hK6 h (lv_sub hl [1, 0] rfl) hP hD hS
set_option maxHeartbeats 4000000 in
set_option maxRecDepth 100000 in
theorem m_M_common {l : Launch} {D : va_G} {cI cL cZ cS : ClassId} {ad : Nat → Nat} {wr : va_W} {sz : Nat} {Q : Int64 → Mem → Prop} {y0 : Int64} {y2 : Int64} {σ : Mem} (h : wp_M_common Q y0 y2 σ) : Met l y_M_common (Cond.code y_M_common c_M_common 10 (some .long) :: TB) rm_M_common (wPc D cls (tyl cI cL cZ cS) 12 (fM cI cL cZ ad) ad wr sz σ [.long y0, .long y2]) (va_Ql Q (wB D cls (tyl cI cL cZ cS) 12 (fM cI cL cZ ad) ad wr (wA 12 (fM cI cL cZ ad) ad wr sz σ)) (wA 12 (fM cI cL cZ ad) ad wr sz σ)) 0 0 (wA 12 (fM cI cL cZ ad) ad wr sz σ) := by
  refine Met.ofW (cc := c_M_common) (maxL := 10) (ret := (some .long)) (by decide) rfl ?_
  intro p e s m args below meth c s₁ B hml hv
  obtain ⟨rfl, hsz, hP, hK, hD0, hN⟩ := hv
  subst hsz
  have hD : va_D (wA 12 (fM cI cL cZ ad) ad wr s.heap.size σ) (wW 12 (fM cI cL cZ ad) ad σ ++ wr) := hD0.self (sz := s.heap.size)
  have hA : ∀ q : Nat, s.heap.size ≤ q → (wA 12 (fM cI cL cZ ad) ad wr s.heap.size σ) q := fun q h => Or.inr h
  have hN : NX (wA 12 (fM cI cL cZ ad) ad wr s.heap.size σ) s s.heap := hN
  generalize (wA 12 (fM cI cL cZ ad) ad wr s.heap.size σ) = A at hD hA hN ⊢
  have C : wC TB "PreferenceCountModel" c_M_common 10 (some .long) D cls (tyl cI cL cZ cS) A p s m ([.long y0, .long y2].toArray) meth c := ⟨B.exec, B.bytes, B.returns, B.notSynchronized, fun w hw => atoms_spec (ws := Cond.code y_M_common c_M_common 10 (some .long) :: TB) B.pre w (List.mem_cons_of_mem _ hw), findClass_of_methodNamed B.named, hml, hK, hN, hA⟩
  have hx := C.1
  have hb := C.2.1
  have hts := C.2.2.2.2.1
  have hown := C.2.2.2.2.2.1
  have hS : va_S A s.heap s.heap [] := va_S.rf
  have hl := lv_entry ([.long y0, .long y2]) (n := 10) (Nat.le_of_ble_eq_true rfl)
  rw [lg_entry_eq]
  generalize (lg_sl ([.long y0, .long y2]) ++ List.replicate (10 - (lg_sl ([.long y0, .long y2])).length) Slot.unset).toArray = ls at hl ⊢
  have hl : lv_has ls 10 [(0, .long y0), (2, .long y2)] := hl
  have h : ∃ k6 : Nat, wp_M_common_6 Q k6 y0 y2 σ := h
  refine lv_lload_n hx hb d_M_common_0 rfl (lv_at hl 0 rfl) ?_
  refine lv_lstore (lv' := [(4, .long y0), (0, .long y0), (2, .long y2)]) hx hb d_M_common_1 hl (by decide) rfl (fun ls hl => ?_)
  refine lv_lload_n hx hb d_M_common_3 rfl (lv_at hl 2 rfl) ?_
  refine lv_lstore (lv' := [(6, .long y2), (4, .long y0), (0, .long y0), (2, .long y2)]) hx hb d_M_common_4 hl (by decide) rfl (fun ls hl => ?_)
  obtain ⟨n, h⟩ := h
  exact b_M_common_6 C n h (lv_sub hl [1, 0] rfl) hP hD hS
def rm_M_quota : Room := { frames := 0, cells := 0, slots := 0, locals := 0 }
set_option maxHeartbeats 4000000 in
set_option maxRecDepth 100000 in
theorem m_M_quota {l : Launch} {D : va_G} {cI cL cZ cS : ClassId} {ad : Nat → Nat} {wr : va_W} {sz : Nat} {Q : Int64 → Mem → Prop} {σ : Mem} (h : wp_M_quota Q σ) : Met l y_M_quota (Cond.code y_M_quota c_M_quota 1 (some .long) :: TB) rm_M_quota (wPc D cls (tyl cI cL cZ cS) 12 (fM cI cL cZ ad) ad wr sz σ [.ref (ad 0)]) (va_Ql Q (wB D cls (tyl cI cL cZ cS) 12 (fM cI cL cZ ad) ad wr (wA 12 (fM cI cL cZ ad) ad wr sz σ)) (wA 12 (fM cI cL cZ ad) ad wr sz σ)) 0 0 (wA 12 (fM cI cL cZ ad) ad wr sz σ) := by
  refine Met.ofW (cc := c_M_quota) (maxL := 1) (ret := (some .long)) (by decide) rfl ?_
  intro p e s m args below meth c s₁ B hml hv
  obtain ⟨rfl, hsz, hP, hK, hD0, hN⟩ := hv
  subst hsz
  have hD : va_D (wA 12 (fM cI cL cZ ad) ad wr s.heap.size σ) (wW 12 (fM cI cL cZ ad) ad σ ++ wr) := hD0.self (sz := s.heap.size)
  have hA : ∀ q : Nat, s.heap.size ≤ q → (wA 12 (fM cI cL cZ ad) ad wr s.heap.size σ) q := fun q h => Or.inr h
  have hN : NX (wA 12 (fM cI cL cZ ad) ad wr s.heap.size σ) s s.heap := hN
  generalize (wA 12 (fM cI cL cZ ad) ad wr s.heap.size σ) = A at hD hA hN ⊢
  have C : wC TB "PreferenceCountModel" c_M_quota 1 (some .long) D cls (tyl cI cL cZ cS) A p s m ([.ref (ad 0)].toArray) meth c := ⟨B.exec, B.bytes, B.returns, B.notSynchronized, fun w hw => atoms_spec (ws := Cond.code y_M_quota c_M_quota 1 (some .long) :: TB) B.pre w (List.mem_cons_of_mem _ hw), findClass_of_methodNamed B.named, hml, hK, hN, hA⟩
  have hx := C.1
  have hb := C.2.1
  have hts := C.2.2.2.2.1
  have hown := C.2.2.2.2.2.1
  have hS : va_S A s.heap s.heap [] := va_S.rf
  have hl := lv_entry ([.ref (ad 0)]) (n := 1) (Nat.le_of_ble_eq_true rfl)
  rw [lg_entry_eq]
  generalize (lg_sl ([.ref (ad 0)]) ++ List.replicate (1 - (lg_sl ([.ref (ad 0)])).length) Slot.unset).toArray = ls at hl ⊢
  have hl : lv_has ls 1 [(0, .ref (ad 0))] := hl
  have h : (¬ (Int32.toInt64 ((σ.1 0 2) + (1 : Int32))) = 0) ∧ (Q ((Int32.toInt64 (σ.1 0 7)) * ((σ.2 0 14) / (Int32.toInt64 ((σ.1 0 2) + (1 : Int32))))) σ) := h
  refine lv_aload_n hx hb d_M_quota_0 rfl (lv_at hl 0 rfl) ?_
  refine r_get C ku_M hP (by decide) rfl rfl 7 (by decide) kw_516 rfl d_M_quota_1 ?_
  refine lv_i2l hx hb d_M_quota_4 rfl ?_
  refine lv_aload_n hx hb d_M_quota_5 rfl (lv_at hl 0 rfl) ?_
  refine r_get C ku_M hP (by decide) rfl rfl 14 (by decide) kw_523 rfl d_M_quota_6 ?_
  refine lv_aload_n hx hb d_M_quota_9 rfl (lv_at hl 0 rfl) ?_
  refine r_get C ku_M hP (by decide) rfl rfl 2 (by decide) kw_511 rfl d_M_quota_10 ?_
  refine lv_iconst (v := 1) hx hb d_M_quota_13 (by decide) ?_
  refine lv_iadd hx hb d_M_quota_14 ?_
  refine lv_i2l hx hb d_M_quota_15 rfl ?_
  obtain ⟨hz16, h⟩ := h
  refine lv_ldiv hx hb d_M_quota_16 hz16 ?_
  refine lv_lmul hx hb d_M_quota_17 ?_
  exact r_lret C hP hD hS d_M_quota_18 h
def rm_M_lessen : Room := { frames := 1, cells := 0, slots := 0, locals := 29 }
set_option maxHeartbeats 4000000 in
set_option maxRecDepth 100000 in
theorem b_M_lessen_52 {p : Program} {l : Launch} {e : Env} {s : State} {m : MethodId} {args : Array Value} {below : List Frame} {meth : Method} {c : Code} {D : va_G} {cI cL cZ cS : ClassId} {ad : Nat → Nat} {wr : va_W} {A : Nat → Prop} {Q : Mem → Prop} (C : wC TB "PreferenceCountModel" c_M_lessen 4 none D cls (tyl cI cL cZ cS) A p s m args meth c) : ∀ (n : Nat) {σ : Mem} {H : Heap} {locs : List Loc} {ls : Array Slot} {y1 : Int64} {x3 : Int32}, wp_M_lessen_52 Q n y1 x3 σ → lv_has ls 4 [(0, .ref (ad 0)), (1, .long y1), (3, .int x3)] → va_P D cls (wW 12 (fM cI cL cZ ad) ad σ ++ wr) H → va_D A (wW 12 (fM cI cL cZ ad) ad σ ++ wr) → va_S A s.heap H locs → W p l e (headSpec (Cond.code y_M_lessen c_M_lessen 4 none :: TB) rm_M_lessen).room s m args below meth c H locs 0 0 (MQ below (va_Qv Q (wB D cls (tyl cI cL cZ cS) 12 (fM cI cL cZ ad) ad wr A) A) args s 0 0 A) (F0 m 52 ls []) := by
  have hx := C.1
  have hb := C.2.1
  have hts := C.2.2.2.2.1
  have hown := C.2.2.2.2.2.1
  have hml := C.2.2.2.2.2.2.1
  intro n
  induction n with
  | zero => intro σ H locs ls y1 x3 h; exact h.elim
  | succ j52 ih =>
    intro σ H locs ls y1 x3 h hl hP hD hS
    have hK52 := @ih
    have h : ((σ.1 0 7) ≤ x3 → (Q σ)) ∧ (¬ (σ.1 0 7) ≤ x3 → (vp_in x3 50 ∧ ((¬ y1 = 0) ∧ (vp_in x3 50 ∧ (∀ σ73 : Mem, σ73 = mL σ 7 (Int32.toNatClampNeg x3) ((σ.2 7 (Int32.toNatClampNeg x3)) / y1) → (∀ v74 : Int32, v74 = (x3 + 1) → ((wp_M_lessen_52 Q j52) y1 v74 σ73))))))) := h
    refine lv_iload_n hx hb d_M_lessen_52 rfl (lv_at hl 2 rfl) ?_
    refine lv_aload_n hx hb d_M_lessen_53 rfl (lv_at hl 0 rfl) ?_
    refine r_get C ku_M hP (by decide) rfl rfl 7 (by decide) kw_516 rfl d_M_lessen_54 ?_
    refine lv_icmp_ge hx hb d_M_lessen_57 rfl (fun hc57 => ?_) (fun hc57 => ?_)
    · have h := h.1 hc57
      exact r_vret C hP hD hS d_M_lessen_80 h
    · have h := h.2 hc57
      refine lv_aload_n hx hb d_M_lessen_60 rfl (lv_at hl 0 rfl) ?_
      refine r_get C ku_M hP (by decide) rfl rfl 12 (by decide) kw_521 rfl d_M_lessen_61 ?_
      refine lv_iload_n hx hb d_M_lessen_64 rfl (lv_at hl 2 rfl) ?_
      refine lv_aload_n hx hb d_M_lessen_65 rfl (lv_at hl 0 rfl) ?_
      refine r_get C ku_M hP (by decide) rfl rfl 12 (by decide) kw_521 rfl d_M_lessen_66 ?_
      refine lv_iload_n hx hb d_M_lessen_69 rfl (lv_at hl 2 rfl) ?_
      obtain ⟨hi70, h⟩ := h
      refine r_lald C hP (by decide) rfl rfl hi70 d_M_lessen_70 ?_
      refine lv_lload_n hx hb d_M_lessen_71 rfl (lv_at hl 1 rfl) ?_
      obtain ⟨hz72, h⟩ := h
      refine lv_ldiv hx hb d_M_lessen_72 hz72 ?_
      obtain ⟨hi73, h⟩ := h
      refine r_last C hP hD hS (by decide) (fun _ _ => rfl) rfl hi73 d_M_lessen_73 (fun σ73 e73 H locs hP hD hS => ?_)
      have h := h σ73 e73
      obtain ⟨v74, e74⟩ : ∃ z : Int32, z = (x3 + 1) := ⟨_, rfl⟩
      have h := h v74 e74
      refine lv_iinc (k := 2) (v := v74) (lv' := [(3, .int v74), (0, .ref (ad 0)), (1, .long y1)]) hx hb d_M_lessen_74 hl rfl (by rw [e74] <;> rfl) (by decide) rfl (fun ls hl => ?_)
      refine lv_goto hx hb d_M_lessen_77 rfl ?_
      exact hK52 h (lv_sub hl [1, 2, 0] rfl) hP hD hS
set_option maxHeartbeats 4000000 in
set_option maxRecDepth 100000 in
theorem b_M_lessen_15 {p : Program} {l : Launch} {e : Env} {s : State} {m : MethodId} {args : Array Value} {below : List Frame} {meth : Method} {c : Code} {D : va_G} {cI cL cZ cS : ClassId} {ad : Nat → Nat} {wr : va_W} {A : Nat → Prop} {Q : Mem → Prop} (C : wC TB "PreferenceCountModel" c_M_lessen 4 none D cls (tyl cI cL cZ cS) A p s m args meth c) : ∀ (n : Nat) {σ : Mem} {H : Heap} {locs : List Loc} {ls : Array Slot} {y1 : Int64} {x3 : Int32}, wp_M_lessen_15 Q n y1 x3 σ → lv_has ls 4 [(0, .ref (ad 0)), (1, .long y1), (3, .int x3)] → va_P D cls (wW 12 (fM cI cL cZ ad) ad σ ++ wr) H → va_D A (wW 12 (fM cI cL cZ ad) ad σ ++ wr) → va_S A s.heap H locs → W p l e (headSpec (Cond.code y_M_lessen c_M_lessen 4 none :: TB) rm_M_lessen).room s m args below meth c H locs 0 0 (MQ below (va_Qv Q (wB D cls (tyl cI cL cZ cS) 12 (fM cI cL cZ ad) ad wr A) A) args s 0 0 A) (F0 m 15 ls []) := by
  have hx := C.1
  have hb := C.2.1
  have hts := C.2.2.2.2.1
  have hown := C.2.2.2.2.2.1
  have hml := C.2.2.2.2.2.2.1
  intro n
  induction n with
  | zero => intro σ H locs ls y1 x3 h; exact h.elim
  | succ j15 ih =>
    intro σ H locs ls y1 x3 h hl hP hD hS
    have hK15 := @ih
    have h : ((σ.1 0 7) ≤ x3 → ((¬ y1 = 0) ∧ (∀ σ47 : Mem, σ47 = mL σ 0 14 ((σ.2 0 14) / y1) → (∃ k52 : Nat, wp_M_lessen_52 Q k52 y1 (0 : Int32) σ47)))) ∧ (¬ (σ.1 0 7) ≤ x3 → (vp_in x3 50 ∧ (wp_M_common (fun r30 σ30 => ∀ v34 : Int32, v34 = (x3 + 1) → ((wp_M_lessen_15 Q j15) r30 v34 σ30)) y1 (σ.2 7 (Int32.toNatClampNeg x3)) σ))) := h
    refine lv_iload_n hx hb d_M_lessen_15 rfl (lv_at hl 2 rfl) ?_
    refine lv_aload_n hx hb d_M_lessen_16 rfl (lv_at hl 0 rfl) ?_
    refine r_get C ku_M hP (by decide) rfl rfl 7 (by decide) kw_516 rfl d_M_lessen_17 ?_
    refine lv_icmp_ge hx hb d_M_lessen_20 rfl (fun hc20 => ?_) (fun hc20 => ?_)
    · have h := h.1 hc20
      refine lv_aload_n hx hb d_M_lessen_40 rfl (lv_at hl 0 rfl) ?_
      refine lv_aload_n hx hb d_M_lessen_41 rfl (lv_at hl 0 rfl) ?_
      refine r_get C ku_M hP (by decide) rfl rfl 14 (by decide) kw_523 rfl d_M_lessen_42 ?_
      refine lv_lload_n hx hb d_M_lessen_45 rfl (lv_at hl 1 rfl) ?_
      obtain ⟨hz46, h⟩ := h
      refine lv_ldiv hx hb d_M_lessen_46 hz46 ?_
      refine r_putL C ku_M ft_M fo_M fn_M hP hD hS (by decide) rfl rfl 14 (by decide) kw_523 rfl (by decide +kernel) (Nat.le_of_ble_eq_true rfl) d_M_lessen_47 rfl (fun σ47 e47 H locs hP hD hS => ?_)
      have h := h σ47 e47
      refine lv_iconst (v := 0) hx hb d_M_lessen_50 (by decide) ?_
      refine lv_istore_n (lv' := [(3, .int (0 : Int32)), (0, .ref (ad 0)), (1, .long y1)]) hx hb d_M_lessen_51 rfl hl (by decide) rfl (fun ls hl => ?_)
      obtain ⟨n, h⟩ := h
      exact b_M_lessen_52 C n h (lv_sub hl [1, 2, 0] rfl) hP hD hS
    · have h := h.2 hc20
      refine lv_lload_n hx hb d_M_lessen_23 rfl (lv_at hl 1 rfl) ?_
      refine lv_aload_n hx hb d_M_lessen_24 rfl (lv_at hl 0 rfl) ?_
      refine r_get C ku_M hP (by decide) rfl rfl 12 (by decide) kw_521 rfl d_M_lessen_25 ?_
      refine lv_iload_n hx hb d_M_lessen_28 rfl (lv_at hl 2 rfl) ?_
      obtain ⟨hi29, h⟩ := h
      refine r_lald C hP (by decide) rfl rfl hi29 d_M_lessen_29 ?_
      refine r_calll C hD hS (va_runS (As := [.long y1, .long (σ.2 7 (Int32.toNatClampNeg x3))]) (rest := []) ⟨hx, hb, hml, hown, hts⟩ (m_M_common h) (va_cwS 2 hts (g_S kw_632 kw_633 kw_7 kw_634) rfl rfl rfl (by decide +kernel) ⟨Nat.le_of_ble_eq_true rfl, Nat.le_of_ble_eq_true rfl⟩) (r_preS C hP hD hS) rfl rfl hl.1 rfl (lv_room (Nat.le_of_ble_eq_true rfl)) d_M_lessen_30 ⟨Nat.le_of_ble_eq_true rfl, Nat.le_of_ble_eq_true rfl⟩) (fun r30 σ30 H locs h hP hD hS => ?_)
      refine lv_lstore_n (lv' := [(1, .long r30), (0, .ref (ad 0)), (3, .int x3)]) hx hb d_M_lessen_33 rfl hl (by decide) rfl (fun ls hl => ?_)
      obtain ⟨v34, e34⟩ : ∃ z : Int32, z = (x3 + 1) := ⟨_, rfl⟩
      have h := h v34 e34
      refine lv_iinc (k := 2) (v := v34) (lv' := [(3, .int v34), (1, .long r30), (0, .ref (ad 0))]) hx hb d_M_lessen_34 hl rfl (by rw [e34] <;> rfl) (by decide) rfl (fun ls hl => ?_)
      refine lv_goto hx hb d_M_lessen_37 rfl ?_
      exact hK15 h (lv_sub hl [2, 1, 0] rfl) hP hD hS
set_option maxHeartbeats 4000000 in
set_option maxRecDepth 100000 in
theorem m_M_lessen {l : Launch} {D : va_G} {cI cL cZ cS : ClassId} {ad : Nat → Nat} {wr : va_W} {sz : Nat} {Q : Mem → Prop} {σ : Mem} (h : wp_M_lessen Q σ) : Met l y_M_lessen (Cond.code y_M_lessen c_M_lessen 4 none :: TB) rm_M_lessen (wPc D cls (tyl cI cL cZ cS) 12 (fM cI cL cZ ad) ad wr sz σ [.ref (ad 0)]) (va_Qv Q (wB D cls (tyl cI cL cZ cS) 12 (fM cI cL cZ ad) ad wr (wA 12 (fM cI cL cZ ad) ad wr sz σ)) (wA 12 (fM cI cL cZ ad) ad wr sz σ)) 0 0 (wA 12 (fM cI cL cZ ad) ad wr sz σ) := by
  refine Met.ofW (cc := c_M_lessen) (maxL := 4) (ret := none) (by decide) rfl ?_
  intro p e s m args below meth c s₁ B hml hv
  obtain ⟨rfl, hsz, hP, hK, hD0, hN⟩ := hv
  subst hsz
  have hD : va_D (wA 12 (fM cI cL cZ ad) ad wr s.heap.size σ) (wW 12 (fM cI cL cZ ad) ad σ ++ wr) := hD0.self (sz := s.heap.size)
  have hA : ∀ q : Nat, s.heap.size ≤ q → (wA 12 (fM cI cL cZ ad) ad wr s.heap.size σ) q := fun q h => Or.inr h
  have hN : NX (wA 12 (fM cI cL cZ ad) ad wr s.heap.size σ) s s.heap := hN
  generalize (wA 12 (fM cI cL cZ ad) ad wr s.heap.size σ) = A at hD hA hN ⊢
  have C : wC TB "PreferenceCountModel" c_M_lessen 4 none D cls (tyl cI cL cZ cS) A p s m ([.ref (ad 0)].toArray) meth c := ⟨B.exec, B.bytes, B.returns, B.notSynchronized, fun w hw => atoms_spec (ws := Cond.code y_M_lessen c_M_lessen 4 none :: TB) B.pre w (List.mem_cons_of_mem _ hw), findClass_of_methodNamed B.named, hml, hK, hN, hA⟩
  have hx := C.1
  have hb := C.2.1
  have hts := C.2.2.2.2.1
  have hown := C.2.2.2.2.2.1
  have hS : va_S A s.heap s.heap [] := va_S.rf
  have hl := lv_entry ([.ref (ad 0)]) (n := 4) (Nat.le_of_ble_eq_true rfl)
  rw [lg_entry_eq]
  generalize (lg_sl ([.ref (ad 0)]) ++ List.replicate (4 - (lg_sl ([.ref (ad 0)])).length) Slot.unset).toArray = ls at hl ⊢
  have hl : lv_has ls 4 [(0, .ref (ad 0))] := hl
  have h : (¬ (Int32.toInt64 ((σ.1 0 2) + (1 : Int32))) = 0) ∧ (∀ v12 : Int64, v12 = ((σ.2 0 14) / (Int32.toInt64 ((σ.1 0 2) + (1 : Int32)))) → (∃ k15 : Nat, wp_M_lessen_15 Q k15 v12 (0 : Int32) σ)) := h
  refine lv_aload_n hx hb d_M_lessen_0 rfl (lv_at hl 0 rfl) ?_
  refine r_get C ku_M hP (by decide) rfl rfl 14 (by decide) kw_523 rfl d_M_lessen_1 ?_
  refine lv_aload_n hx hb d_M_lessen_4 rfl (lv_at hl 0 rfl) ?_
  refine r_get C ku_M hP (by decide) rfl rfl 2 (by decide) kw_511 rfl d_M_lessen_5 ?_
  refine lv_iconst (v := 1) hx hb d_M_lessen_8 (by decide) ?_
  refine lv_iadd hx hb d_M_lessen_9 ?_
  refine lv_i2l hx hb d_M_lessen_10 rfl ?_
  obtain ⟨hz11, h⟩ := h
  refine lv_ldiv hx hb d_M_lessen_11 hz11 ?_
  refine lv_topl (fun v12 e12 => ?_)
  have h := h v12 e12
  refine lv_lstore_n (lv' := [(1, .long v12), (0, .ref (ad 0))]) hx hb d_M_lessen_12 rfl hl (by decide) rfl (fun ls hl => ?_)
  refine lv_iconst (v := 0) hx hb d_M_lessen_13 (by decide) ?_
  refine lv_istore_n (lv' := [(3, .int (0 : Int32)), (1, .long v12), (0, .ref (ad 0))]) hx hb d_M_lessen_14 rfl hl (by decide) rfl (fun ls hl => ?_)
  obtain ⟨n, h⟩ := h
  exact b_M_lessen_15 C n h (lv_sub hl [2, 1, 0] rfl) hP hD hS
def rm_M_sumOf : Room := { frames := 1, cells := 0, slots := 0, locals := 20 }
set_option maxHeartbeats 4000000 in
set_option maxRecDepth 100000 in
theorem b_M_sumOf_59 {p : Program} {l : Launch} {e : Env} {s : State} {m : MethodId} {args : Array Value} {below : List Frame} {meth : Method} {c : Code} {D : va_G} {cI cL cZ cS : ClassId} {ad : Nat → Nat} {wr : va_W} {A : Nat → Prop} {Q : Int64 → Mem → Prop} {K27 : Int32 → Int64 → Int32 → Mem → Prop} {x1 : Int32} {x4 : Int32} {u0 : Int64} {u1 : Int64} {σ : Mem} {H : Heap} {locs : List Loc} {ls : Array Slot} (C : wC TB "PreferenceCountModel" c_M_sumOf 5 (some .long) D cls (tyl cI cL cZ cS) A p s m args meth c) (hK27 : ∀ {σ : Mem} {H : Heap} {locs : List Loc} {ls : Array Slot} {x1 : Int32} {y2 : Int64} {x4 : Int32}, K27 x1 y2 x4 σ → lv_has ls 5 [(0, .ref (ad 0)), (1, .int x1), (2, .long y2), (4, .int x4)] → va_P D cls (wW 12 (fM cI cL cZ ad) ad σ ++ wr) H → va_D A (wW 12 (fM cI cL cZ ad) ad σ ++ wr) → va_S A s.heap H locs → W p l e (headSpec (Cond.code y_M_sumOf c_M_sumOf 5 (some .long) :: TB) rm_M_sumOf).room s m args below meth c H locs 0 0 (MQ below (va_Ql Q (wB D cls (tyl cI cL cZ cS) 12 (fM cI cL cZ ad) ad wr A) A) args s 0 0 A) (F0 m 27 ls [])) (h : wp_M_sumOf_59 Q K27 x1 x4 u0 u1 σ) (hl : lv_has ls 5 [(0, .ref (ad 0)), (1, .int x1), (4, .int x4)]) (hP : va_P D cls (wW 12 (fM cI cL cZ ad) ad σ ++ wr) H) (hD : va_D A (wW 12 (fM cI cL cZ ad) ad σ ++ wr)) (hS : va_S A s.heap H locs) : W p l e (headSpec (Cond.code y_M_sumOf c_M_sumOf 5 (some .long) :: TB) rm_M_sumOf).room s m args below meth c H locs 0 0 (MQ below (va_Ql Q (wB D cls (tyl cI cL cZ cS) 12 (fM cI cL cZ ad) ad wr A) A) args s 0 0 A) (F0 m 59 ls [.long u0, .long u1]) := by
  have hx := C.1
  have hb := C.2.1
  have hts := C.2.2.2.2.1
  have hown := C.2.2.2.2.2.1
  have hml := C.2.2.2.2.2.2.1
  have h : ∀ v60 : Int64, v60 = (u1 + u0) → (∀ v61 : Int32, v61 = (x4 + 1) → (K27 x1 v60 v61 σ)) := h
  refine lv_ladd hx hb d_M_sumOf_59 ?_
  refine lv_topl (fun v60 e60 => ?_)
  have h := h v60 e60
  refine lv_lstore_n (lv' := [(2, .long v60), (0, .ref (ad 0)), (1, .int x1), (4, .int x4)]) hx hb d_M_sumOf_60 rfl hl (by decide) rfl (fun ls hl => ?_)
  obtain ⟨v61, e61⟩ : ∃ z : Int32, z = (x4 + 1) := ⟨_, rfl⟩
  have h := h v61 e61
  refine lv_iinc (k := 3) (v := v61) (lv' := [(4, .int v61), (2, .long v60), (0, .ref (ad 0)), (1, .int x1)]) hx hb d_M_sumOf_61 hl rfl (by rw [e61] <;> rfl) (by decide) rfl (fun ls hl => ?_)
  refine lv_goto hx hb d_M_sumOf_64 rfl ?_
  exact hK27 h (lv_sub hl [2, 3, 1, 0] rfl) hP hD hS
set_option maxHeartbeats 4000000 in
set_option maxRecDepth 100000 in
theorem b_M_sumOf_27 {p : Program} {l : Launch} {e : Env} {s : State} {m : MethodId} {args : Array Value} {below : List Frame} {meth : Method} {c : Code} {D : va_G} {cI cL cZ cS : ClassId} {ad : Nat → Nat} {wr : va_W} {A : Nat → Prop} {Q : Int64 → Mem → Prop} (C : wC TB "PreferenceCountModel" c_M_sumOf 5 (some .long) D cls (tyl cI cL cZ cS) A p s m args meth c) : ∀ (n : Nat) {σ : Mem} {H : Heap} {locs : List Loc} {ls : Array Slot} {x1 : Int32} {y2 : Int64} {x4 : Int32}, wp_M_sumOf_27 Q n x1 y2 x4 σ → lv_has ls 5 [(0, .ref (ad 0)), (1, .int x1), (2, .long y2), (4, .int x4)] → va_P D cls (wW 12 (fM cI cL cZ ad) ad σ ++ wr) H → va_D A (wW 12 (fM cI cL cZ ad) ad σ ++ wr) → va_S A s.heap H locs → W p l e (headSpec (Cond.code y_M_sumOf c_M_sumOf 5 (some .long) :: TB) rm_M_sumOf).room s m args below meth c H locs 0 0 (MQ below (va_Ql Q (wB D cls (tyl cI cL cZ cS) 12 (fM cI cL cZ ad) ad wr A) A) args s 0 0 A) (F0 m 27 ls []) := by
  have hx := C.1
  have hb := C.2.1
  have hts := C.2.2.2.2.1
  have hown := C.2.2.2.2.2.1
  have hml := C.2.2.2.2.2.2.1
  intro n
  induction n with
  | zero => intro σ H locs ls x1 y2 x4 h; exact h.elim
  | succ j27 ih =>
    intro σ H locs ls x1 y2 x4 h hl hP hD hS
    have hK27 := @ih
    have h : ((σ.1 0 7) ≤ x4 → (Q y2 σ)) ∧ (¬ (σ.1 0 7) ≤ x4 → (vp_in x4 50 ∧ (((σ.1 6 (Int32.toNatClampNeg x4)) = x1 → (vp_in x4 50 ∧ (wp_M_sumOf_59 Q (wp_M_sumOf_27 Q j27) x1 x4 (σ.2 7 (Int32.toNatClampNeg x4)) y2 σ))) ∧ (¬ (σ.1 6 (Int32.toNatClampNeg x4)) = x1 → (wp_M_sumOf_59 Q (wp_M_sumOf_27 Q j27) x1 x4 (0 : Int64) y2 σ))))) := h
    refine lv_iload hx hb d_M_sumOf_27 (lv_at hl 3 rfl) ?_
    refine lv_aload_n hx hb d_M_sumOf_29 rfl (lv_at hl 0 rfl) ?_
    refine r_get C ku_M hP (by decide) rfl rfl 7 (by decide) kw_516 rfl d_M_sumOf_30 ?_
    refine lv_icmp_ge hx hb d_M_sumOf_33 rfl (fun hc33 => ?_) (fun hc33 => ?_)
    · have h := h.1 hc33
      refine lv_lload_n hx hb d_M_sumOf_67 rfl (lv_at hl 2 rfl) ?_
      exact r_lret C hP hD hS d_M_sumOf_68 h
    · have h := h.2 hc33
      refine lv_lload_n hx hb d_M_sumOf_36 rfl (lv_at hl 2 rfl) ?_
      refine lv_aload_n hx hb d_M_sumOf_37 rfl (lv_at hl 0 rfl) ?_
      refine r_get C ku_M hP (by decide) rfl rfl 11 (by decide) kw_520 rfl d_M_sumOf_38 ?_
      refine lv_iload hx hb d_M_sumOf_41 (lv_at hl 3 rfl) ?_
      obtain ⟨hi43, h⟩ := h
      refine r_iald C hP (by decide) rfl rfl hi43 d_M_sumOf_43 ?_
      refine lv_iload_n hx hb d_M_sumOf_44 rfl (lv_at hl 1 rfl) ?_
      refine lv_icmp_ne hx hb d_M_sumOf_45 rfl (fun hc45 => ?_) (fun hc45 => ?_)
      · have h := h.2 hc45
        refine lv_lconst (v := 0) hx hb d_M_sumOf_58 (by decide) ?_
        exact b_M_sumOf_59 C hK27 h (lv_sub hl [0, 1, 3] rfl) hP hD hS
      · have h := h.1 hc45
        refine lv_aload_n hx hb d_M_sumOf_48 rfl (lv_at hl 0 rfl) ?_
        refine r_get C ku_M hP (by decide) rfl rfl 12 (by decide) kw_521 rfl d_M_sumOf_49 ?_
        refine lv_iload hx hb d_M_sumOf_52 (lv_at hl 3 rfl) ?_
        obtain ⟨hi54, h⟩ := h
        refine r_lald C hP (by decide) rfl rfl hi54 d_M_sumOf_54 ?_
        refine lv_goto hx hb d_M_sumOf_55 rfl ?_
        exact b_M_sumOf_59 C hK27 h (lv_sub hl [0, 1, 3] rfl) hP hD hS
set_option maxHeartbeats 4000000 in
set_option maxRecDepth 100000 in
theorem b_M_sumOf_23 {p : Program} {l : Launch} {e : Env} {s : State} {m : MethodId} {args : Array Value} {below : List Frame} {meth : Method} {c : Code} {D : va_G} {cI cL cZ cS : ClassId} {ad : Nat → Nat} {wr : va_W} {A : Nat → Prop} {Q : Int64 → Mem → Prop} {x1 : Int32} {u0 : Int64} {σ : Mem} {H : Heap} {locs : List Loc} {ls : Array Slot} (C : wC TB "PreferenceCountModel" c_M_sumOf 5 (some .long) D cls (tyl cI cL cZ cS) A p s m args meth c) (h : wp_M_sumOf_23 Q x1 u0 σ) (hl : lv_has ls 5 [(0, .ref (ad 0)), (1, .int x1)]) (hP : va_P D cls (wW 12 (fM cI cL cZ ad) ad σ ++ wr) H) (hD : va_D A (wW 12 (fM cI cL cZ ad) ad σ ++ wr)) (hS : va_S A s.heap H locs) : W p l e (headSpec (Cond.code y_M_sumOf c_M_sumOf 5 (some .long) :: TB) rm_M_sumOf).room s m args below meth c H locs 0 0 (MQ below (va_Ql Q (wB D cls (tyl cI cL cZ cS) 12 (fM cI cL cZ ad) ad wr A) A) args s 0 0 A) (F0 m 23 ls [.long u0]) := by
  have hx := C.1
  have hb := C.2.1
  have hts := C.2.2.2.2.1
  have hown := C.2.2.2.2.2.1
  have hml := C.2.2.2.2.2.2.1
  have h : ∃ k27 : Nat, wp_M_sumOf_27 Q k27 x1 u0 (0 : Int32) σ := h
  refine lv_lstore_n (lv' := [(2, .long u0), (0, .ref (ad 0)), (1, .int x1)]) hx hb d_M_sumOf_23 rfl hl (by decide) rfl (fun ls hl => ?_)
  refine lv_iconst (v := 0) hx hb d_M_sumOf_24 (by decide) ?_
  refine lv_istore (lv' := [(4, .int (0 : Int32)), (2, .long u0), (0, .ref (ad 0)), (1, .int x1)]) hx hb d_M_sumOf_25 hl (by decide) rfl (fun ls hl => ?_)
  obtain ⟨n, h⟩ := h
  exact b_M_sumOf_27 C n h (lv_sub hl [2, 3, 1, 0] rfl) hP hD hS
set_option maxHeartbeats 4000000 in
set_option maxRecDepth 100000 in
theorem b_M_sumOf_22 {p : Program} {l : Launch} {e : Env} {s : State} {m : MethodId} {args : Array Value} {below : List Frame} {meth : Method} {c : Code} {D : va_G} {cI cL cZ cS : ClassId} {ad : Nat → Nat} {wr : va_W} {A : Nat → Prop} {Q : Int64 → Mem → Prop} {x1 : Int32} {σ : Mem} {H : Heap} {locs : List Loc} {ls : Array Slot} (C : wC TB "PreferenceCountModel" c_M_sumOf 5 (some .long) D cls (tyl cI cL cZ cS) A p s m args meth c) (h : wp_M_sumOf_22 Q x1 σ) (hl : lv_has ls 5 [(0, .ref (ad 0)), (1, .int x1)]) (hP : va_P D cls (wW 12 (fM cI cL cZ ad) ad σ ++ wr) H) (hD : va_D A (wW 12 (fM cI cL cZ ad) ad σ ++ wr)) (hS : va_S A s.heap H locs) : W p l e (headSpec (Cond.code y_M_sumOf c_M_sumOf 5 (some .long) :: TB) rm_M_sumOf).room s m args below meth c H locs 0 0 (MQ below (va_Ql Q (wB D cls (tyl cI cL cZ cS) 12 (fM cI cL cZ ad) ad wr A) A) args s 0 0 A) (F0 m 22 ls []) := by
  have hx := C.1
  have hb := C.2.1
  have hts := C.2.2.2.2.1
  have hown := C.2.2.2.2.2.1
  have hml := C.2.2.2.2.2.2.1
  have h : wp_M_sumOf_23 Q x1 (0 : Int64) σ := h
  refine lv_lconst (v := 0) hx hb d_M_sumOf_22 (by decide) ?_
  exact b_M_sumOf_23 C h (lv_sub hl [0, 1] rfl) hP hD hS
set_option maxHeartbeats 4000000 in
set_option maxRecDepth 100000 in
theorem m_M_sumOf {l : Launch} {D : va_G} {cI cL cZ cS : ClassId} {ad : Nat → Nat} {wr : va_W} {sz : Nat} {Q : Int64 → Mem → Prop} {x1 : Int32} {σ : Mem} (h : wp_M_sumOf Q x1 σ) : Met l y_M_sumOf (Cond.code y_M_sumOf c_M_sumOf 5 (some .long) :: TB) rm_M_sumOf (wPc D cls (tyl cI cL cZ cS) 12 (fM cI cL cZ ad) ad wr sz σ [.ref (ad 0), .int x1]) (va_Ql Q (wB D cls (tyl cI cL cZ cS) 12 (fM cI cL cZ ad) ad wr (wA 12 (fM cI cL cZ ad) ad wr sz σ)) (wA 12 (fM cI cL cZ ad) ad wr sz σ)) 0 0 (wA 12 (fM cI cL cZ ad) ad wr sz σ) := by
  refine Met.ofW (cc := c_M_sumOf) (maxL := 5) (ret := (some .long)) (by decide) rfl ?_
  intro p e s m args below meth c s₁ B hml hv
  obtain ⟨rfl, hsz, hP, hK, hD0, hN⟩ := hv
  subst hsz
  have hD : va_D (wA 12 (fM cI cL cZ ad) ad wr s.heap.size σ) (wW 12 (fM cI cL cZ ad) ad σ ++ wr) := hD0.self (sz := s.heap.size)
  have hA : ∀ q : Nat, s.heap.size ≤ q → (wA 12 (fM cI cL cZ ad) ad wr s.heap.size σ) q := fun q h => Or.inr h
  have hN : NX (wA 12 (fM cI cL cZ ad) ad wr s.heap.size σ) s s.heap := hN
  generalize (wA 12 (fM cI cL cZ ad) ad wr s.heap.size σ) = A at hD hA hN ⊢
  have C : wC TB "PreferenceCountModel" c_M_sumOf 5 (some .long) D cls (tyl cI cL cZ cS) A p s m ([.ref (ad 0), .int x1].toArray) meth c := ⟨B.exec, B.bytes, B.returns, B.notSynchronized, fun w hw => atoms_spec (ws := Cond.code y_M_sumOf c_M_sumOf 5 (some .long) :: TB) B.pre w (List.mem_cons_of_mem _ hw), findClass_of_methodNamed B.named, hml, hK, hN, hA⟩
  have hx := C.1
  have hb := C.2.1
  have hts := C.2.2.2.2.1
  have hown := C.2.2.2.2.2.1
  have hS : va_S A s.heap s.heap [] := va_S.rf
  have hl := lv_entry ([.ref (ad 0), .int x1]) (n := 5) (Nat.le_of_ble_eq_true rfl)
  rw [lg_entry_eq]
  generalize (lg_sl ([.ref (ad 0), .int x1]) ++ List.replicate (5 - (lg_sl ([.ref (ad 0), .int x1])).length) Slot.unset).toArray = ls at hl ⊢
  have hl : lv_has ls 5 [(0, .ref (ad 0)), (1, .int x1)] := hl
  have h : ((12 : Int32) ≤ x1 → (wp_M_sumOf_22 Q x1 σ)) ∧ (¬ (12 : Int32) ≤ x1 → (vp_in x1 12 ∧ (((σ.1 8 (Int32.toNatClampNeg x1)) = 0 → (wp_M_sumOf_22 Q x1 σ)) ∧ (¬ (σ.1 8 (Int32.toNatClampNeg x1)) = 0 → (wp_M_quota (fun r16 σ16 => wp_M_sumOf_23 Q x1 r16 σ16) σ))))) := h
  refine lv_iload_n hx hb d_M_sumOf_0 rfl (lv_at hl 1 rfl) ?_
  refine lv_bipush (v := 12) hx hb d_M_sumOf_1 (by decide) ?_
  refine lv_icmp_ge hx hb d_M_sumOf_3 rfl (fun hc3 => ?_) (fun hc3 => ?_)
  · have h := h.1 hc3
    exact b_M_sumOf_22 C h (lv_sub hl [0, 1] rfl) hP hD hS
  · have h := h.2 hc3
    refine lv_aload_n hx hb d_M_sumOf_6 rfl (lv_at hl 0 rfl) ?_
    refine r_get C ku_M hP (by decide) rfl rfl 13 (by decide) kw_522 rfl d_M_sumOf_7 ?_
    refine lv_iload_n hx hb d_M_sumOf_10 rfl (lv_at hl 1 rfl) ?_
    obtain ⟨hi11, h⟩ := h
    refine r_zald C hP (by decide) rfl rfl hi11 d_M_sumOf_11 ?_
    refine lv_if_eq hx hb d_M_sumOf_12 rfl (fun hc12 => ?_) (fun hc12 => ?_)
    · have h := h.1 hc12
      exact b_M_sumOf_22 C h (lv_sub hl [0, 1] rfl) hP hD hS
    · have h := h.2 hc12
      refine lv_aload_n hx hb d_M_sumOf_15 rfl (lv_at hl 0 rfl) ?_
      refine r_calll C hD hS (va_runV (As := []) (rest := []) ⟨hx, hb, hml, hown, hts⟩ (m_M_quota h) (cwV 0 hts (g_V kw_639 kw_641 kp_28 kw_7 kw_642) rfl rfl rfl (by decide +kernel) ⟨Nat.le_of_ble_eq_true rfl, Nat.le_of_ble_eq_true rfl⟩) (r_preV (o := 0) C hP hD hS (by decide) rfl rfl) rfl rfl hl.1 rfl (lv_room (Nat.le_of_ble_eq_true rfl)) d_M_sumOf_16 ⟨Nat.le_of_ble_eq_true rfl, Nat.le_of_ble_eq_true rfl⟩) (fun r16 σ16 H locs h hP hD hS => ?_)
      refine lv_goto hx hb d_M_sumOf_19 rfl ?_
      exact b_M_sumOf_23 C h (lv_sub hl [0, 1] rfl) hP hD hS
def rm_M_goOn : Room := { frames := 0, cells := 0, slots := 0, locals := 0 }
set_option maxHeartbeats 4000000 in
set_option maxRecDepth 100000 in
theorem b_M_goOn_75 {p : Program} {l : Launch} {e : Env} {s : State} {m : MethodId} {args : Array Value} {below : List Frame} {meth : Method} {c : Code} {D : va_G} {cI cL cZ cS : ClassId} {ad : Nat → Nat} {wr : va_W} {A : Nat → Prop} {Q : Mem → Prop} {x1 : Int32} {t0 : Int32} {t1 : Int32} {σ : Mem} {H : Heap} {locs : List Loc} {ls : Array Slot} (C : wC TB "PreferenceCountModel" c_M_goOn 4 none D cls (tyl cI cL cZ cS) A p s m args meth c) (h : wp_M_goOn_75 Q x1 t0 t1 σ) (hl : lv_has ls 4 [(0, .ref (ad 0)), (1, .int x1)]) (hP : va_P D cls (wW 12 (fM cI cL cZ ad) ad σ ++ wr) H) (hD : va_D A (wW 12 (fM cI cL cZ ad) ad σ ++ wr)) (hS : va_S A s.heap H locs) : W p l e (headSpec (Cond.code y_M_goOn c_M_goOn 4 none :: TB) rm_M_goOn).room s m args below meth c H locs 0 0 (MQ below (va_Qv Q (wB D cls (tyl cI cL cZ cS) 12 (fM cI cL cZ ad) ad wr A) A) args s 0 0 A) (F0 m 75 ls [.int t0, .int t1, .ref (ad 6)]) := by
  have hx := C.1
  have hb := C.2.1
  have hts := C.2.2.2.2.1
  have hown := C.2.2.2.2.2.1
  have hml := C.2.2.2.2.2.2.1
  have h : vp_in t1 50 ∧ (∀ σ75 : Mem, σ75 = mI σ 6 (Int32.toNatClampNeg t1) t0 → (vp_in x1 50 ∧ (vp_in (((13 : Int32) * (σ75.1 0 15)) + (σ75.1 6 (Int32.toNatClampNeg x1))) 260 ∧ (vp_in (((13 : Int32) * (σ75.1 0 15)) + (σ75.1 6 (Int32.toNatClampNeg x1))) 260 ∧ (∀ σ98 : Mem, σ98 = mI σ75 11 (Int32.toNatClampNeg (((13 : Int32) * (σ75.1 0 15)) + (σ75.1 6 (Int32.toNatClampNeg x1)))) ((σ75.1 11 (Int32.toNatClampNeg (((13 : Int32) * (σ75.1 0 15)) + (σ75.1 6 (Int32.toNatClampNeg x1))))) + (1 : Int32)) → (Q σ98)))))) := h
  obtain ⟨hi75, h⟩ := h
  refine r_iast C hP hD hS (by decide) (fun _ _ => rfl) rfl hi75 d_M_goOn_75 (fun σ75 e75 H locs hP hD hS => ?_)
  have h := h σ75 e75
  refine lv_aload_n hx hb d_M_goOn_76 rfl (lv_at hl 0 rfl) ?_
  refine r_get C ku_M hP (by decide) rfl rfl 18 (by decide) kw_527 rfl d_M_goOn_77 ?_
  refine lv_bipush (v := 13) hx hb d_M_goOn_80 (by decide) ?_
  refine lv_aload_n hx hb d_M_goOn_82 rfl (lv_at hl 0 rfl) ?_
  refine r_get C ku_M hP (by decide) rfl rfl 15 (by decide) kw_524 rfl d_M_goOn_83 ?_
  refine lv_imul hx hb d_M_goOn_86 ?_
  refine lv_aload_n hx hb d_M_goOn_87 rfl (lv_at hl 0 rfl) ?_
  refine r_get C ku_M hP (by decide) rfl rfl 11 (by decide) kw_520 rfl d_M_goOn_88 ?_
  refine lv_iload_n hx hb d_M_goOn_91 rfl (lv_at hl 1 rfl) ?_
  obtain ⟨hi92, h⟩ := h
  refine r_iald C hP (by decide) rfl rfl hi92 d_M_goOn_92 ?_
  refine lv_iadd hx hb d_M_goOn_93 ?_
  refine lv_dup2_11 hx hb d_M_goOn_94 rfl rfl ?_
  obtain ⟨hi95, h⟩ := h
  refine r_iald C hP (by decide) rfl rfl hi95 d_M_goOn_95 ?_
  refine lv_iconst (v := 1) hx hb d_M_goOn_96 (by decide) ?_
  refine lv_iadd hx hb d_M_goOn_97 ?_
  obtain ⟨hi98, h⟩ := h
  refine r_iast C hP hD hS (by decide) (fun _ _ => rfl) rfl hi98 d_M_goOn_98 (fun σ98 e98 H locs hP hD hS => ?_)
  have h := h σ98 e98
  exact r_vret C hP hD hS d_M_goOn_99 h
set_option maxHeartbeats 4000000 in
set_option maxRecDepth 100000 in
theorem b_M_goOn_37 {p : Program} {l : Launch} {e : Env} {s : State} {m : MethodId} {args : Array Value} {below : List Frame} {meth : Method} {c : Code} {D : va_G} {cI cL cZ cS : ClassId} {ad : Nat → Nat} {wr : va_W} {A : Nat → Prop} {Q : Mem → Prop} {x1 : Int32} {x3 : Int32} {σ : Mem} {H : Heap} {locs : List Loc} {ls : Array Slot} (C : wC TB "PreferenceCountModel" c_M_goOn 4 none D cls (tyl cI cL cZ cS) A p s m args meth c) (h : wp_M_goOn_37 Q x1 x3 σ) (hl : lv_has ls 4 [(0, .ref (ad 0)), (1, .int x1), (3, .int x3)]) (hP : va_P D cls (wW 12 (fM cI cL cZ ad) ad σ ++ wr) H) (hD : va_D A (wW 12 (fM cI cL cZ ad) ad σ ++ wr)) (hS : va_S A s.heap H locs) : W p l e (headSpec (Cond.code y_M_goOn c_M_goOn 4 none :: TB) rm_M_goOn).room s m args below meth c H locs 0 0 (MQ below (va_Qv Q (wB D cls (tyl cI cL cZ cS) 12 (fM cI cL cZ ad) ad wr A) A) args s 0 0 A) (F0 m 37 ls []) := by
  have hx := C.1
  have hb := C.2.1
  have hts := C.2.2.2.2.1
  have hown := C.2.2.2.2.2.1
  have hml := C.2.2.2.2.2.2.1
  have h : vp_in x1 50 ∧ (∀ σ43 : Mem, σ43 = mI σ 5 (Int32.toNatClampNeg x1) x3 → (vp_in x1 50 ∧ (((σ43.1 4 (Int32.toNatClampNeg x1)) ≤ x3 → (wp_M_goOn_75 Q x1 (12 : Int32) x1 σ43)) ∧ (¬ (σ43.1 4 (Int32.toNatClampNeg x1)) ≤ x3 → (vp_in (((7 : Int32) * x1) + x3) 350 ∧ (wp_M_goOn_75 Q x1 (σ43.1 3 (Int32.toNatClampNeg (((7 : Int32) * x1) + x3))) x1 σ43)))))) := h
  refine lv_aload_n hx hb d_M_goOn_37 rfl (lv_at hl 0 rfl) ?_
  refine r_get C ku_M hP (by decide) rfl rfl 10 (by decide) kw_519 rfl d_M_goOn_38 ?_
  refine lv_iload_n hx hb d_M_goOn_41 rfl (lv_at hl 1 rfl) ?_
  refine lv_iload_n hx hb d_M_goOn_42 rfl (lv_at hl 2 rfl) ?_
  obtain ⟨hi43, h⟩ := h
  refine r_iast C hP hD hS (by decide) (fun _ _ => rfl) rfl hi43 d_M_goOn_43 (fun σ43 e43 H locs hP hD hS => ?_)
  have h := h σ43 e43
  refine lv_aload_n hx hb d_M_goOn_44 rfl (lv_at hl 0 rfl) ?_
  refine r_get C ku_M hP (by decide) rfl rfl 11 (by decide) kw_520 rfl d_M_goOn_45 ?_
  refine lv_iload_n hx hb d_M_goOn_48 rfl (lv_at hl 1 rfl) ?_
  refine lv_iload_n hx hb d_M_goOn_49 rfl (lv_at hl 2 rfl) ?_
  refine lv_aload_n hx hb d_M_goOn_50 rfl (lv_at hl 0 rfl) ?_
  refine r_get C ku_M hP (by decide) rfl rfl 9 (by decide) kw_518 rfl d_M_goOn_51 ?_
  refine lv_iload_n hx hb d_M_goOn_54 rfl (lv_at hl 1 rfl) ?_
  obtain ⟨hi55, h⟩ := h
  refine r_iald C hP (by decide) rfl rfl hi55 d_M_goOn_55 ?_
  refine lv_icmp_ge hx hb d_M_goOn_56 rfl (fun hc56 => ?_) (fun hc56 => ?_)
  · have h := h.1 hc56
    refine lv_bipush (v := 12) hx hb d_M_goOn_73 (by decide) ?_
    exact b_M_goOn_75 C h (lv_sub hl [0, 1] rfl) hP hD hS
  · have h := h.2 hc56
    refine lv_aload_n hx hb d_M_goOn_59 rfl (lv_at hl 0 rfl) ?_
    refine r_get C ku_M hP (by decide) rfl rfl 8 (by decide) kw_517 rfl d_M_goOn_60 ?_
    refine lv_bipush (v := 7) hx hb d_M_goOn_63 (by decide) ?_
    refine lv_iload_n hx hb d_M_goOn_65 rfl (lv_at hl 1 rfl) ?_
    refine lv_imul hx hb d_M_goOn_66 ?_
    refine lv_iload_n hx hb d_M_goOn_67 rfl (lv_at hl 2 rfl) ?_
    refine lv_iadd hx hb d_M_goOn_68 ?_
    obtain ⟨hi69, h⟩ := h
    refine r_iald C hP (by decide) rfl rfl hi69 d_M_goOn_69 ?_
    refine lv_goto hx hb d_M_goOn_70 rfl ?_
    exact b_M_goOn_75 C h (lv_sub hl [0, 1] rfl) hP hD hS
set_option maxHeartbeats 4000000 in
set_option maxRecDepth 100000 in
theorem b_M_goOn_2 {p : Program} {l : Launch} {e : Env} {s : State} {m : MethodId} {args : Array Value} {below : List Frame} {meth : Method} {c : Code} {D : va_G} {cI cL cZ cS : ClassId} {ad : Nat → Nat} {wr : va_W} {A : Nat → Prop} {Q : Mem → Prop} (C : wC TB "PreferenceCountModel" c_M_goOn 4 none D cls (tyl cI cL cZ cS) A p s m args meth c) : ∀ (n : Nat) {σ : Mem} {H : Heap} {locs : List Loc} {ls : Array Slot} {x1 : Int32} {x3 : Int32}, wp_M_goOn_2 Q n x1 x3 σ → lv_has ls 4 [(0, .ref (ad 0)), (1, .int x1), (3, .int x3)] → va_P D cls (wW 12 (fM cI cL cZ ad) ad σ ++ wr) H → va_D A (wW 12 (fM cI cL cZ ad) ad σ ++ wr) → va_S A s.heap H locs → W p l e (headSpec (Cond.code y_M_goOn c_M_goOn 4 none :: TB) rm_M_goOn).room s m args below meth c H locs 0 0 (MQ below (va_Qv Q (wB D cls (tyl cI cL cZ cS) 12 (fM cI cL cZ ad) ad wr A) A) args s 0 0 A) (F0 m 2 ls []) := by
  have hx := C.1
  have hb := C.2.1
  have hts := C.2.2.2.2.1
  have hown := C.2.2.2.2.2.1
  have hml := C.2.2.2.2.2.2.1
  intro n
  induction n with
  | zero => intro σ H locs ls x1 x3 h; exact h.elim
  | succ j2 ih =>
    intro σ H locs ls x1 x3 h hl hP hD hS
    have hK2 := @ih
    have h : vp_in x1 50 ∧ (((σ.1 4 (Int32.toNatClampNeg x1)) ≤ x3 → (wp_M_goOn_37 Q x1 x3 σ)) ∧ (¬ (σ.1 4 (Int32.toNatClampNeg x1)) ≤ x3 → (vp_in (((7 : Int32) * x1) + x3) 350 ∧ (vp_in (σ.1 3 (Int32.toNatClampNeg (((7 : Int32) * x1) + x3))) 12 ∧ (((σ.1 2 (Int32.toNatClampNeg (σ.1 3 (Int32.toNatClampNeg (((7 : Int32) * x1) + x3))))) = 0 → (wp_M_goOn_37 Q x1 x3 σ)) ∧ (¬ (σ.1 2 (Int32.toNatClampNeg (σ.1 3 (Int32.toNatClampNeg (((7 : Int32) * x1) + x3))))) = 0 → (∀ v31 : Int32, v31 = (x3 + 1) → ((wp_M_goOn_2 Q j2) x1 v31 σ)))))))) := h
    refine lv_iload_n hx hb d_M_goOn_2 rfl (lv_at hl 2 rfl) ?_
    refine lv_aload_n hx hb d_M_goOn_3 rfl (lv_at hl 0 rfl) ?_
    refine r_get C ku_M hP (by decide) rfl rfl 9 (by decide) kw_518 rfl d_M_goOn_4 ?_
    refine lv_iload_n hx hb d_M_goOn_7 rfl (lv_at hl 1 rfl) ?_
    obtain ⟨hi8, h⟩ := h
    refine r_iald C hP (by decide) rfl rfl hi8 d_M_goOn_8 ?_
    refine lv_icmp_ge hx hb d_M_goOn_9 rfl (fun hc9 => ?_) (fun hc9 => ?_)
    · have h := h.1 hc9
      exact b_M_goOn_37 C h (lv_sub hl [0, 1, 2] rfl) hP hD hS
    · have h := h.2 hc9
      refine lv_aload_n hx hb d_M_goOn_12 rfl (lv_at hl 0 rfl) ?_
      refine r_get C ku_M hP (by decide) rfl rfl 4 (by decide) kw_513 rfl d_M_goOn_13 ?_
      refine lv_aload_n hx hb d_M_goOn_16 rfl (lv_at hl 0 rfl) ?_
      refine r_get C ku_M hP (by decide) rfl rfl 8 (by decide) kw_517 rfl d_M_goOn_17 ?_
      refine lv_bipush (v := 7) hx hb d_M_goOn_20 (by decide) ?_
      refine lv_iload_n hx hb d_M_goOn_22 rfl (lv_at hl 1 rfl) ?_
      refine lv_imul hx hb d_M_goOn_23 ?_
      refine lv_iload_n hx hb d_M_goOn_24 rfl (lv_at hl 2 rfl) ?_
      refine lv_iadd hx hb d_M_goOn_25 ?_
      obtain ⟨hi26, h⟩ := h
      refine r_iald C hP (by decide) rfl rfl hi26 d_M_goOn_26 ?_
      obtain ⟨hi27, h⟩ := h
      refine r_iald C hP (by decide) rfl rfl hi27 d_M_goOn_27 ?_
      refine lv_if_eq hx hb d_M_goOn_28 rfl (fun hc28 => ?_) (fun hc28 => ?_)
      · have h := h.1 hc28
        exact b_M_goOn_37 C h (lv_sub hl [0, 1, 2] rfl) hP hD hS
      · have h := h.2 hc28
        obtain ⟨v31, e31⟩ : ∃ z : Int32, z = (x3 + 1) := ⟨_, rfl⟩
        have h := h v31 e31
        refine lv_iinc (k := 2) (v := v31) (lv' := [(3, .int v31), (0, .ref (ad 0)), (1, .int x1)]) hx hb d_M_goOn_31 hl rfl (by rw [e31] <;> rfl) (by decide) rfl (fun ls hl => ?_)
        refine lv_goto hx hb d_M_goOn_34 rfl ?_
        exact hK2 h (lv_sub hl [1, 2, 0] rfl) hP hD hS
set_option maxHeartbeats 4000000 in
set_option maxRecDepth 100000 in
theorem m_M_goOn {l : Launch} {D : va_G} {cI cL cZ cS : ClassId} {ad : Nat → Nat} {wr : va_W} {sz : Nat} {Q : Mem → Prop} {x1 : Int32} {x2 : Int32} {σ : Mem} (h : wp_M_goOn Q x1 x2 σ) : Met l y_M_goOn (Cond.code y_M_goOn c_M_goOn 4 none :: TB) rm_M_goOn (wPc D cls (tyl cI cL cZ cS) 12 (fM cI cL cZ ad) ad wr sz σ [.ref (ad 0), .int x1, .int x2]) (va_Qv Q (wB D cls (tyl cI cL cZ cS) 12 (fM cI cL cZ ad) ad wr (wA 12 (fM cI cL cZ ad) ad wr sz σ)) (wA 12 (fM cI cL cZ ad) ad wr sz σ)) 0 0 (wA 12 (fM cI cL cZ ad) ad wr sz σ) := by
  refine Met.ofW (cc := c_M_goOn) (maxL := 4) (ret := none) (by decide) rfl ?_
  intro p e s m args below meth c s₁ B hml hv
  obtain ⟨rfl, hsz, hP, hK, hD0, hN⟩ := hv
  subst hsz
  have hD : va_D (wA 12 (fM cI cL cZ ad) ad wr s.heap.size σ) (wW 12 (fM cI cL cZ ad) ad σ ++ wr) := hD0.self (sz := s.heap.size)
  have hA : ∀ q : Nat, s.heap.size ≤ q → (wA 12 (fM cI cL cZ ad) ad wr s.heap.size σ) q := fun q h => Or.inr h
  have hN : NX (wA 12 (fM cI cL cZ ad) ad wr s.heap.size σ) s s.heap := hN
  generalize (wA 12 (fM cI cL cZ ad) ad wr s.heap.size σ) = A at hD hA hN ⊢
  have C : wC TB "PreferenceCountModel" c_M_goOn 4 none D cls (tyl cI cL cZ cS) A p s m ([.ref (ad 0), .int x1, .int x2].toArray) meth c := ⟨B.exec, B.bytes, B.returns, B.notSynchronized, fun w hw => atoms_spec (ws := Cond.code y_M_goOn c_M_goOn 4 none :: TB) B.pre w (List.mem_cons_of_mem _ hw), findClass_of_methodNamed B.named, hml, hK, hN, hA⟩
  have hx := C.1
  have hb := C.2.1
  have hts := C.2.2.2.2.1
  have hown := C.2.2.2.2.2.1
  have hS : va_S A s.heap s.heap [] := va_S.rf
  have hl := lv_entry ([.ref (ad 0), .int x1, .int x2]) (n := 4) (Nat.le_of_ble_eq_true rfl)
  rw [lg_entry_eq]
  generalize (lg_sl ([.ref (ad 0), .int x1, .int x2]) ++ List.replicate (4 - (lg_sl ([.ref (ad 0), .int x1, .int x2])).length) Slot.unset).toArray = ls at hl ⊢
  have hl : lv_has ls 4 [(0, .ref (ad 0)), (1, .int x1), (2, .int x2)] := hl
  have h : ∃ k2 : Nat, wp_M_goOn_2 Q k2 x1 x2 σ := h
  refine lv_iload_n hx hb d_M_goOn_0 rfl (lv_at hl 2 rfl) ?_
  refine lv_istore_n (lv' := [(3, .int x2), (0, .ref (ad 0)), (1, .int x1), (2, .int x2)]) hx hb d_M_goOn_1 rfl hl (by decide) rfl (fun ls hl => ?_)
  obtain ⟨n, h⟩ := h
  exact b_M_goOn_2 C n h (lv_sub hl [1, 2, 0] rfl) hP hD hS
def rm_M_beginStage : Room := { frames := 0, cells := 0, slots := 0, locals := 0 }
set_option maxHeartbeats 4000000 in
set_option maxRecDepth 100000 in
theorem b_M_beginStage_12 {p : Program} {l : Launch} {e : Env} {s : State} {m : MethodId} {args : Array Value} {below : List Frame} {meth : Method} {c : Code} {D : va_G} {cI cL cZ cS : ClassId} {ad : Nat → Nat} {wr : va_W} {A : Nat → Prop} {Q : Mem → Prop} (C : wC TB "PreferenceCountModel" c_M_beginStage 2 none D cls (tyl cI cL cZ cS) A p s m args meth c) : ∀ (n : Nat) {σ : Mem} {H : Heap} {locs : List Loc} {ls : Array Slot} {x1 : Int32}, wp_M_beginStage_12 Q n x1 σ → lv_has ls 2 [(0, .ref (ad 0)), (1, .int x1)] → va_P D cls (wW 12 (fM cI cL cZ ad) ad σ ++ wr) H → va_D A (wW 12 (fM cI cL cZ ad) ad σ ++ wr) → va_S A s.heap H locs → W p l e (headSpec (Cond.code y_M_beginStage c_M_beginStage 2 none :: TB) rm_M_beginStage).room s m args below meth c H locs 0 0 (MQ below (va_Qv Q (wB D cls (tyl cI cL cZ cS) 12 (fM cI cL cZ ad) ad wr A) A) args s 0 0 A) (F0 m 12 ls []) := by
  have hx := C.1
  have hb := C.2.1
  have hts := C.2.2.2.2.1
  have hown := C.2.2.2.2.2.1
  have hml := C.2.2.2.2.2.2.1
  intro n
  induction n with
  | zero => intro σ H locs ls x1 h; exact h.elim
  | succ j12 ih =>
    intro σ H locs ls x1 h hl hP hD hS
    have hK12 := @ih
    have h : ((13 : Int32) ≤ x1 → (Q σ)) ∧ (¬ (13 : Int32) ≤ x1 → (vp_in (((13 : Int32) * (σ.1 0 15)) + x1) 260 ∧ (∀ σ32 : Mem, σ32 = mI σ 11 (Int32.toNatClampNeg (((13 : Int32) * (σ.1 0 15)) + x1)) (0 : Int32) → (∀ v33 : Int32, v33 = (x1 + 1) → ((wp_M_beginStage_12 Q j12) v33 σ32))))) := h
    refine lv_iload_n hx hb d_M_beginStage_12 rfl (lv_at hl 1 rfl) ?_
    refine lv_bipush (v := 13) hx hb d_M_beginStage_13 (by decide) ?_
    refine lv_icmp_ge hx hb d_M_beginStage_15 rfl (fun hc15 => ?_) (fun hc15 => ?_)
    · have h := h.1 hc15
      exact r_vret C hP hD hS d_M_beginStage_39 h
    · have h := h.2 hc15
      refine lv_aload_n hx hb d_M_beginStage_18 rfl (lv_at hl 0 rfl) ?_
      refine r_get C ku_M hP (by decide) rfl rfl 18 (by decide) kw_527 rfl d_M_beginStage_19 ?_
      refine lv_bipush (v := 13) hx hb d_M_beginStage_22 (by decide) ?_
      refine lv_aload_n hx hb d_M_beginStage_24 rfl (lv_at hl 0 rfl) ?_
      refine r_get C ku_M hP (by decide) rfl rfl 15 (by decide) kw_524 rfl d_M_beginStage_25 ?_
      refine lv_imul hx hb d_M_beginStage_28 ?_
      refine lv_iload_n hx hb d_M_beginStage_29 rfl (lv_at hl 1 rfl) ?_
      refine lv_iadd hx hb d_M_beginStage_30 ?_
      refine lv_iconst (v := 0) hx hb d_M_beginStage_31 (by decide) ?_
      obtain ⟨hi32, h⟩ := h
      refine r_iast C hP hD hS (by decide) (fun _ _ => rfl) rfl hi32 d_M_beginStage_32 (fun σ32 e32 H locs hP hD hS => ?_)
      have h := h σ32 e32
      obtain ⟨v33, e33⟩ : ∃ z : Int32, z = (x1 + 1) := ⟨_, rfl⟩
      have h := h v33 e33
      refine lv_iinc (k := 1) (v := v33) (lv' := [(1, .int v33), (0, .ref (ad 0))]) hx hb d_M_beginStage_33 hl rfl (by rw [e33] <;> rfl) (by decide) rfl (fun ls hl => ?_)
      refine lv_goto hx hb d_M_beginStage_36 rfl ?_
      exact hK12 h (lv_sub hl [1, 0] rfl) hP hD hS
set_option maxHeartbeats 4000000 in
set_option maxRecDepth 100000 in
theorem m_M_beginStage {l : Launch} {D : va_G} {cI cL cZ cS : ClassId} {ad : Nat → Nat} {wr : va_W} {sz : Nat} {Q : Mem → Prop} {σ : Mem} (h : wp_M_beginStage Q σ) : Met l y_M_beginStage (Cond.code y_M_beginStage c_M_beginStage 2 none :: TB) rm_M_beginStage (wPc D cls (tyl cI cL cZ cS) 12 (fM cI cL cZ ad) ad wr sz σ [.ref (ad 0)]) (va_Qv Q (wB D cls (tyl cI cL cZ cS) 12 (fM cI cL cZ ad) ad wr (wA 12 (fM cI cL cZ ad) ad wr sz σ)) (wA 12 (fM cI cL cZ ad) ad wr sz σ)) 0 0 (wA 12 (fM cI cL cZ ad) ad wr sz σ) := by
  refine Met.ofW (cc := c_M_beginStage) (maxL := 2) (ret := none) (by decide) rfl ?_
  intro p e s m args below meth c s₁ B hml hv
  obtain ⟨rfl, hsz, hP, hK, hD0, hN⟩ := hv
  subst hsz
  have hD : va_D (wA 12 (fM cI cL cZ ad) ad wr s.heap.size σ) (wW 12 (fM cI cL cZ ad) ad σ ++ wr) := hD0.self (sz := s.heap.size)
  have hA : ∀ q : Nat, s.heap.size ≤ q → (wA 12 (fM cI cL cZ ad) ad wr s.heap.size σ) q := fun q h => Or.inr h
  have hN : NX (wA 12 (fM cI cL cZ ad) ad wr s.heap.size σ) s s.heap := hN
  generalize (wA 12 (fM cI cL cZ ad) ad wr s.heap.size σ) = A at hD hA hN ⊢
  have C : wC TB "PreferenceCountModel" c_M_beginStage 2 none D cls (tyl cI cL cZ cS) A p s m ([.ref (ad 0)].toArray) meth c := ⟨B.exec, B.bytes, B.returns, B.notSynchronized, fun w hw => atoms_spec (ws := Cond.code y_M_beginStage c_M_beginStage 2 none :: TB) B.pre w (List.mem_cons_of_mem _ hw), findClass_of_methodNamed B.named, hml, hK, hN, hA⟩
  have hx := C.1
  have hb := C.2.1
  have hts := C.2.2.2.2.1
  have hown := C.2.2.2.2.2.1
  have hS : va_S A s.heap s.heap [] := va_S.rf
  have hl := lv_entry ([.ref (ad 0)]) (n := 2) (Nat.le_of_ble_eq_true rfl)
  rw [lg_entry_eq]
  generalize (lg_sl ([.ref (ad 0)]) ++ List.replicate (2 - (lg_sl ([.ref (ad 0)])).length) Slot.unset).toArray = ls at hl ⊢
  have hl : lv_has ls 2 [(0, .ref (ad 0))] := hl
  have h : ∀ σ7 : Mem, σ7 = mI σ 0 15 ((σ.1 0 15) + (1 : Int32)) → (∃ k12 : Nat, wp_M_beginStage_12 Q k12 (0 : Int32) σ7) := h
  refine lv_aload_n hx hb d_M_beginStage_0 rfl (lv_at hl 0 rfl) ?_
  refine lv_dup hx hb d_M_beginStage_1 rfl ?_
  refine r_get C ku_M hP (by decide) rfl rfl 15 (by decide) kw_524 rfl d_M_beginStage_2 ?_
  refine lv_iconst (v := 1) hx hb d_M_beginStage_5 (by decide) ?_
  refine lv_iadd hx hb d_M_beginStage_6 ?_
  refine r_putI (ty := .int) C ku_M ft_M fo_M fn_M hP hD hS (by decide) rfl rfl 15 (by decide) kw_524 rfl (by decide +kernel) rfl rfl (Nat.le_of_ble_eq_true rfl) d_M_beginStage_7 rfl (fun σ7 e7 H locs hP hD hS => ?_)
  have h := h σ7 e7
  refine lv_iconst (v := 0) hx hb d_M_beginStage_10 (by decide) ?_
  refine lv_istore_n (lv' := [(1, .int (0 : Int32)), (0, .ref (ad 0))]) hx hb d_M_beginStage_11 rfl hl (by decide) rfl (fun ls hl => ?_)
  obtain ⟨n, h⟩ := h
  exact b_M_beginStage_12 C n h (lv_sub hl [1, 0] rfl) hP hD hS
def rm_M_at : Room := { frames := 0, cells := 0, slots := 0, locals := 0 }
set_option maxHeartbeats 4000000 in
set_option maxRecDepth 100000 in
theorem m_M_at {l : Launch} {D : va_G} {cI cL cZ cS : ClassId} {ad : Nat → Nat} {wr : va_W} {sz : Nat} {Q : Int64 → Mem → Prop} {x1 : Int32} {x2 : Int32} {σ : Mem} (h : wp_M_at Q x1 x2 σ) : Met l y_M_at (Cond.code y_M_at c_M_at 3 (some .long) :: TB) rm_M_at (wPc D cls (tyl cI cL cZ cS) 12 (fM cI cL cZ ad) ad wr sz σ [.ref (ad 0), .int x1, .int x2]) (va_Ql Q (wB D cls (tyl cI cL cZ cS) 12 (fM cI cL cZ ad) ad wr (wA 12 (fM cI cL cZ ad) ad wr sz σ)) (wA 12 (fM cI cL cZ ad) ad wr sz σ)) 0 0 (wA 12 (fM cI cL cZ ad) ad wr sz σ) := by
  refine Met.ofW (cc := c_M_at) (maxL := 3) (ret := (some .long)) (by decide) rfl ?_
  intro p e s m args below meth c s₁ B hml hv
  obtain ⟨rfl, hsz, hP, hK, hD0, hN⟩ := hv
  subst hsz
  have hD : va_D (wA 12 (fM cI cL cZ ad) ad wr s.heap.size σ) (wW 12 (fM cI cL cZ ad) ad σ ++ wr) := hD0.self (sz := s.heap.size)
  have hA : ∀ q : Nat, s.heap.size ≤ q → (wA 12 (fM cI cL cZ ad) ad wr s.heap.size σ) q := fun q h => Or.inr h
  have hN : NX (wA 12 (fM cI cL cZ ad) ad wr s.heap.size σ) s s.heap := hN
  generalize (wA 12 (fM cI cL cZ ad) ad wr s.heap.size σ) = A at hD hA hN ⊢
  have C : wC TB "PreferenceCountModel" c_M_at 3 (some .long) D cls (tyl cI cL cZ cS) A p s m ([.ref (ad 0), .int x1, .int x2].toArray) meth c := ⟨B.exec, B.bytes, B.returns, B.notSynchronized, fun w hw => atoms_spec (ws := Cond.code y_M_at c_M_at 3 (some .long) :: TB) B.pre w (List.mem_cons_of_mem _ hw), findClass_of_methodNamed B.named, hml, hK, hN, hA⟩
  have hx := C.1
  have hb := C.2.1
  have hts := C.2.2.2.2.1
  have hown := C.2.2.2.2.2.1
  have hS : va_S A s.heap s.heap [] := va_S.rf
  have hl := lv_entry ([.ref (ad 0), .int x1, .int x2]) (n := 3) (Nat.le_of_ble_eq_true rfl)
  rw [lg_entry_eq]
  generalize (lg_sl ([.ref (ad 0), .int x1, .int x2]) ++ List.replicate (3 - (lg_sl ([.ref (ad 0), .int x1, .int x2])).length) Slot.unset).toArray = ls at hl ⊢
  have hl : lv_has ls 3 [(0, .ref (ad 0)), (1, .int x1), (2, .int x2)] := hl
  have h : vp_in (((13 : Int32) * x1) + x2) 260 ∧ (Q (σ.2 9 (Int32.toNatClampNeg (((13 : Int32) * x1) + x2))) σ) := h
  refine lv_aload_n hx hb d_M_at_0 rfl (lv_at hl 0 rfl) ?_
  refine r_get C ku_M hP (by decide) rfl rfl 16 (by decide) kw_525 rfl d_M_at_1 ?_
  refine lv_bipush (v := 13) hx hb d_M_at_4 (by decide) ?_
  refine lv_iload_n hx hb d_M_at_6 rfl (lv_at hl 1 rfl) ?_
  refine lv_imul hx hb d_M_at_7 ?_
  refine lv_iload_n hx hb d_M_at_8 rfl (lv_at hl 2 rfl) ?_
  refine lv_iadd hx hb d_M_at_9 ?_
  obtain ⟨hi10, h⟩ := h
  refine r_lald C hP (by decide) rfl rfl hi10 d_M_at_10 ?_
  exact r_lret C hP hD hS d_M_at_11 h
def rm_M_isAhead : Room := { frames := 1, cells := 0, slots := 0, locals := 22 }
set_option maxHeartbeats 4000000 in
set_option maxRecDepth 100000 in
theorem b_M_isAhead_73 {p : Program} {l : Launch} {e : Env} {s : State} {m : MethodId} {args : Array Value} {below : List Frame} {meth : Method} {c : Code} {D : va_G} {cI cL cZ cS : ClassId} {ad : Nat → Nat} {wr : va_W} {A : Nat → Prop} {Q : Int32 → Mem → Prop} {t0 : Int32} {σ : Mem} {H : Heap} {locs : List Loc} {ls : Array Slot} (C : wC TB "PreferenceCountModel" c_M_isAhead 4 (some .boolean) D cls (tyl cI cL cZ cS) A p s m args meth c) (h : wp_M_isAhead_73 Q t0 σ) (hl : lv_has ls 4 []) (hP : va_P D cls (wW 12 (fM cI cL cZ ad) ad σ ++ wr) H) (hD : va_D A (wW 12 (fM cI cL cZ ad) ad σ ++ wr)) (hS : va_S A s.heap H locs) : W p l e (headSpec (Cond.code y_M_isAhead c_M_isAhead 4 (some .boolean) :: TB) rm_M_isAhead).room s m args below meth c H locs 0 0 (MQ below (va_Qi Q (wB D cls (tyl cI cL cZ cS) 12 (fM cI cL cZ ad) ad wr A) A) args s 0 0 A) (F0 m 73 ls [.int t0]) := by
  have hx := C.1
  have hb := C.2.1
  have hts := C.2.2.2.2.1
  have hown := C.2.2.2.2.2.1
  have hml := C.2.2.2.2.2.2.1
  have h : (t0 = 0 ∨ t0 = 1) ∧ Q t0 σ := h
  obtain ⟨hb73, h⟩ := h
  exact r_zret C hb73 hP hD hS d_M_isAhead_73 h
set_option maxHeartbeats 4000000 in
set_option maxRecDepth 100000 in
theorem b_M_isAhead_46 {p : Program} {l : Launch} {e : Env} {s : State} {m : MethodId} {args : Array Value} {below : List Frame} {meth : Method} {c : Code} {D : va_G} {cI cL cZ cS : ClassId} {ad : Nat → Nat} {wr : va_W} {A : Nat → Prop} {Q : Int32 → Mem → Prop} {t0 : Int32} {σ : Mem} {H : Heap} {locs : List Loc} {ls : Array Slot} (C : wC TB "PreferenceCountModel" c_M_isAhead 4 (some .boolean) D cls (tyl cI cL cZ cS) A p s m args meth c) (h : wp_M_isAhead_46 Q t0 σ) (hl : lv_has ls 4 []) (hP : va_P D cls (wW 12 (fM cI cL cZ ad) ad σ ++ wr) H) (hD : va_D A (wW 12 (fM cI cL cZ ad) ad σ ++ wr)) (hS : va_S A s.heap H locs) : W p l e (headSpec (Cond.code y_M_isAhead c_M_isAhead 4 (some .boolean) :: TB) rm_M_isAhead).room s m args below meth c H locs 0 0 (MQ below (va_Qi Q (wB D cls (tyl cI cL cZ cS) 12 (fM cI cL cZ ad) ad wr A) A) args s 0 0 A) (F0 m 46 ls [.int t0]) := by
  have hx := C.1
  have hb := C.2.1
  have hts := C.2.2.2.2.1
  have hown := C.2.2.2.2.2.1
  have hml := C.2.2.2.2.2.2.1
  have h : (t0 = 0 ∨ t0 = 1) ∧ Q t0 σ := h
  obtain ⟨hb46, h⟩ := h
  exact r_zret C hb46 hP hD hS d_M_isAhead_46 h
set_option maxHeartbeats 4000000 in
set_option maxRecDepth 100000 in
theorem b_M_isAhead_5 {p : Program} {l : Launch} {e : Env} {s : State} {m : MethodId} {args : Array Value} {below : List Frame} {meth : Method} {c : Code} {D : va_G} {cI cL cZ cS : ClassId} {ad : Nat → Nat} {wr : va_W} {A : Nat → Prop} {Q : Int32 → Mem → Prop} (C : wC TB "PreferenceCountModel" c_M_isAhead 4 (some .boolean) D cls (tyl cI cL cZ cS) A p s m args meth c) : ∀ (n : Nat) {σ : Mem} {H : Heap} {locs : List Loc} {ls : Array Slot} {x1 : Int32} {x2 : Int32} {x3 : Int32}, wp_M_isAhead_5 Q n x1 x2 x3 σ → lv_has ls 4 [(0, .ref (ad 0)), (1, .int x1), (2, .int x2), (3, .int x3)] → va_P D cls (wW 12 (fM cI cL cZ ad) ad σ ++ wr) H → va_D A (wW 12 (fM cI cL cZ ad) ad σ ++ wr) → va_S A s.heap H locs → W p l e (headSpec (Cond.code y_M_isAhead c_M_isAhead 4 (some .boolean) :: TB) rm_M_isAhead).room s m args below meth c H locs 0 0 (MQ below (va_Qi Q (wB D cls (tyl cI cL cZ cS) 12 (fM cI cL cZ ad) ad wr A) A) args s 0 0 A) (F0 m 5 ls []) := by
  have hx := C.1
  have hb := C.2.1
  have hts := C.2.2.2.2.1
  have hown := C.2.2.2.2.2.1
  have hml := C.2.2.2.2.2.2.1
  intro n
  induction n with
  | zero => intro σ H locs ls x1 x2 x3 h; exact h.elim
  | succ j5 ih =>
    intro σ H locs ls x1 x2 x3 h hl hP hD hS
    have hK5 := @ih
    have h : (x3 < 0 → (vp_in x1 12 ∧ (vp_in x2 12 ∧ (((σ.1 1 (Int32.toNatClampNeg x2)) ≤ (σ.1 1 (Int32.toNatClampNeg x1)) → (wp_M_isAhead_73 Q (0 : Int32) σ)) ∧ (¬ (σ.1 1 (Int32.toNatClampNeg x2)) ≤ (σ.1 1 (Int32.toNatClampNeg x1)) → (wp_M_isAhead_73 Q (1 : Int32) σ)))))) ∧ (¬ x3 < 0 → (wp_M_at (fun r12 σ12 => wp_M_at (fun r18 σ18 => ((lg_cmp r12 r18) = 0 → (∀ v47 : Int32, v47 = (x3 + (-1)) → ((wp_M_isAhead_5 Q j5) x1 x2 v47 σ18))) ∧ (¬ (lg_cmp r12 r18) = 0 → (wp_M_at (fun r28 σ28 => wp_M_at (fun r34 σ34 => ((lg_cmp r28 r34) ≤ 0 → (wp_M_isAhead_46 Q (0 : Int32) σ34)) ∧ (¬ (lg_cmp r28 r34) ≤ 0 → (wp_M_isAhead_46 Q (1 : Int32) σ34))) x3 x2 σ28) x3 x1 σ18))) x3 x2 σ12) x3 x1 σ)) := h
    refine lv_iload_n hx hb d_M_isAhead_5 rfl (lv_at hl 3 rfl) ?_
    refine lv_if_lt hx hb d_M_isAhead_6 rfl (fun hc6 => ?_) (fun hc6 => ?_)
    · have h := h.1 hc6
      refine lv_aload_n hx hb d_M_isAhead_53 rfl (lv_at hl 0 rfl) ?_
      refine r_get C ku_M hP (by decide) rfl rfl 3 (by decide) kw_512 rfl d_M_isAhead_54 ?_
      refine lv_iload_n hx hb d_M_isAhead_57 rfl (lv_at hl 1 rfl) ?_
      obtain ⟨hi58, h⟩ := h
      refine r_iald C hP (by decide) rfl rfl hi58 d_M_isAhead_58 ?_
      refine lv_aload_n hx hb d_M_isAhead_59 rfl (lv_at hl 0 rfl) ?_
      refine r_get C ku_M hP (by decide) rfl rfl 3 (by decide) kw_512 rfl d_M_isAhead_60 ?_
      refine lv_iload_n hx hb d_M_isAhead_63 rfl (lv_at hl 2 rfl) ?_
      obtain ⟨hi64, h⟩ := h
      refine r_iald C hP (by decide) rfl rfl hi64 d_M_isAhead_64 ?_
      refine lv_icmp_ge hx hb d_M_isAhead_65 rfl (fun hc65 => ?_) (fun hc65 => ?_)
      · have h := h.1 hc65
        refine lv_iconst (v := 0) hx hb d_M_isAhead_72 (by decide) ?_
        exact b_M_isAhead_73 C h (lv_sub hl [] rfl) hP hD hS
      · have h := h.2 hc65
        refine lv_iconst (v := 1) hx hb d_M_isAhead_68 (by decide) ?_
        refine lv_goto hx hb d_M_isAhead_69 rfl ?_
        exact b_M_isAhead_73 C h (lv_sub hl [] rfl) hP hD hS
    · have h := h.2 hc6
      refine lv_aload_n hx hb d_M_isAhead_9 rfl (lv_at hl 0 rfl) ?_
      refine lv_iload_n hx hb d_M_isAhead_10 rfl (lv_at hl 3 rfl) ?_
      refine lv_iload_n hx hb d_M_isAhead_11 rfl (lv_at hl 1 rfl) ?_
      refine r_calll C hD hS (va_runV (As := [.int x3, .int x1]) (rest := []) ⟨hx, hb, hml, hown, hts⟩ (m_M_at h) (cwV 2 hts (g_V kw_647 kw_649 kp_30 kw_7 kw_650) rfl rfl rfl (by decide +kernel) ⟨Nat.le_of_ble_eq_true rfl, Nat.le_of_ble_eq_true rfl⟩) (r_preV (o := 0) C hP hD hS (by decide) rfl rfl) rfl rfl hl.1 rfl (lv_room (Nat.le_of_ble_eq_true rfl)) d_M_isAhead_12 ⟨Nat.le_of_ble_eq_true rfl, Nat.le_of_ble_eq_true rfl⟩) (fun r12 σ12 H locs h hP hD hS => ?_)
      refine lv_aload_n hx hb d_M_isAhead_15 rfl (lv_at hl 0 rfl) ?_
      refine lv_iload_n hx hb d_M_isAhead_16 rfl (lv_at hl 3 rfl) ?_
      refine lv_iload_n hx hb d_M_isAhead_17 rfl (lv_at hl 2 rfl) ?_
      refine r_calll C hD hS (va_runV (As := [.int x3, .int x2]) (rest := [.long r12]) ⟨hx, hb, hml, hown, hts⟩ (m_M_at h) (cwV 2 hts (g_V kw_647 kw_649 kp_30 kw_7 kw_650) rfl rfl rfl (by decide +kernel) ⟨Nat.le_of_ble_eq_true rfl, Nat.le_of_ble_eq_true rfl⟩) (r_preV (o := 0) C hP hD hS (by decide) rfl rfl) rfl rfl hl.1 rfl (lv_room (Nat.le_of_ble_eq_true rfl)) d_M_isAhead_18 ⟨Nat.le_of_ble_eq_true rfl, Nat.le_of_ble_eq_true rfl⟩) (fun r18 σ18 H locs h hP hD hS => ?_)
      refine W.lcmp hx hb d_M_isAhead_21 ?_
      refine lv_if_eq hx hb d_M_isAhead_22 rfl (fun hc22 => ?_) (fun hc22 => ?_)
      · have h := h.1 hc22
        obtain ⟨v47, e47⟩ : ∃ z : Int32, z = (x3 + (-1)) := ⟨_, rfl⟩
        have h := h v47 e47
        refine lv_iinc (k := 3) (v := v47) (lv' := [(3, .int v47), (0, .ref (ad 0)), (1, .int x1), (2, .int x2)]) hx hb d_M_isAhead_47 hl rfl (by rw [e47] <;> rfl) (by decide) rfl (fun ls hl => ?_)
        refine lv_goto hx hb d_M_isAhead_50 rfl ?_
        exact hK5 h (lv_sub hl [1, 2, 3, 0] rfl) hP hD hS
      · have h := h.2 hc22
        refine lv_aload_n hx hb d_M_isAhead_25 rfl (lv_at hl 0 rfl) ?_
        refine lv_iload_n hx hb d_M_isAhead_26 rfl (lv_at hl 3 rfl) ?_
        refine lv_iload_n hx hb d_M_isAhead_27 rfl (lv_at hl 1 rfl) ?_
        refine r_calll C hD hS (va_runV (As := [.int x3, .int x1]) (rest := []) ⟨hx, hb, hml, hown, hts⟩ (m_M_at h) (cwV 2 hts (g_V kw_647 kw_649 kp_30 kw_7 kw_650) rfl rfl rfl (by decide +kernel) ⟨Nat.le_of_ble_eq_true rfl, Nat.le_of_ble_eq_true rfl⟩) (r_preV (o := 0) C hP hD hS (by decide) rfl rfl) rfl rfl hl.1 rfl (lv_room (Nat.le_of_ble_eq_true rfl)) d_M_isAhead_28 ⟨Nat.le_of_ble_eq_true rfl, Nat.le_of_ble_eq_true rfl⟩) (fun r28 σ28 H locs h hP hD hS => ?_)
        refine lv_aload_n hx hb d_M_isAhead_31 rfl (lv_at hl 0 rfl) ?_
        refine lv_iload_n hx hb d_M_isAhead_32 rfl (lv_at hl 3 rfl) ?_
        refine lv_iload_n hx hb d_M_isAhead_33 rfl (lv_at hl 2 rfl) ?_
        refine r_calll C hD hS (va_runV (As := [.int x3, .int x2]) (rest := [.long r28]) ⟨hx, hb, hml, hown, hts⟩ (m_M_at h) (cwV 2 hts (g_V kw_647 kw_649 kp_30 kw_7 kw_650) rfl rfl rfl (by decide +kernel) ⟨Nat.le_of_ble_eq_true rfl, Nat.le_of_ble_eq_true rfl⟩) (r_preV (o := 0) C hP hD hS (by decide) rfl rfl) rfl rfl hl.1 rfl (lv_room (Nat.le_of_ble_eq_true rfl)) d_M_isAhead_34 ⟨Nat.le_of_ble_eq_true rfl, Nat.le_of_ble_eq_true rfl⟩) (fun r34 σ34 H locs h hP hD hS => ?_)
        refine W.lcmp hx hb d_M_isAhead_37 ?_
        refine lv_if_le hx hb d_M_isAhead_38 rfl (fun hc38 => ?_) (fun hc38 => ?_)
        · have h := h.1 hc38
          refine lv_iconst (v := 0) hx hb d_M_isAhead_45 (by decide) ?_
          exact b_M_isAhead_46 C h (lv_sub hl [] rfl) hP hD hS
        · have h := h.2 hc38
          refine lv_iconst (v := 1) hx hb d_M_isAhead_41 (by decide) ?_
          refine lv_goto hx hb d_M_isAhead_42 rfl ?_
          exact b_M_isAhead_46 C h (lv_sub hl [] rfl) hP hD hS
set_option maxHeartbeats 4000000 in
set_option maxRecDepth 100000 in
theorem m_M_isAhead {l : Launch} {D : va_G} {cI cL cZ cS : ClassId} {ad : Nat → Nat} {wr : va_W} {sz : Nat} {Q : Int32 → Mem → Prop} {x1 : Int32} {x2 : Int32} {σ : Mem} (h : wp_M_isAhead Q x1 x2 σ) : Met l y_M_isAhead (Cond.code y_M_isAhead c_M_isAhead 4 (some .boolean) :: TB) rm_M_isAhead (wPc D cls (tyl cI cL cZ cS) 12 (fM cI cL cZ ad) ad wr sz σ [.ref (ad 0), .int x1, .int x2]) (va_Qi Q (wB D cls (tyl cI cL cZ cS) 12 (fM cI cL cZ ad) ad wr (wA 12 (fM cI cL cZ ad) ad wr sz σ)) (wA 12 (fM cI cL cZ ad) ad wr sz σ)) 0 0 (wA 12 (fM cI cL cZ ad) ad wr sz σ) := by
  refine Met.ofW (cc := c_M_isAhead) (maxL := 4) (ret := (some .boolean)) (by decide) rfl ?_
  intro p e s m args below meth c s₁ B hml hv
  obtain ⟨rfl, hsz, hP, hK, hD0, hN⟩ := hv
  subst hsz
  have hD : va_D (wA 12 (fM cI cL cZ ad) ad wr s.heap.size σ) (wW 12 (fM cI cL cZ ad) ad σ ++ wr) := hD0.self (sz := s.heap.size)
  have hA : ∀ q : Nat, s.heap.size ≤ q → (wA 12 (fM cI cL cZ ad) ad wr s.heap.size σ) q := fun q h => Or.inr h
  have hN : NX (wA 12 (fM cI cL cZ ad) ad wr s.heap.size σ) s s.heap := hN
  generalize (wA 12 (fM cI cL cZ ad) ad wr s.heap.size σ) = A at hD hA hN ⊢
  have C : wC TB "PreferenceCountModel" c_M_isAhead 4 (some .boolean) D cls (tyl cI cL cZ cS) A p s m ([.ref (ad 0), .int x1, .int x2].toArray) meth c := ⟨B.exec, B.bytes, B.returns, B.notSynchronized, fun w hw => atoms_spec (ws := Cond.code y_M_isAhead c_M_isAhead 4 (some .boolean) :: TB) B.pre w (List.mem_cons_of_mem _ hw), findClass_of_methodNamed B.named, hml, hK, hN, hA⟩
  have hx := C.1
  have hb := C.2.1
  have hts := C.2.2.2.2.1
  have hown := C.2.2.2.2.2.1
  have hS : va_S A s.heap s.heap [] := va_S.rf
  have hl := lv_entry ([.ref (ad 0), .int x1, .int x2]) (n := 4) (Nat.le_of_ble_eq_true rfl)
  rw [lg_entry_eq]
  generalize (lg_sl ([.ref (ad 0), .int x1, .int x2]) ++ List.replicate (4 - (lg_sl ([.ref (ad 0), .int x1, .int x2])).length) Slot.unset).toArray = ls at hl ⊢
  have hl : lv_has ls 4 [(0, .ref (ad 0)), (1, .int x1), (2, .int x2)] := hl
  have h : ∀ v4 : Int32, v4 = (σ.1 0 15) → (∃ k5 : Nat, wp_M_isAhead_5 Q k5 x1 x2 v4 σ) := h
  refine lv_aload_n hx hb d_M_isAhead_0 rfl (lv_at hl 0 rfl) ?_
  refine r_get C ku_M hP (by decide) rfl rfl 15 (by decide) kw_524 rfl d_M_isAhead_1 ?_
  refine lv_topi (fun v4 e4 => ?_)
  have h := h v4 e4
  refine lv_istore_n (lv' := [(3, .int v4), (0, .ref (ad 0)), (1, .int x1), (2, .int x2)]) hx hb d_M_isAhead_4 rfl hl (by decide) rfl (fun ls hl => ?_)
  obtain ⟨n, h⟩ := h
  exact b_M_isAhead_5 C n h (lv_sub hl [1, 2, 3, 0] rfl) hP hD hS
def rm_M_first : Room := { frames := 2, cells := 0, slots := 0, locals := 45 }
set_option maxHeartbeats 4000000 in
set_option maxRecDepth 100000 in
theorem b_M_first_92 {p : Program} {l : Launch} {e : Env} {s : State} {m : MethodId} {args : Array Value} {below : List Frame} {meth : Method} {c : Code} {D : va_G} {cI cL cZ cS : ClassId} {ad : Nat → Nat} {wr : va_W} {A : Nat → Prop} {Q : Int32 → Mem → Prop} {K5 : Int32 → Int32 → Int32 → Int32 → Mem → Prop} {x1 : Int32} {x2 : Int32} {x3 : Int32} {x4 : Int32} {σ : Mem} {H : Heap} {locs : List Loc} {ls : Array Slot} (C : wC TB "PreferenceCountModel" c_M_first 6 (some .int) D cls (tyl cI cL cZ cS) A p s m args meth c) (hK5 : ∀ {σ : Mem} {H : Heap} {locs : List Loc} {ls : Array Slot} {x1 : Int32} {x2 : Int32} {x3 : Int32} {x4 : Int32}, K5 x1 x2 x3 x4 σ → lv_has ls 6 [(0, .ref (ad 0)), (1, .int x1), (2, .int x2), (3, .int x3), (4, .int x4)] → va_P D cls (wW 12 (fM cI cL cZ ad) ad σ ++ wr) H → va_D A (wW 12 (fM cI cL cZ ad) ad σ ++ wr) → va_S A s.heap H locs → W p l e (headSpec (Cond.code y_M_first c_M_first 6 (some .int) :: TB) rm_M_first).room s m args below meth c H locs 0 0 (MQ below (va_Qi Q (wB D cls (tyl cI cL cZ cS) 12 (fM cI cL cZ ad) ad wr A) A) args s 0 0 A) (F0 m 5 ls [])) (h : wp_M_first_92 Q K5 x1 x2 x3 x4 σ) (hl : lv_has ls 6 [(0, .ref (ad 0)), (1, .int x1), (2, .int x2), (3, .int x3), (4, .int x4)]) (hP : va_P D cls (wW 12 (fM cI cL cZ ad) ad σ ++ wr) H) (hD : va_D A (wW 12 (fM cI cL cZ ad) ad σ ++ wr)) (hS : va_S A s.heap H locs) : W p l e (headSpec (Cond.code y_M_first c_M_first 6 (some .int) :: TB) rm_M_first).room s m args below meth c H locs 0 0 (MQ below (va_Qi Q (wB D cls (tyl cI cL cZ cS) 12 (fM cI cL cZ ad) ad wr A) A) args s 0 0 A) (F0 m 92 ls []) := by
  have hx := C.1
  have hb := C.2.1
  have hts := C.2.2.2.2.1
  have hown := C.2.2.2.2.2.1
  have hml := C.2.2.2.2.2.2.1
  have h : ∀ v92 : Int32, v92 = (x4 + 1) → (K5 x1 x2 x3 v92 σ) := h
  obtain ⟨v92, e92⟩ : ∃ z : Int32, z = (x4 + 1) := ⟨_, rfl⟩
  have h := h v92 e92
  refine lv_iinc (k := 4) (v := v92) (lv' := [(4, .int v92), (0, .ref (ad 0)), (1, .int x1), (2, .int x2), (3, .int x3)]) hx hb d_M_first_92 hl rfl (by rw [e92] <;> rfl) (by decide) rfl (fun ls hl => ?_)
  refine lv_goto hx hb d_M_first_95 rfl ?_
  exact hK5 h (lv_sub hl [1, 2, 3, 4, 0] rfl) hP hD hS
set_option maxHeartbeats 4000000 in
set_option maxRecDepth 100000 in
theorem b_M_first_89 {p : Program} {l : Launch} {e : Env} {s : State} {m : MethodId} {args : Array Value} {below : List Frame} {meth : Method} {c : Code} {D : va_G} {cI cL cZ cS : ClassId} {ad : Nat → Nat} {wr : va_W} {A : Nat → Prop} {Q : Int32 → Mem → Prop} {K5 : Int32 → Int32 → Int32 → Int32 → Mem → Prop} {x1 : Int32} {x2 : Int32} {x4 : Int32} {σ : Mem} {H : Heap} {locs : List Loc} {ls : Array Slot} (C : wC TB "PreferenceCountModel" c_M_first 6 (some .int) D cls (tyl cI cL cZ cS) A p s m args meth c) (hK5 : ∀ {σ : Mem} {H : Heap} {locs : List Loc} {ls : Array Slot} {x1 : Int32} {x2 : Int32} {x3 : Int32} {x4 : Int32}, K5 x1 x2 x3 x4 σ → lv_has ls 6 [(0, .ref (ad 0)), (1, .int x1), (2, .int x2), (3, .int x3), (4, .int x4)] → va_P D cls (wW 12 (fM cI cL cZ ad) ad σ ++ wr) H → va_D A (wW 12 (fM cI cL cZ ad) ad σ ++ wr) → va_S A s.heap H locs → W p l e (headSpec (Cond.code y_M_first c_M_first 6 (some .int) :: TB) rm_M_first).room s m args below meth c H locs 0 0 (MQ below (va_Qi Q (wB D cls (tyl cI cL cZ cS) 12 (fM cI cL cZ ad) ad wr A) A) args s 0 0 A) (F0 m 5 ls [])) (h : wp_M_first_89 Q K5 x1 x2 x4 σ) (hl : lv_has ls 6 [(0, .ref (ad 0)), (1, .int x1), (2, .int x2), (4, .int x4)]) (hP : va_P D cls (wW 12 (fM cI cL cZ ad) ad σ ++ wr) H) (hD : va_D A (wW 12 (fM cI cL cZ ad) ad σ ++ wr)) (hS : va_S A s.heap H locs) : W p l e (headSpec (Cond.code y_M_first c_M_first 6 (some .int) :: TB) rm_M_first).room s m args below meth c H locs 0 0 (MQ below (va_Qi Q (wB D cls (tyl cI cL cZ cS) 12 (fM cI cL cZ ad) ad wr A) A) args s 0 0 A) (F0 m 89 ls []) := by
  have hx := C.1
  have hb := C.2.1
  have hts := C.2.2.2.2.1
  have hown := C.2.2.2.2.2.1
  have hml := C.2.2.2.2.2.2.1
  have h : wp_M_first_92 Q K5 x1 x2 x4 x4 σ := h
  refine lv_iload hx hb d_M_first_89 (lv_at hl 3 rfl) ?_
  refine lv_istore_n (lv' := [(3, .int x4), (0, .ref (ad 0)), (1, .int x1), (2, .int x2), (4, .int x4)]) hx hb d_M_first_91 rfl hl (by decide) rfl (fun ls hl => ?_)
  exact b_M_first_92 C hK5 h (lv_sub hl [1, 2, 3, 0, 4] rfl) hP hD hS
set_option maxHeartbeats 4000000 in
set_option maxRecDepth 100000 in
theorem b_M_first_68 {p : Program} {l : Launch} {e : Env} {s : State} {m : MethodId} {args : Array Value} {below : List Frame} {meth : Method} {c : Code} {D : va_G} {cI cL cZ cS : ClassId} {ad : Nat → Nat} {wr : va_W} {A : Nat → Prop} {Q : Int32 → Mem → Prop} {K5 : Int32 → Int32 → Int32 → Int32 → Mem → Prop} {x1 : Int32} {x2 : Int32} {x3 : Int32} {x4 : Int32} {t0 : Int32} {σ : Mem} {H : Heap} {locs : List Loc} {ls : Array Slot} (C : wC TB "PreferenceCountModel" c_M_first 6 (some .int) D cls (tyl cI cL cZ cS) A p s m args meth c) (hK5 : ∀ {σ : Mem} {H : Heap} {locs : List Loc} {ls : Array Slot} {x1 : Int32} {x2 : Int32} {x3 : Int32} {x4 : Int32}, K5 x1 x2 x3 x4 σ → lv_has ls 6 [(0, .ref (ad 0)), (1, .int x1), (2, .int x2), (3, .int x3), (4, .int x4)] → va_P D cls (wW 12 (fM cI cL cZ ad) ad σ ++ wr) H → va_D A (wW 12 (fM cI cL cZ ad) ad σ ++ wr) → va_S A s.heap H locs → W p l e (headSpec (Cond.code y_M_first c_M_first 6 (some .int) :: TB) rm_M_first).room s m args below meth c H locs 0 0 (MQ below (va_Qi Q (wB D cls (tyl cI cL cZ cS) 12 (fM cI cL cZ ad) ad wr A) A) args s 0 0 A) (F0 m 5 ls [])) (h : wp_M_first_68 Q K5 x1 x2 x3 x4 t0 σ) (hl : lv_has ls 6 [(0, .ref (ad 0)), (1, .int x1), (2, .int x2), (3, .int x3), (4, .int x4)]) (hP : va_P D cls (wW 12 (fM cI cL cZ ad) ad σ ++ wr) H) (hD : va_D A (wW 12 (fM cI cL cZ ad) ad σ ++ wr)) (hS : va_S A s.heap H locs) : W p l e (headSpec (Cond.code y_M_first c_M_first 6 (some .int) :: TB) rm_M_first).room s m args below meth c H locs 0 0 (MQ below (va_Qi Q (wB D cls (tyl cI cL cZ cS) 12 (fM cI cL cZ ad) ad wr A) A) args s 0 0 A) (F0 m 68 ls [.int t0]) := by
  have hx := C.1
  have hb := C.2.1
  have hts := C.2.2.2.2.1
  have hown := C.2.2.2.2.2.1
  have hml := C.2.2.2.2.2.2.1
  have h : (t0 = 0 → (wp_M_first_92 Q K5 x1 x2 x3 x4 σ)) ∧ (¬ t0 = 0 → ((x3 < 0 → (wp_M_first_89 Q K5 x1 x2 x4 σ)) ∧ (¬ x3 < 0 → (wp_M_isAhead (fun r83 σ83 => (r83 = 0 → (wp_M_first_92 Q K5 x1 x2 x3 x4 σ83)) ∧ (¬ r83 = 0 → (wp_M_first_89 Q K5 x1 x2 x4 σ83))) x4 x3 σ)))) := h
  refine lv_istore (lv' := [(5, .int t0), (0, .ref (ad 0)), (1, .int x1), (2, .int x2), (3, .int x3), (4, .int x4)]) hx hb d_M_first_68 hl (by decide) rfl (fun ls hl => ?_)
  refine lv_iload hx hb d_M_first_70 (lv_at hl 0 rfl) ?_
  refine lv_if_eq hx hb d_M_first_72 rfl (fun hc72 => ?_) (fun hc72 => ?_)
  · have h := h.1 hc72
    exact b_M_first_92 C hK5 h (lv_sub hl [1, 2, 3, 4, 5] rfl) hP hD hS
  · have h := h.2 hc72
    refine lv_iload_n hx hb d_M_first_75 rfl (lv_at hl 4 rfl) ?_
    refine lv_if_lt hx hb d_M_first_76 rfl (fun hc76 => ?_) (fun hc76 => ?_)
    · have h := h.1 hc76
      exact b_M_first_89 C hK5 h (lv_sub hl [1, 2, 3, 5] rfl) hP hD hS
    · have h := h.2 hc76
      refine lv_aload_n hx hb d_M_first_79 rfl (lv_at hl 1 rfl) ?_
      refine lv_iload hx hb d_M_first_80 (lv_at hl 5 rfl) ?_
      refine lv_iload_n hx hb d_M_first_82 rfl (lv_at hl 4 rfl) ?_
      refine r_calli C hD hS (va_runV (As := [.int x4, .int x3]) (rest := []) ⟨hx, hb, hml, hown, hts⟩ (m_M_isAhead h) (cwV 2 hts (g_V kw_651 kw_653 kp_31 kw_7 kw_654) rfl rfl rfl (by decide +kernel) ⟨Nat.le_of_ble_eq_true rfl, Nat.le_of_ble_eq_true rfl⟩) (r_preV (o := 0) C hP hD hS (by decide) rfl rfl) rfl rfl hl.1 rfl (lv_room (Nat.le_of_ble_eq_true rfl)) d_M_first_83 ⟨Nat.le_of_ble_eq_true rfl, Nat.le_of_ble_eq_true rfl⟩) (fun r83 σ83 H locs h hP hD hS => ?_)
      refine lv_if_eq hx hb d_M_first_86 rfl (fun hc86 => ?_) (fun hc86 => ?_)
      · have h := h.1 hc86
        exact b_M_first_92 C hK5 h (lv_sub hl [1, 2, 3, 4, 5] rfl) hP hD hS
      · have h := h.2 hc86
        exact b_M_first_89 C hK5 h (lv_sub hl [1, 2, 3, 5] rfl) hP hD hS
set_option maxHeartbeats 4000000 in
set_option maxRecDepth 100000 in
theorem b_M_first_67 {p : Program} {l : Launch} {e : Env} {s : State} {m : MethodId} {args : Array Value} {below : List Frame} {meth : Method} {c : Code} {D : va_G} {cI cL cZ cS : ClassId} {ad : Nat → Nat} {wr : va_W} {A : Nat → Prop} {Q : Int32 → Mem → Prop} {K5 : Int32 → Int32 → Int32 → Int32 → Mem → Prop} {x1 : Int32} {x2 : Int32} {x3 : Int32} {x4 : Int32} {σ : Mem} {H : Heap} {locs : List Loc} {ls : Array Slot} (C : wC TB "PreferenceCountModel" c_M_first 6 (some .int) D cls (tyl cI cL cZ cS) A p s m args meth c) (hK5 : ∀ {σ : Mem} {H : Heap} {locs : List Loc} {ls : Array Slot} {x1 : Int32} {x2 : Int32} {x3 : Int32} {x4 : Int32}, K5 x1 x2 x3 x4 σ → lv_has ls 6 [(0, .ref (ad 0)), (1, .int x1), (2, .int x2), (3, .int x3), (4, .int x4)] → va_P D cls (wW 12 (fM cI cL cZ ad) ad σ ++ wr) H → va_D A (wW 12 (fM cI cL cZ ad) ad σ ++ wr) → va_S A s.heap H locs → W p l e (headSpec (Cond.code y_M_first c_M_first 6 (some .int) :: TB) rm_M_first).room s m args below meth c H locs 0 0 (MQ below (va_Qi Q (wB D cls (tyl cI cL cZ cS) 12 (fM cI cL cZ ad) ad wr A) A) args s 0 0 A) (F0 m 5 ls [])) (h : wp_M_first_67 Q K5 x1 x2 x3 x4 σ) (hl : lv_has ls 6 [(0, .ref (ad 0)), (1, .int x1), (2, .int x2), (3, .int x3), (4, .int x4)]) (hP : va_P D cls (wW 12 (fM cI cL cZ ad) ad σ ++ wr) H) (hD : va_D A (wW 12 (fM cI cL cZ ad) ad σ ++ wr)) (hS : va_S A s.heap H locs) : W p l e (headSpec (Cond.code y_M_first c_M_first 6 (some .int) :: TB) rm_M_first).room s m args below meth c H locs 0 0 (MQ below (va_Qi Q (wB D cls (tyl cI cL cZ cS) 12 (fM cI cL cZ ad) ad wr A) A) args s 0 0 A) (F0 m 67 ls []) := by
  have hx := C.1
  have hb := C.2.1
  have hts := C.2.2.2.2.1
  have hown := C.2.2.2.2.2.1
  have hml := C.2.2.2.2.2.2.1
  have h : wp_M_first_68 Q K5 x1 x2 x3 x4 (0 : Int32) σ := h
  refine lv_iconst (v := 0) hx hb d_M_first_67 (by decide) ?_
  exact b_M_first_68 C hK5 h (lv_sub hl [0, 1, 2, 3, 4] rfl) hP hD hS
set_option maxHeartbeats 4000000 in
set_option maxRecDepth 100000 in
theorem b_M_first_63 {p : Program} {l : Launch} {e : Env} {s : State} {m : MethodId} {args : Array Value} {below : List Frame} {meth : Method} {c : Code} {D : va_G} {cI cL cZ cS : ClassId} {ad : Nat → Nat} {wr : va_W} {A : Nat → Prop} {Q : Int32 → Mem → Prop} {K5 : Int32 → Int32 → Int32 → Int32 → Mem → Prop} {x1 : Int32} {x2 : Int32} {x3 : Int32} {x4 : Int32} {σ : Mem} {H : Heap} {locs : List Loc} {ls : Array Slot} (C : wC TB "PreferenceCountModel" c_M_first 6 (some .int) D cls (tyl cI cL cZ cS) A p s m args meth c) (hK5 : ∀ {σ : Mem} {H : Heap} {locs : List Loc} {ls : Array Slot} {x1 : Int32} {x2 : Int32} {x3 : Int32} {x4 : Int32}, K5 x1 x2 x3 x4 σ → lv_has ls 6 [(0, .ref (ad 0)), (1, .int x1), (2, .int x2), (3, .int x3), (4, .int x4)] → va_P D cls (wW 12 (fM cI cL cZ ad) ad σ ++ wr) H → va_D A (wW 12 (fM cI cL cZ ad) ad σ ++ wr) → va_S A s.heap H locs → W p l e (headSpec (Cond.code y_M_first c_M_first 6 (some .int) :: TB) rm_M_first).room s m args below meth c H locs 0 0 (MQ below (va_Qi Q (wB D cls (tyl cI cL cZ cS) 12 (fM cI cL cZ ad) ad wr A) A) args s 0 0 A) (F0 m 5 ls [])) (h : wp_M_first_63 Q K5 x1 x2 x3 x4 σ) (hl : lv_has ls 6 [(0, .ref (ad 0)), (1, .int x1), (2, .int x2), (3, .int x3), (4, .int x4)]) (hP : va_P D cls (wW 12 (fM cI cL cZ ad) ad σ ++ wr) H) (hD : va_D A (wW 12 (fM cI cL cZ ad) ad σ ++ wr)) (hS : va_S A s.heap H locs) : W p l e (headSpec (Cond.code y_M_first c_M_first 6 (some .int) :: TB) rm_M_first).room s m args below meth c H locs 0 0 (MQ below (va_Qi Q (wB D cls (tyl cI cL cZ cS) 12 (fM cI cL cZ ad) ad wr A) A) args s 0 0 A) (F0 m 63 ls []) := by
  have hx := C.1
  have hb := C.2.1
  have hts := C.2.2.2.2.1
  have hown := C.2.2.2.2.2.1
  have hml := C.2.2.2.2.2.2.1
  have h : wp_M_first_68 Q K5 x1 x2 x3 x4 (1 : Int32) σ := h
  refine lv_iconst (v := 1) hx hb d_M_first_63 (by decide) ?_
  refine lv_goto hx hb d_M_first_64 rfl ?_
  exact b_M_first_68 C hK5 h (lv_sub hl [0, 1, 2, 3, 4] rfl) hP hD hS
set_option maxHeartbeats 4000000 in
set_option maxRecDepth 100000 in
theorem b_M_first_41 {p : Program} {l : Launch} {e : Env} {s : State} {m : MethodId} {args : Array Value} {below : List Frame} {meth : Method} {c : Code} {D : va_G} {cI cL cZ cS : ClassId} {ad : Nat → Nat} {wr : va_W} {A : Nat → Prop} {Q : Int32 → Mem → Prop} {K5 : Int32 → Int32 → Int32 → Int32 → Mem → Prop} {x1 : Int32} {x2 : Int32} {x3 : Int32} {x4 : Int32} {σ : Mem} {H : Heap} {locs : List Loc} {ls : Array Slot} (C : wC TB "PreferenceCountModel" c_M_first 6 (some .int) D cls (tyl cI cL cZ cS) A p s m args meth c) (hK5 : ∀ {σ : Mem} {H : Heap} {locs : List Loc} {ls : Array Slot} {x1 : Int32} {x2 : Int32} {x3 : Int32} {x4 : Int32}, K5 x1 x2 x3 x4 σ → lv_has ls 6 [(0, .ref (ad 0)), (1, .int x1), (2, .int x2), (3, .int x3), (4, .int x4)] → va_P D cls (wW 12 (fM cI cL cZ ad) ad σ ++ wr) H → va_D A (wW 12 (fM cI cL cZ ad) ad σ ++ wr) → va_S A s.heap H locs → W p l e (headSpec (Cond.code y_M_first c_M_first 6 (some .int) :: TB) rm_M_first).room s m args below meth c H locs 0 0 (MQ below (va_Qi Q (wB D cls (tyl cI cL cZ cS) 12 (fM cI cL cZ ad) ad wr A) A) args s 0 0 A) (F0 m 5 ls [])) (h : wp_M_first_41 Q K5 x1 x2 x3 x4 σ) (hl : lv_has ls 6 [(0, .ref (ad 0)), (1, .int x1), (2, .int x2), (3, .int x3), (4, .int x4)]) (hP : va_P D cls (wW 12 (fM cI cL cZ ad) ad σ ++ wr) H) (hD : va_D A (wW 12 (fM cI cL cZ ad) ad σ ++ wr)) (hS : va_S A s.heap H locs) : W p l e (headSpec (Cond.code y_M_first c_M_first 6 (some .int) :: TB) rm_M_first).room s m args below meth c H locs 0 0 (MQ below (va_Qi Q (wB D cls (tyl cI cL cZ cS) 12 (fM cI cL cZ ad) ad wr A) A) args s 0 0 A) (F0 m 41 ls []) := by
  have hx := C.1
  have hb := C.2.1
  have hts := C.2.2.2.2.1
  have hown := C.2.2.2.2.2.1
  have hml := C.2.2.2.2.2.2.1
  have h : (x2 = 0 → (wp_M_first_63 Q K5 x1 x2 x3 x4 σ)) ∧ (¬ x2 = 0 → (wp_M_at (fun r52 σ52 => wp_M_quota (fun r56 σ56 => ((lg_cmp r52 r56) ≤ 0 → (wp_M_first_67 Q K5 x1 x2 x3 x4 σ56)) ∧ (¬ (lg_cmp r52 r56) ≤ 0 → (wp_M_first_63 Q K5 x1 x2 x3 x4 σ56))) σ52) (σ.1 0 15) x4 σ)) := h
  refine lv_iload_n hx hb d_M_first_41 rfl (lv_at hl 2 rfl) ?_
  refine lv_if_eq hx hb d_M_first_42 rfl (fun hc42 => ?_) (fun hc42 => ?_)
  · have h := h.1 hc42
    exact b_M_first_63 C hK5 h (lv_sub hl [0, 1, 2, 3, 4] rfl) hP hD hS
  · have h := h.2 hc42
    refine lv_aload_n hx hb d_M_first_45 rfl (lv_at hl 0 rfl) ?_
    refine lv_aload_n hx hb d_M_first_46 rfl (lv_at hl 0 rfl) ?_
    refine r_get C ku_M hP (by decide) rfl rfl 15 (by decide) kw_524 rfl d_M_first_47 ?_
    refine lv_iload hx hb d_M_first_50 (lv_at hl 4 rfl) ?_
    refine r_calll C hD hS (va_runV (As := [.int (σ.1 0 15), .int x4]) (rest := []) ⟨hx, hb, hml, hown, hts⟩ (m_M_at h) (cwV 2 hts (g_V kw_647 kw_649 kp_30 kw_7 kw_650) rfl rfl rfl (by decide +kernel) ⟨Nat.le_of_ble_eq_true rfl, Nat.le_of_ble_eq_true rfl⟩) (r_preV (o := 0) C hP hD hS (by decide) rfl rfl) rfl rfl hl.1 rfl (lv_room (Nat.le_of_ble_eq_true rfl)) d_M_first_52 ⟨Nat.le_of_ble_eq_true rfl, Nat.le_of_ble_eq_true rfl⟩) (fun r52 σ52 H locs h hP hD hS => ?_)
    refine lv_aload_n hx hb d_M_first_55 rfl (lv_at hl 0 rfl) ?_
    refine r_calll C hD hS (va_runV (As := []) (rest := [.long r52]) ⟨hx, hb, hml, hown, hts⟩ (m_M_quota h) (cwV 0 hts (g_V kw_639 kw_641 kp_28 kw_7 kw_642) rfl rfl rfl (by decide +kernel) ⟨Nat.le_of_ble_eq_true rfl, Nat.le_of_ble_eq_true rfl⟩) (r_preV (o := 0) C hP hD hS (by decide) rfl rfl) rfl rfl hl.1 rfl (lv_room (Nat.le_of_ble_eq_true rfl)) d_M_first_56 ⟨Nat.le_of_ble_eq_true rfl, Nat.le_of_ble_eq_true rfl⟩) (fun r56 σ56 H locs h hP hD hS => ?_)
    refine W.lcmp hx hb d_M_first_59 ?_
    refine lv_if_le hx hb d_M_first_60 rfl (fun hc60 => ?_) (fun hc60 => ?_)
    · have h := h.1 hc60
      exact b_M_first_67 C hK5 h (lv_sub hl [0, 1, 2, 3, 4] rfl) hP hD hS
    · have h := h.2 hc60
      exact b_M_first_63 C hK5 h (lv_sub hl [0, 1, 2, 3, 4] rfl) hP hD hS
set_option maxHeartbeats 4000000 in
set_option maxRecDepth 100000 in
theorem b_M_first_5 {p : Program} {l : Launch} {e : Env} {s : State} {m : MethodId} {args : Array Value} {below : List Frame} {meth : Method} {c : Code} {D : va_G} {cI cL cZ cS : ClassId} {ad : Nat → Nat} {wr : va_W} {A : Nat → Prop} {Q : Int32 → Mem → Prop} (C : wC TB "PreferenceCountModel" c_M_first 6 (some .int) D cls (tyl cI cL cZ cS) A p s m args meth c) : ∀ (n : Nat) {σ : Mem} {H : Heap} {locs : List Loc} {ls : Array Slot} {x1 : Int32} {x2 : Int32} {x3 : Int32} {x4 : Int32}, wp_M_first_5 Q n x1 x2 x3 x4 σ → lv_has ls 6 [(0, .ref (ad 0)), (1, .int x1), (2, .int x2), (3, .int x3), (4, .int x4)] → va_P D cls (wW 12 (fM cI cL cZ ad) ad σ ++ wr) H → va_D A (wW 12 (fM cI cL cZ ad) ad σ ++ wr) → va_S A s.heap H locs → W p l e (headSpec (Cond.code y_M_first c_M_first 6 (some .int) :: TB) rm_M_first).room s m args below meth c H locs 0 0 (MQ below (va_Qi Q (wB D cls (tyl cI cL cZ cS) 12 (fM cI cL cZ ad) ad wr A) A) args s 0 0 A) (F0 m 5 ls []) := by
  have hx := C.1
  have hb := C.2.1
  have hts := C.2.2.2.2.1
  have hown := C.2.2.2.2.2.1
  have hml := C.2.2.2.2.2.2.1
  intro n
  induction n with
  | zero => intro σ H locs ls x1 x2 x3 x4 h; exact h.elim
  | succ j5 ih =>
    intro σ H locs ls x1 x2 x3 x4 h hl hP hD hS
    have hK5 := @ih
    have h : ((σ.1 0 1) ≤ x4 → (Q x3 σ)) ∧ (¬ (σ.1 0 1) ≤ x4 → ((x1 = 0 → (vp_in x4 12 ∧ (((σ.1 2 (Int32.toNatClampNeg x4)) ≤ 0 → (wp_M_first_67 Q (wp_M_first_5 Q j5) x1 x2 x3 x4 σ)) ∧ (¬ (σ.1 2 (Int32.toNatClampNeg x4)) ≤ 0 → (wp_M_first_41 Q (wp_M_first_5 Q j5) x1 x2 x3 x4 σ))))) ∧ (¬ x1 = 0 → (vp_in x4 12 ∧ (((σ.1 2 (Int32.toNatClampNeg x4)) = 0 → (wp_M_first_41 Q (wp_M_first_5 Q j5) x1 x2 x3 x4 σ)) ∧ (¬ (σ.1 2 (Int32.toNatClampNeg x4)) = 0 → (wp_M_first_67 Q (wp_M_first_5 Q j5) x1 x2 x3 x4 σ))))))) := h
    refine lv_iload hx hb d_M_first_5 (lv_at hl 4 rfl) ?_
    refine lv_aload_n hx hb d_M_first_7 rfl (lv_at hl 0 rfl) ?_
    refine r_get C ku_M hP (by decide) rfl rfl 1 (by decide) kw_510 rfl d_M_first_8 ?_
    refine lv_icmp_ge hx hb d_M_first_11 rfl (fun hc11 => ?_) (fun hc11 => ?_)
    · have h := h.1 hc11
      refine lv_iload_n hx hb d_M_first_98 rfl (lv_at hl 3 rfl) ?_
      exact r_iret C hP hD hS d_M_first_99 h
    · have h := h.2 hc11
      refine lv_iload_n hx hb d_M_first_14 rfl (lv_at hl 1 rfl) ?_
      refine lv_if_eq hx hb d_M_first_15 rfl (fun hc15 => ?_) (fun hc15 => ?_)
      · have h := h.1 hc15
        refine lv_aload_n hx hb d_M_first_31 rfl (lv_at hl 0 rfl) ?_
        refine r_get C ku_M hP (by decide) rfl rfl 4 (by decide) kw_513 rfl d_M_first_32 ?_
        refine lv_iload hx hb d_M_first_35 (lv_at hl 4 rfl) ?_
        obtain ⟨hi37, h⟩ := h
        refine r_iald C hP (by decide) rfl rfl hi37 d_M_first_37 ?_
        refine lv_if_le hx hb d_M_first_38 rfl (fun hc38 => ?_) (fun hc38 => ?_)
        · have h := h.1 hc38
          exact b_M_first_67 C hK5 h (lv_sub hl [0, 1, 2, 3, 4] rfl) hP hD hS
        · have h := h.2 hc38
          exact b_M_first_41 C hK5 h (lv_sub hl [0, 1, 2, 3, 4] rfl) hP hD hS
      · have h := h.2 hc15
        refine lv_aload_n hx hb d_M_first_18 rfl (lv_at hl 0 rfl) ?_
        refine r_get C ku_M hP (by decide) rfl rfl 4 (by decide) kw_513 rfl d_M_first_19 ?_
        refine lv_iload hx hb d_M_first_22 (lv_at hl 4 rfl) ?_
        obtain ⟨hi24, h⟩ := h
        refine r_iald C hP (by decide) rfl rfl hi24 d_M_first_24 ?_
        refine lv_if_ne hx hb d_M_first_25 rfl (fun hc25 => ?_) (fun hc25 => ?_)
        · have h := h.2 hc25
          exact b_M_first_67 C hK5 h (lv_sub hl [0, 1, 2, 3, 4] rfl) hP hD hS
        · have h := h.1 hc25
          refine lv_goto hx hb d_M_first_28 rfl ?_
          exact b_M_first_41 C hK5 h (lv_sub hl [0, 1, 2, 3, 4] rfl) hP hD hS
set_option maxHeartbeats 4000000 in
set_option maxRecDepth 100000 in
theorem m_M_first {l : Launch} {D : va_G} {cI cL cZ cS : ClassId} {ad : Nat → Nat} {wr : va_W} {sz : Nat} {Q : Int32 → Mem → Prop} {x1 : Int32} {x2 : Int32} {σ : Mem} (h : wp_M_first Q x1 x2 σ) : Met l y_M_first (Cond.code y_M_first c_M_first 6 (some .int) :: TB) rm_M_first (wPc D cls (tyl cI cL cZ cS) 12 (fM cI cL cZ ad) ad wr sz σ [.ref (ad 0), .int x1, .int x2]) (va_Qi Q (wB D cls (tyl cI cL cZ cS) 12 (fM cI cL cZ ad) ad wr (wA 12 (fM cI cL cZ ad) ad wr sz σ)) (wA 12 (fM cI cL cZ ad) ad wr sz σ)) 0 0 (wA 12 (fM cI cL cZ ad) ad wr sz σ) := by
  refine Met.ofW (cc := c_M_first) (maxL := 6) (ret := (some .int)) (by decide) rfl ?_
  intro p e s m args below meth c s₁ B hml hv
  obtain ⟨rfl, hsz, hP, hK, hD0, hN⟩ := hv
  subst hsz
  have hD : va_D (wA 12 (fM cI cL cZ ad) ad wr s.heap.size σ) (wW 12 (fM cI cL cZ ad) ad σ ++ wr) := hD0.self (sz := s.heap.size)
  have hA : ∀ q : Nat, s.heap.size ≤ q → (wA 12 (fM cI cL cZ ad) ad wr s.heap.size σ) q := fun q h => Or.inr h
  have hN : NX (wA 12 (fM cI cL cZ ad) ad wr s.heap.size σ) s s.heap := hN
  generalize (wA 12 (fM cI cL cZ ad) ad wr s.heap.size σ) = A at hD hA hN ⊢
  have C : wC TB "PreferenceCountModel" c_M_first 6 (some .int) D cls (tyl cI cL cZ cS) A p s m ([.ref (ad 0), .int x1, .int x2].toArray) meth c := ⟨B.exec, B.bytes, B.returns, B.notSynchronized, fun w hw => atoms_spec (ws := Cond.code y_M_first c_M_first 6 (some .int) :: TB) B.pre w (List.mem_cons_of_mem _ hw), findClass_of_methodNamed B.named, hml, hK, hN, hA⟩
  have hx := C.1
  have hb := C.2.1
  have hts := C.2.2.2.2.1
  have hown := C.2.2.2.2.2.1
  have hS : va_S A s.heap s.heap [] := va_S.rf
  have hl := lv_entry ([.ref (ad 0), .int x1, .int x2]) (n := 6) (Nat.le_of_ble_eq_true rfl)
  rw [lg_entry_eq]
  generalize (lg_sl ([.ref (ad 0), .int x1, .int x2]) ++ List.replicate (6 - (lg_sl ([.ref (ad 0), .int x1, .int x2])).length) Slot.unset).toArray = ls at hl ⊢
  have hl : lv_has ls 6 [(0, .ref (ad 0)), (1, .int x1), (2, .int x2)] := hl
  have h : ∃ k5 : Nat, wp_M_first_5 Q k5 x1 x2 (-1 : Int32) (0 : Int32) σ := h
  refine lv_iconst (v := (-1)) hx hb d_M_first_0 (by decide) ?_
  refine lv_istore_n (lv' := [(3, .int (-1 : Int32)), (0, .ref (ad 0)), (1, .int x1), (2, .int x2)]) hx hb d_M_first_1 rfl hl (by decide) rfl (fun ls hl => ?_)
  refine lv_iconst (v := 0) hx hb d_M_first_2 (by decide) ?_
  refine lv_istore (lv' := [(4, .int (0 : Int32)), (3, .int (-1 : Int32)), (0, .ref (ad 0)), (1, .int x1), (2, .int x2)]) hx hb d_M_first_3 hl (by decide) rfl (fun ls hl => ?_)
  obtain ⟨n, h⟩ := h
  exact b_M_first_5 C n h (lv_sub hl [2, 3, 4, 1, 0] rfl) hP hD hS
def rm_M_last : Room := { frames := 2, cells := 0, slots := 0, locals := 45 }
set_option maxHeartbeats 4000000 in
set_option maxRecDepth 100000 in
theorem b_M_last_36 {p : Program} {l : Launch} {e : Env} {s : State} {m : MethodId} {args : Array Value} {below : List Frame} {meth : Method} {c : Code} {D : va_G} {cI cL cZ cS : ClassId} {ad : Nat → Nat} {wr : va_W} {A : Nat → Prop} {Q : Int32 → Mem → Prop} {K4 : Int32 → Int32 → Mem → Prop} {x1 : Int32} {x2 : Int32} {σ : Mem} {H : Heap} {locs : List Loc} {ls : Array Slot} (C : wC TB "PreferenceCountModel" c_M_last 3 (some .int) D cls (tyl cI cL cZ cS) A p s m args meth c) (hK4 : ∀ {σ : Mem} {H : Heap} {locs : List Loc} {ls : Array Slot} {x1 : Int32} {x2 : Int32}, K4 x1 x2 σ → lv_has ls 3 [(0, .ref (ad 0)), (1, .int x1), (2, .int x2)] → va_P D cls (wW 12 (fM cI cL cZ ad) ad σ ++ wr) H → va_D A (wW 12 (fM cI cL cZ ad) ad σ ++ wr) → va_S A s.heap H locs → W p l e (headSpec (Cond.code y_M_last c_M_last 3 (some .int) :: TB) rm_M_last).room s m args below meth c H locs 0 0 (MQ below (va_Qi Q (wB D cls (tyl cI cL cZ cS) 12 (fM cI cL cZ ad) ad wr A) A) args s 0 0 A) (F0 m 4 ls [])) (h : wp_M_last_36 Q K4 x1 x2 σ) (hl : lv_has ls 3 [(0, .ref (ad 0)), (1, .int x1), (2, .int x2)]) (hP : va_P D cls (wW 12 (fM cI cL cZ ad) ad σ ++ wr) H) (hD : va_D A (wW 12 (fM cI cL cZ ad) ad σ ++ wr)) (hS : va_S A s.heap H locs) : W p l e (headSpec (Cond.code y_M_last c_M_last 3 (some .int) :: TB) rm_M_last).room s m args below meth c H locs 0 0 (MQ below (va_Qi Q (wB D cls (tyl cI cL cZ cS) 12 (fM cI cL cZ ad) ad wr A) A) args s 0 0 A) (F0 m 36 ls []) := by
  have hx := C.1
  have hb := C.2.1
  have hts := C.2.2.2.2.1
  have hown := C.2.2.2.2.2.1
  have hml := C.2.2.2.2.2.2.1
  have h : ∀ v36 : Int32, v36 = (x2 + 1) → (K4 x1 v36 σ) := h
  obtain ⟨v36, e36⟩ : ∃ z : Int32, z = (x2 + 1) := ⟨_, rfl⟩
  have h := h v36 e36
  refine lv_iinc (k := 2) (v := v36) (lv' := [(2, .int v36), (0, .ref (ad 0)), (1, .int x1)]) hx hb d_M_last_36 hl rfl (by rw [e36] <;> rfl) (by decide) rfl (fun ls hl => ?_)
  refine lv_goto hx hb d_M_last_39 rfl ?_
  exact hK4 h (lv_sub hl [1, 2, 0] rfl) hP hD hS
set_option maxHeartbeats 4000000 in
set_option maxRecDepth 100000 in
theorem b_M_last_34 {p : Program} {l : Launch} {e : Env} {s : State} {m : MethodId} {args : Array Value} {below : List Frame} {meth : Method} {c : Code} {D : va_G} {cI cL cZ cS : ClassId} {ad : Nat → Nat} {wr : va_W} {A : Nat → Prop} {Q : Int32 → Mem → Prop} {K4 : Int32 → Int32 → Mem → Prop} {x2 : Int32} {σ : Mem} {H : Heap} {locs : List Loc} {ls : Array Slot} (C : wC TB "PreferenceCountModel" c_M_last 3 (some .int) D cls (tyl cI cL cZ cS) A p s m args meth c) (hK4 : ∀ {σ : Mem} {H : Heap} {locs : List Loc} {ls : Array Slot} {x1 : Int32} {x2 : Int32}, K4 x1 x2 σ → lv_has ls 3 [(0, .ref (ad 0)), (1, .int x1), (2, .int x2)] → va_P D cls (wW 12 (fM cI cL cZ ad) ad σ ++ wr) H → va_D A (wW 12 (fM cI cL cZ ad) ad σ ++ wr) → va_S A s.heap H locs → W p l e (headSpec (Cond.code y_M_last c_M_last 3 (some .int) :: TB) rm_M_last).room s m args below meth c H locs 0 0 (MQ below (va_Qi Q (wB D cls (tyl cI cL cZ cS) 12 (fM cI cL cZ ad) ad wr A) A) args s 0 0 A) (F0 m 4 ls [])) (h : wp_M_last_34 Q K4 x2 σ) (hl : lv_has ls 3 [(0, .ref (ad 0)), (2, .int x2)]) (hP : va_P D cls (wW 12 (fM cI cL cZ ad) ad σ ++ wr) H) (hD : va_D A (wW 12 (fM cI cL cZ ad) ad σ ++ wr)) (hS : va_S A s.heap H locs) : W p l e (headSpec (Cond.code y_M_last c_M_last 3 (some .int) :: TB) rm_M_last).room s m args below meth c H locs 0 0 (MQ below (va_Qi Q (wB D cls (tyl cI cL cZ cS) 12 (fM cI cL cZ ad) ad wr A) A) args s 0 0 A) (F0 m 34 ls []) := by
  have hx := C.1
  have hb := C.2.1
  have hts := C.2.2.2.2.1
  have hown := C.2.2.2.2.2.1
  have hml := C.2.2.2.2.2.2.1
  have h : wp_M_last_36 Q K4 x2 x2 σ := h
  refine lv_iload_n hx hb d_M_last_34 rfl (lv_at hl 1 rfl) ?_
  refine lv_istore_n (lv' := [(1, .int x2), (0, .ref (ad 0)), (2, .int x2)]) hx hb d_M_last_35 rfl hl (by decide) rfl (fun ls hl => ?_)
  exact b_M_last_36 C hK4 h (lv_sub hl [1, 0, 2] rfl) hP hD hS
set_option maxHeartbeats 4000000 in
set_option maxRecDepth 100000 in
theorem b_M_last_4 {p : Program} {l : Launch} {e : Env} {s : State} {m : MethodId} {args : Array Value} {below : List Frame} {meth : Method} {c : Code} {D : va_G} {cI cL cZ cS : ClassId} {ad : Nat → Nat} {wr : va_W} {A : Nat → Prop} {Q : Int32 → Mem → Prop} (C : wC TB "PreferenceCountModel" c_M_last 3 (some .int) D cls (tyl cI cL cZ cS) A p s m args meth c) : ∀ (n : Nat) {σ : Mem} {H : Heap} {locs : List Loc} {ls : Array Slot} {x1 : Int32} {x2 : Int32}, wp_M_last_4 Q n x1 x2 σ → lv_has ls 3 [(0, .ref (ad 0)), (1, .int x1), (2, .int x2)] → va_P D cls (wW 12 (fM cI cL cZ ad) ad σ ++ wr) H → va_D A (wW 12 (fM cI cL cZ ad) ad σ ++ wr) → va_S A s.heap H locs → W p l e (headSpec (Cond.code y_M_last c_M_last 3 (some .int) :: TB) rm_M_last).room s m args below meth c H locs 0 0 (MQ below (va_Qi Q (wB D cls (tyl cI cL cZ cS) 12 (fM cI cL cZ ad) ad wr A) A) args s 0 0 A) (F0 m 4 ls []) := by
  have hx := C.1
  have hb := C.2.1
  have hts := C.2.2.2.2.1
  have hown := C.2.2.2.2.2.1
  have hml := C.2.2.2.2.2.2.1
  intro n
  induction n with
  | zero => intro σ H locs ls x1 x2 h; exact h.elim
  | succ j4 ih =>
    intro σ H locs ls x1 x2 h hl hP hD hS
    have hK4 := @ih
    have h : ((σ.1 0 1) ≤ x2 → (Q x1 σ)) ∧ (¬ (σ.1 0 1) ≤ x2 → (vp_in x2 12 ∧ (((σ.1 2 (Int32.toNatClampNeg x2)) = 0 → ((x1 < 0 → (wp_M_last_34 Q (wp_M_last_4 Q j4) x2 σ)) ∧ (¬ x1 < 0 → (wp_M_isAhead (fun r28 σ28 => (r28 = 0 → (wp_M_last_36 Q (wp_M_last_4 Q j4) x1 x2 σ28)) ∧ (¬ r28 = 0 → (wp_M_last_34 Q (wp_M_last_4 Q j4) x2 σ28))) x1 x2 σ)))) ∧ (¬ (σ.1 2 (Int32.toNatClampNeg x2)) = 0 → (wp_M_last_36 Q (wp_M_last_4 Q j4) x1 x2 σ))))) := h
    refine lv_iload_n hx hb d_M_last_4 rfl (lv_at hl 2 rfl) ?_
    refine lv_aload_n hx hb d_M_last_5 rfl (lv_at hl 0 rfl) ?_
    refine r_get C ku_M hP (by decide) rfl rfl 1 (by decide) kw_510 rfl d_M_last_6 ?_
    refine lv_icmp_ge hx hb d_M_last_9 rfl (fun hc9 => ?_) (fun hc9 => ?_)
    · have h := h.1 hc9
      refine lv_iload_n hx hb d_M_last_42 rfl (lv_at hl 1 rfl) ?_
      exact r_iret C hP hD hS d_M_last_43 h
    · have h := h.2 hc9
      refine lv_aload_n hx hb d_M_last_12 rfl (lv_at hl 0 rfl) ?_
      refine r_get C ku_M hP (by decide) rfl rfl 4 (by decide) kw_513 rfl d_M_last_13 ?_
      refine lv_iload_n hx hb d_M_last_16 rfl (lv_at hl 2 rfl) ?_
      obtain ⟨hi17, h⟩ := h
      refine r_iald C hP (by decide) rfl rfl hi17 d_M_last_17 ?_
      refine lv_if_ne hx hb d_M_last_18 rfl (fun hc18 => ?_) (fun hc18 => ?_)
      · have h := h.2 hc18
        exact b_M_last_36 C hK4 h (lv_sub hl [0, 1, 2] rfl) hP hD hS
      · have h := h.1 hc18
        refine lv_iload_n hx hb d_M_last_21 rfl (lv_at hl 1 rfl) ?_
        refine lv_if_lt hx hb d_M_last_22 rfl (fun hc22 => ?_) (fun hc22 => ?_)
        · have h := h.1 hc22
          exact b_M_last_34 C hK4 h (lv_sub hl [0, 2] rfl) hP hD hS
        · have h := h.2 hc22
          refine lv_aload_n hx hb d_M_last_25 rfl (lv_at hl 0 rfl) ?_
          refine lv_iload_n hx hb d_M_last_26 rfl (lv_at hl 1 rfl) ?_
          refine lv_iload_n hx hb d_M_last_27 rfl (lv_at hl 2 rfl) ?_
          refine r_calli C hD hS (va_runV (As := [.int x1, .int x2]) (rest := []) ⟨hx, hb, hml, hown, hts⟩ (m_M_isAhead h) (cwV 2 hts (g_V kw_651 kw_653 kp_31 kw_7 kw_654) rfl rfl rfl (by decide +kernel) ⟨Nat.le_of_ble_eq_true rfl, Nat.le_of_ble_eq_true rfl⟩) (r_preV (o := 0) C hP hD hS (by decide) rfl rfl) rfl rfl hl.1 rfl (lv_room (Nat.le_of_ble_eq_true rfl)) d_M_last_28 ⟨Nat.le_of_ble_eq_true rfl, Nat.le_of_ble_eq_true rfl⟩) (fun r28 σ28 H locs h hP hD hS => ?_)
          refine lv_if_eq hx hb d_M_last_31 rfl (fun hc31 => ?_) (fun hc31 => ?_)
          · have h := h.1 hc31
            exact b_M_last_36 C hK4 h (lv_sub hl [0, 1, 2] rfl) hP hD hS
          · have h := h.2 hc31
            exact b_M_last_34 C hK4 h (lv_sub hl [0, 2] rfl) hP hD hS
set_option maxHeartbeats 4000000 in
set_option maxRecDepth 100000 in
theorem m_M_last {l : Launch} {D : va_G} {cI cL cZ cS : ClassId} {ad : Nat → Nat} {wr : va_W} {sz : Nat} {Q : Int32 → Mem → Prop} {σ : Mem} (h : wp_M_last Q σ) : Met l y_M_last (Cond.code y_M_last c_M_last 3 (some .int) :: TB) rm_M_last (wPc D cls (tyl cI cL cZ cS) 12 (fM cI cL cZ ad) ad wr sz σ [.ref (ad 0)]) (va_Qi Q (wB D cls (tyl cI cL cZ cS) 12 (fM cI cL cZ ad) ad wr (wA 12 (fM cI cL cZ ad) ad wr sz σ)) (wA 12 (fM cI cL cZ ad) ad wr sz σ)) 0 0 (wA 12 (fM cI cL cZ ad) ad wr sz σ) := by
  refine Met.ofW (cc := c_M_last) (maxL := 3) (ret := (some .int)) (by decide) rfl ?_
  intro p e s m args below meth c s₁ B hml hv
  obtain ⟨rfl, hsz, hP, hK, hD0, hN⟩ := hv
  subst hsz
  have hD : va_D (wA 12 (fM cI cL cZ ad) ad wr s.heap.size σ) (wW 12 (fM cI cL cZ ad) ad σ ++ wr) := hD0.self (sz := s.heap.size)
  have hA : ∀ q : Nat, s.heap.size ≤ q → (wA 12 (fM cI cL cZ ad) ad wr s.heap.size σ) q := fun q h => Or.inr h
  have hN : NX (wA 12 (fM cI cL cZ ad) ad wr s.heap.size σ) s s.heap := hN
  generalize (wA 12 (fM cI cL cZ ad) ad wr s.heap.size σ) = A at hD hA hN ⊢
  have C : wC TB "PreferenceCountModel" c_M_last 3 (some .int) D cls (tyl cI cL cZ cS) A p s m ([.ref (ad 0)].toArray) meth c := ⟨B.exec, B.bytes, B.returns, B.notSynchronized, fun w hw => atoms_spec (ws := Cond.code y_M_last c_M_last 3 (some .int) :: TB) B.pre w (List.mem_cons_of_mem _ hw), findClass_of_methodNamed B.named, hml, hK, hN, hA⟩
  have hx := C.1
  have hb := C.2.1
  have hts := C.2.2.2.2.1
  have hown := C.2.2.2.2.2.1
  have hS : va_S A s.heap s.heap [] := va_S.rf
  have hl := lv_entry ([.ref (ad 0)]) (n := 3) (Nat.le_of_ble_eq_true rfl)
  rw [lg_entry_eq]
  generalize (lg_sl ([.ref (ad 0)]) ++ List.replicate (3 - (lg_sl ([.ref (ad 0)])).length) Slot.unset).toArray = ls at hl ⊢
  have hl : lv_has ls 3 [(0, .ref (ad 0))] := hl
  have h : ∃ k4 : Nat, wp_M_last_4 Q k4 (-1 : Int32) (0 : Int32) σ := h
  refine lv_iconst (v := (-1)) hx hb d_M_last_0 (by decide) ?_
  refine lv_istore_n (lv' := [(1, .int (-1 : Int32)), (0, .ref (ad 0))]) hx hb d_M_last_1 rfl hl (by decide) rfl (fun ls hl => ?_)
  refine lv_iconst (v := 0) hx hb d_M_last_2 (by decide) ?_
  refine lv_istore_n (lv' := [(2, .int (0 : Int32)), (1, .int (-1 : Int32)), (0, .ref (ad 0))]) hx hb d_M_last_3 rfl hl (by decide) rfl (fun ls hl => ?_)
  obtain ⟨n, h⟩ := h
  exact b_M_last_4 C n h (lv_sub hl [2, 1, 0] rfl) hP hD hS
def rm_M_elect : Room := { frames := 0, cells := 0, slots := 0, locals := 0 }
set_option maxHeartbeats 4000000 in
set_option maxRecDepth 100000 in
theorem m_M_elect {l : Launch} {D : va_G} {cI cL cZ cS : ClassId} {ad : Nat → Nat} {wr : va_W} {sz : Nat} {Q : Mem → Prop} {x1 : Int32} {σ : Mem} (h : wp_M_elect Q x1 σ) : Met l y_M_elect (Cond.code y_M_elect c_M_elect 2 none :: TB) rm_M_elect (wPc D cls (tyl cI cL cZ cS) 12 (fM cI cL cZ ad) ad wr sz σ [.ref (ad 0), .int x1]) (va_Qv Q (wB D cls (tyl cI cL cZ cS) 12 (fM cI cL cZ ad) ad wr (wA 12 (fM cI cL cZ ad) ad wr sz σ)) (wA 12 (fM cI cL cZ ad) ad wr sz σ)) 0 0 (wA 12 (fM cI cL cZ ad) ad wr sz σ) := by
  refine Met.ofW (cc := c_M_elect) (maxL := 2) (ret := none) (by decide) rfl ?_
  intro p e s m args below meth c s₁ B hml hv
  obtain ⟨rfl, hsz, hP, hK, hD0, hN⟩ := hv
  subst hsz
  have hD : va_D (wA 12 (fM cI cL cZ ad) ad wr s.heap.size σ) (wW 12 (fM cI cL cZ ad) ad σ ++ wr) := hD0.self (sz := s.heap.size)
  have hA : ∀ q : Nat, s.heap.size ≤ q → (wA 12 (fM cI cL cZ ad) ad wr s.heap.size σ) q := fun q h => Or.inr h
  have hN : NX (wA 12 (fM cI cL cZ ad) ad wr s.heap.size σ) s s.heap := hN
  generalize (wA 12 (fM cI cL cZ ad) ad wr s.heap.size σ) = A at hD hA hN ⊢
  have C : wC TB "PreferenceCountModel" c_M_elect 2 none D cls (tyl cI cL cZ cS) A p s m ([.ref (ad 0), .int x1].toArray) meth c := ⟨B.exec, B.bytes, B.returns, B.notSynchronized, fun w hw => atoms_spec (ws := Cond.code y_M_elect c_M_elect 2 none :: TB) B.pre w (List.mem_cons_of_mem _ hw), findClass_of_methodNamed B.named, hml, hK, hN, hA⟩
  have hx := C.1
  have hb := C.2.1
  have hts := C.2.2.2.2.1
  have hown := C.2.2.2.2.2.1
  have hS : va_S A s.heap s.heap [] := va_S.rf
  have hl := lv_entry ([.ref (ad 0), .int x1]) (n := 2) (Nat.le_of_ble_eq_true rfl)
  rw [lg_entry_eq]
  generalize (lg_sl ([.ref (ad 0), .int x1]) ++ List.replicate (2 - (lg_sl ([.ref (ad 0), .int x1])).length) Slot.unset).toArray = ls at hl ⊢
  have hl : lv_has ls 2 [(0, .ref (ad 0)), (1, .int x1)] := hl
  have h : ∀ σ7 : Mem, σ7 = mI σ 0 5 ((σ.1 0 5) + (1 : Int32)) → (vp_in x1 12 ∧ (∀ σ19 : Mem, σ19 = mI σ7 2 (Int32.toNatClampNeg x1) (σ7.1 0 5) → (Q σ19))) := h
  refine lv_aload_n hx hb d_M_elect_0 rfl (lv_at hl 0 rfl) ?_
  refine lv_dup hx hb d_M_elect_1 rfl ?_
  refine r_get C ku_M hP (by decide) rfl rfl 5 (by decide) kw_514 rfl d_M_elect_2 ?_
  refine lv_iconst (v := 1) hx hb d_M_elect_5 (by decide) ?_
  refine lv_iadd hx hb d_M_elect_6 ?_
  refine r_putI (ty := .int) C ku_M ft_M fo_M fn_M hP hD hS (by decide) rfl rfl 5 (by decide) kw_514 rfl (by decide +kernel) rfl rfl (Nat.le_of_ble_eq_true rfl) d_M_elect_7 rfl (fun σ7 e7 H locs hP hD hS => ?_)
  have h := h σ7 e7
  refine lv_aload_n hx hb d_M_elect_10 rfl (lv_at hl 0 rfl) ?_
  refine r_get C ku_M hP (by decide) rfl rfl 4 (by decide) kw_513 rfl d_M_elect_11 ?_
  refine lv_iload_n hx hb d_M_elect_14 rfl (lv_at hl 1 rfl) ?_
  refine lv_aload_n hx hb d_M_elect_15 rfl (lv_at hl 0 rfl) ?_
  refine r_get C ku_M hP (by decide) rfl rfl 5 (by decide) kw_514 rfl d_M_elect_16 ?_
  obtain ⟨hi19, h⟩ := h
  refine r_iast C hP hD hS (by decide) (fun _ _ => rfl) rfl hi19 d_M_elect_19 (fun σ19 e19 H locs hP hD hS => ?_)
  have h := h σ19 e19
  exact r_vret C hP hD hS d_M_elect_20 h
def rm_M_endStage : Room := { frames := 3, cells := 0, slots := 0, locals := 70 }
set_option maxHeartbeats 4000000 in
set_option maxRecDepth 100000 in
theorem b_M_endStage_171 {p : Program} {l : Launch} {e : Env} {s : State} {m : MethodId} {args : Array Value} {below : List Frame} {meth : Method} {c : Code} {D : va_G} {cI cL cZ cS : ClassId} {ad : Nat → Nat} {wr : va_W} {A : Nat → Prop} {Q : Mem → Prop} {t0 : Int32} {σ : Mem} {H : Heap} {locs : List Loc} {ls : Array Slot} (C : wC TB "PreferenceCountModel" c_M_endStage 2 none D cls (tyl cI cL cZ cS) A p s m args meth c) (h : wp_M_endStage_171 Q t0 σ) (hl : lv_has ls 2 []) (hP : va_P D cls (wW 12 (fM cI cL cZ ad) ad σ ++ wr) H) (hD : va_D A (wW 12 (fM cI cL cZ ad) ad σ ++ wr)) (hS : va_S A s.heap H locs) : W p l e (headSpec (Cond.code y_M_endStage c_M_endStage 2 none :: TB) rm_M_endStage).room s m args below meth c H locs 0 0 (MQ below (va_Qv Q (wB D cls (tyl cI cL cZ cS) 12 (fM cI cL cZ ad) ad wr A) A) args s 0 0 A) (F0 m 171 ls [.int t0, .ref (ad 0)]) := by
  have hx := C.1
  have hb := C.2.1
  have hts := C.2.2.2.2.1
  have hown := C.2.2.2.2.2.1
  have hml := C.2.2.2.2.2.2.1
  have h : (t0 = 0 ∨ t0 = 1) ∧ (∀ σ171 : Mem, σ171 = mI σ 0 19 t0 → (Q σ171)) := h
  obtain ⟨hb171, h⟩ := h
  refine r_putI (ty := .boolean) C ku_M ft_M fo_M fn_M hP hD hS (by decide) rfl rfl 19 (by decide) kw_528 rfl (by decide +kernel) (nar_b hb171) (fit_b hb171) (Nat.le_of_ble_eq_true rfl) d_M_endStage_171 rfl (fun σ171 e171 H locs hP hD hS => ?_)
  have h := h σ171 e171
  exact r_vret C hP hD hS d_M_endStage_174 h
set_option maxHeartbeats 4000000 in
set_option maxRecDepth 100000 in
theorem b_M_endStage_166 {p : Program} {l : Launch} {e : Env} {s : State} {m : MethodId} {args : Array Value} {below : List Frame} {meth : Method} {c : Code} {D : va_G} {cI cL cZ cS : ClassId} {ad : Nat → Nat} {wr : va_W} {A : Nat → Prop} {Q : Mem → Prop} {σ : Mem} {H : Heap} {locs : List Loc} {ls : Array Slot} (C : wC TB "PreferenceCountModel" c_M_endStage 2 none D cls (tyl cI cL cZ cS) A p s m args meth c) (h : wp_M_endStage_166 Q σ) (hl : lv_has ls 2 []) (hP : va_P D cls (wW 12 (fM cI cL cZ ad) ad σ ++ wr) H) (hD : va_D A (wW 12 (fM cI cL cZ ad) ad σ ++ wr)) (hS : va_S A s.heap H locs) : W p l e (headSpec (Cond.code y_M_endStage c_M_endStage 2 none :: TB) rm_M_endStage).room s m args below meth c H locs 0 0 (MQ below (va_Qv Q (wB D cls (tyl cI cL cZ cS) 12 (fM cI cL cZ ad) ad wr A) A) args s 0 0 A) (F0 m 166 ls [.ref (ad 0)]) := by
  have hx := C.1
  have hb := C.2.1
  have hts := C.2.2.2.2.1
  have hown := C.2.2.2.2.2.1
  have hml := C.2.2.2.2.2.2.1
  have h : wp_M_endStage_171 Q (1 : Int32) σ := h
  refine lv_iconst (v := 1) hx hb d_M_endStage_166 (by decide) ?_
  refine lv_goto hx hb d_M_endStage_167 rfl ?_
  exact b_M_endStage_171 C h (lv_sub hl [] rfl) hP hD hS
set_option maxHeartbeats 4000000 in
set_option maxRecDepth 100000 in
theorem b_M_endStage_147 {p : Program} {l : Launch} {e : Env} {s : State} {m : MethodId} {args : Array Value} {below : List Frame} {meth : Method} {c : Code} {D : va_G} {cI cL cZ cS : ClassId} {ad : Nat → Nat} {wr : va_W} {A : Nat → Prop} {Q : Mem → Prop} {σ : Mem} {H : Heap} {locs : List Loc} {ls : Array Slot} (C : wC TB "PreferenceCountModel" c_M_endStage 2 none D cls (tyl cI cL cZ cS) A p s m args meth c) (h : wp_M_endStage_147 Q σ) (hl : lv_has ls 2 [(0, .ref (ad 0))]) (hP : va_P D cls (wW 12 (fM cI cL cZ ad) ad σ ++ wr) H) (hD : va_D A (wW 12 (fM cI cL cZ ad) ad σ ++ wr)) (hS : va_S A s.heap H locs) : W p l e (headSpec (Cond.code y_M_endStage c_M_endStage 2 none :: TB) rm_M_endStage).room s m args below meth c H locs 0 0 (MQ below (va_Qv Q (wB D cls (tyl cI cL cZ cS) 12 (fM cI cL cZ ad) ad wr A) A) args s 0 0 A) (F0 m 147 ls []) := by
  have hx := C.1
  have hb := C.2.1
  have hts := C.2.2.2.2.1
  have hown := C.2.2.2.2.2.1
  have hml := C.2.2.2.2.2.2.1
  have h : ((σ.1 0 2) ≤ (σ.1 0 5) → (wp_M_endStage_166 Q σ)) ∧ (¬ (σ.1 0 2) ≤ (σ.1 0 5) → (wp_M_continuing (fun r160 σ160 => (r160 = 0 → (wp_M_endStage_166 Q σ160)) ∧ (¬ r160 = 0 → (wp_M_endStage_171 Q (0 : Int32) σ160))) σ)) := h
  refine lv_aload_n hx hb d_M_endStage_147 rfl (lv_at hl 0 rfl) ?_
  refine lv_aload_n hx hb d_M_endStage_148 rfl (lv_at hl 0 rfl) ?_
  refine r_get C ku_M hP (by decide) rfl rfl 5 (by decide) kw_514 rfl d_M_endStage_149 ?_
  refine lv_aload_n hx hb d_M_endStage_152 rfl (lv_at hl 0 rfl) ?_
  refine r_get C ku_M hP (by decide) rfl rfl 2 (by decide) kw_511 rfl d_M_endStage_153 ?_
  refine lv_icmp_ge hx hb d_M_endStage_156 rfl (fun hc156 => ?_) (fun hc156 => ?_)
  · have h := h.1 hc156
    exact b_M_endStage_166 C h (lv_sub hl [] rfl) hP hD hS
  · have h := h.2 hc156
    refine lv_aload_n hx hb d_M_endStage_159 rfl (lv_at hl 0 rfl) ?_
    refine r_calli C hD hS (va_runV (As := []) (rest := [.ref (ad 0)]) ⟨hx, hb, hml, hown, hts⟩ (m_M_continuing h) (cwV 0 hts (g_V kw_595 kw_597 kp_21 kw_7 kw_598) rfl rfl rfl (by decide +kernel) ⟨Nat.le_of_ble_eq_true rfl, Nat.le_of_ble_eq_true rfl⟩) (r_preV (o := 0) C hP hD hS (by decide) rfl rfl) rfl rfl hl.1 rfl (lv_room (Nat.le_of_ble_eq_true rfl)) d_M_endStage_160 ⟨Nat.le_of_ble_eq_true rfl, Nat.le_of_ble_eq_true rfl⟩) (fun r160 σ160 H locs h hP hD hS => ?_)
    refine lv_if_ne hx hb d_M_endStage_163 rfl (fun hc163 => ?_) (fun hc163 => ?_)
    · have h := h.2 hc163
      refine lv_iconst (v := 0) hx hb d_M_endStage_170 (by decide) ?_
      exact b_M_endStage_171 C h (lv_sub hl [] rfl) hP hD hS
    · have h := h.1 hc163
      exact b_M_endStage_166 C h (lv_sub hl [] rfl) hP hD hS
set_option maxHeartbeats 4000000 in
set_option maxRecDepth 100000 in
theorem b_M_endStage_128 {p : Program} {l : Launch} {e : Env} {s : State} {m : MethodId} {args : Array Value} {below : List Frame} {meth : Method} {c : Code} {D : va_G} {cI cL cZ cS : ClassId} {ad : Nat → Nat} {wr : va_W} {A : Nat → Prop} {Q : Mem → Prop} (C : wC TB "PreferenceCountModel" c_M_endStage 2 none D cls (tyl cI cL cZ cS) A p s m args meth c) : ∀ (n : Nat) {σ : Mem} {H : Heap} {locs : List Loc} {ls : Array Slot} {x1 : Int32}, wp_M_endStage_128 Q n x1 σ → lv_has ls 2 [(0, .ref (ad 0)), (1, .int x1)] → va_P D cls (wW 12 (fM cI cL cZ ad) ad σ ++ wr) H → va_D A (wW 12 (fM cI cL cZ ad) ad σ ++ wr) → va_S A s.heap H locs → W p l e (headSpec (Cond.code y_M_endStage c_M_endStage 2 none :: TB) rm_M_endStage).room s m args below meth c H locs 0 0 (MQ below (va_Qv Q (wB D cls (tyl cI cL cZ cS) 12 (fM cI cL cZ ad) ad wr A) A) args s 0 0 A) (F0 m 128 ls []) := by
  have hx := C.1
  have hb := C.2.1
  have hts := C.2.2.2.2.1
  have hown := C.2.2.2.2.2.1
  have hml := C.2.2.2.2.2.2.1
  intro n
  induction n with
  | zero => intro σ H locs ls x1 h; exact h.elim
  | succ j128 ih =>
    intro σ H locs ls x1 h hl hP hD hS
    have hK128 := @ih
    have h : (x1 < 0 → (wp_M_endStage_147 Q σ)) ∧ (¬ x1 < 0 → (wp_M_elect (fun σ134 => wp_M_first (fun r140 σ140 => (wp_M_endStage_128 Q j128) r140 σ140) (1 : Int32) (0 : Int32) σ134) x1 σ)) := h
    refine lv_iload_n hx hb d_M_endStage_128 rfl (lv_at hl 1 rfl) ?_
    refine lv_if_lt hx hb d_M_endStage_129 rfl (fun hc129 => ?_) (fun hc129 => ?_)
    · have h := h.1 hc129
      exact b_M_endStage_147 C h (lv_sub hl [0] rfl) hP hD hS
    · have h := h.2 hc129
      refine lv_aload_n hx hb d_M_endStage_132 rfl (lv_at hl 0 rfl) ?_
      refine lv_iload_n hx hb d_M_endStage_133 rfl (lv_at hl 1 rfl) ?_
      refine r_callv C hD hS (va_runV (As := [.int x1]) (rest := []) ⟨hx, hb, hml, hown, hts⟩ (m_M_elect h) (cwV 1 hts (g_V kw_655 kw_657 kp_32 kw_7 kw_658) rfl rfl rfl (by decide +kernel) ⟨Nat.le_of_ble_eq_true rfl, Nat.le_of_ble_eq_true rfl⟩) (r_preV (o := 0) C hP hD hS (by decide) rfl rfl) rfl rfl hl.1 rfl (lv_room (Nat.le_of_ble_eq_true rfl)) d_M_endStage_134 ⟨Nat.le_of_ble_eq_true rfl, Nat.le_of_ble_eq_true rfl⟩) (fun σ134 H locs h hP hD hS => ?_)
      refine lv_aload_n hx hb d_M_endStage_137 rfl (lv_at hl 0 rfl) ?_
      refine lv_iconst (v := 1) hx hb d_M_endStage_138 (by decide) ?_
      refine lv_iconst (v := 0) hx hb d_M_endStage_139 (by decide) ?_
      refine r_calli C hD hS (va_runV (As := [.int (1 : Int32), .int (0 : Int32)]) (rest := []) ⟨hx, hb, hml, hown, hts⟩ (m_M_first h) (cwV 2 hts (g_V kw_643 kw_645 kp_29 kw_7 kw_646) rfl rfl rfl (by decide +kernel) ⟨Nat.le_of_ble_eq_true rfl, Nat.le_of_ble_eq_true rfl⟩) (r_preV (o := 0) C hP hD hS (by decide) rfl rfl) rfl rfl hl.1 rfl (lv_room (Nat.le_of_ble_eq_true rfl)) d_M_endStage_140 ⟨Nat.le_of_ble_eq_true rfl, Nat.le_of_ble_eq_true rfl⟩) (fun r140 σ140 H locs h hP hD hS => ?_)
      refine lv_istore_n (lv' := [(1, .int r140), (0, .ref (ad 0))]) hx hb d_M_endStage_143 rfl hl (by decide) rfl (fun ls hl => ?_)
      refine lv_goto hx hb d_M_endStage_144 rfl ?_
      exact hK128 h (lv_sub hl [1, 0] rfl) hP hD hS
set_option maxHeartbeats 4000000 in
set_option maxRecDepth 100000 in
theorem b_M_endStage_75 {p : Program} {l : Launch} {e : Env} {s : State} {m : MethodId} {args : Array Value} {below : List Frame} {meth : Method} {c : Code} {D : va_G} {cI cL cZ cS : ClassId} {ad : Nat → Nat} {wr : va_W} {A : Nat → Prop} {Q : Mem → Prop} (C : wC TB "PreferenceCountModel" c_M_endStage 2 none D cls (tyl cI cL cZ cS) A p s m args meth c) : ∀ (n : Nat) {σ : Mem} {H : Heap} {locs : List Loc} {ls : Array Slot} {x1 : Int32}, wp_M_endStage_75 Q n x1 σ → lv_has ls 2 [(0, .ref (ad 0)), (1, .int x1)] → va_P D cls (wW 12 (fM cI cL cZ ad) ad σ ++ wr) H → va_D A (wW 12 (fM cI cL cZ ad) ad σ ++ wr) → va_S A s.heap H locs → W p l e (headSpec (Cond.code y_M_endStage c_M_endStage 2 none :: TB) rm_M_endStage).room s m args below meth c H locs 0 0 (MQ below (va_Qv Q (wB D cls (tyl cI cL cZ cS) 12 (fM cI cL cZ ad) ad wr A) A) args s 0 0 A) (F0 m 75 ls []) := by
  have hx := C.1
  have hb := C.2.1
  have hts := C.2.2.2.2.1
  have hown := C.2.2.2.2.2.1
  have hml := C.2.2.2.2.2.2.1
  intro n
  induction n with
  | zero => intro σ H locs ls x1 h; exact h.elim
  | succ j75 ih =>
    intro σ H locs ls x1 h hl hP hD hS
    have hK75 := @ih
    have h : (x1 < 0 → (((σ.1 0 2) ≤ (σ.1 0 5) → (wp_M_endStage_147 Q σ)) ∧ (¬ (σ.1 0 2) ≤ (σ.1 0 5) → (wp_M_continuing (fun r110 σ110 => ((σ110.1 0 2) < ((σ.1 0 5) + r110) → (wp_M_endStage_147 Q σ110)) ∧ (¬ (σ110.1 0 2) < ((σ.1 0 5) + r110) → (wp_M_first (fun r124 σ124 => ∃ k128 : Nat, wp_M_endStage_128 Q k128 r124 σ124) (1 : Int32) (0 : Int32) σ110))) σ)))) ∧ (¬ x1 < 0 → (wp_M_elect (fun σ81 => wp_M_first (fun r87 σ87 => (wp_M_endStage_75 Q j75) r87 σ87) (1 : Int32) (1 : Int32) σ81) x1 σ)) := h
    refine lv_iload_n hx hb d_M_endStage_75 rfl (lv_at hl 1 rfl) ?_
    refine lv_if_lt hx hb d_M_endStage_76 rfl (fun hc76 => ?_) (fun hc76 => ?_)
    · have h := h.1 hc76
      refine lv_aload_n hx hb d_M_endStage_94 rfl (lv_at hl 0 rfl) ?_
      refine r_get C ku_M hP (by decide) rfl rfl 5 (by decide) kw_514 rfl d_M_endStage_95 ?_
      refine lv_aload_n hx hb d_M_endStage_98 rfl (lv_at hl 0 rfl) ?_
      refine r_get C ku_M hP (by decide) rfl rfl 2 (by decide) kw_511 rfl d_M_endStage_99 ?_
      refine lv_icmp_ge hx hb d_M_endStage_102 rfl (fun hc102 => ?_) (fun hc102 => ?_)
      · have h := h.1 hc102
        exact b_M_endStage_147 C h (lv_sub hl [0] rfl) hP hD hS
      · have h := h.2 hc102
        refine lv_aload_n hx hb d_M_endStage_105 rfl (lv_at hl 0 rfl) ?_
        refine r_get C ku_M hP (by decide) rfl rfl 5 (by decide) kw_514 rfl d_M_endStage_106 ?_
        refine lv_aload_n hx hb d_M_endStage_109 rfl (lv_at hl 0 rfl) ?_
        refine r_calli C hD hS (va_runV (As := []) (rest := [.int (σ.1 0 5)]) ⟨hx, hb, hml, hown, hts⟩ (m_M_continuing h) (cwV 0 hts (g_V kw_595 kw_597 kp_21 kw_7 kw_598) rfl rfl rfl (by decide +kernel) ⟨Nat.le_of_ble_eq_true rfl, Nat.le_of_ble_eq_true rfl⟩) (r_preV (o := 0) C hP hD hS (by decide) rfl rfl) rfl rfl hl.1 rfl (lv_room (Nat.le_of_ble_eq_true rfl)) d_M_endStage_110 ⟨Nat.le_of_ble_eq_true rfl, Nat.le_of_ble_eq_true rfl⟩) (fun r110 σ110 H locs h hP hD hS => ?_)
        refine lv_iadd hx hb d_M_endStage_113 ?_
        refine lv_aload_n hx hb d_M_endStage_114 rfl (lv_at hl 0 rfl) ?_
        refine r_get C ku_M hP (by decide) rfl rfl 2 (by decide) kw_511 rfl d_M_endStage_115 ?_
        refine lv_icmp_gt hx hb d_M_endStage_118 rfl (fun hc118 => ?_) (fun hc118 => ?_)
        · have h := h.1 hc118
          exact b_M_endStage_147 C h (lv_sub hl [0] rfl) hP hD hS
        · have h := h.2 hc118
          refine lv_aload_n hx hb d_M_endStage_121 rfl (lv_at hl 0 rfl) ?_
          refine lv_iconst (v := 1) hx hb d_M_endStage_122 (by decide) ?_
          refine lv_iconst (v := 0) hx hb d_M_endStage_123 (by decide) ?_
          refine r_calli C hD hS (va_runV (As := [.int (1 : Int32), .int (0 : Int32)]) (rest := []) ⟨hx, hb, hml, hown, hts⟩ (m_M_first h) (cwV 2 hts (g_V kw_643 kw_645 kp_29 kw_7 kw_646) rfl rfl rfl (by decide +kernel) ⟨Nat.le_of_ble_eq_true rfl, Nat.le_of_ble_eq_true rfl⟩) (r_preV (o := 0) C hP hD hS (by decide) rfl rfl) rfl rfl hl.1 rfl (lv_room (Nat.le_of_ble_eq_true rfl)) d_M_endStage_124 ⟨Nat.le_of_ble_eq_true rfl, Nat.le_of_ble_eq_true rfl⟩) (fun r124 σ124 H locs h hP hD hS => ?_)
          refine lv_istore_n (lv' := [(1, .int r124), (0, .ref (ad 0))]) hx hb d_M_endStage_127 rfl hl (by decide) rfl (fun ls hl => ?_)
          obtain ⟨n, h⟩ := h
          exact b_M_endStage_128 C n h (lv_sub hl [1, 0] rfl) hP hD hS
    · have h := h.2 hc76
      refine lv_aload_n hx hb d_M_endStage_79 rfl (lv_at hl 0 rfl) ?_
      refine lv_iload_n hx hb d_M_endStage_80 rfl (lv_at hl 1 rfl) ?_
      refine r_callv C hD hS (va_runV (As := [.int x1]) (rest := []) ⟨hx, hb, hml, hown, hts⟩ (m_M_elect h) (cwV 1 hts (g_V kw_655 kw_657 kp_32 kw_7 kw_658) rfl rfl rfl (by decide +kernel) ⟨Nat.le_of_ble_eq_true rfl, Nat.le_of_ble_eq_true rfl⟩) (r_preV (o := 0) C hP hD hS (by decide) rfl rfl) rfl rfl hl.1 rfl (lv_room (Nat.le_of_ble_eq_true rfl)) d_M_endStage_81 ⟨Nat.le_of_ble_eq_true rfl, Nat.le_of_ble_eq_true rfl⟩) (fun σ81 H locs h hP hD hS => ?_)
      refine lv_aload_n hx hb d_M_endStage_84 rfl (lv_at hl 0 rfl) ?_
      refine lv_iconst (v := 1) hx hb d_M_endStage_85 (by decide) ?_
      refine lv_iconst (v := 1) hx hb d_M_endStage_86 (by decide) ?_
      refine r_calli C hD hS (va_runV (As := [.int (1 : Int32), .int (1 : Int32)]) (rest := []) ⟨hx, hb, hml, hown, hts⟩ (m_M_first h) (cwV 2 hts (g_V kw_643 kw_645 kp_29 kw_7 kw_646) rfl rfl rfl (by decide +kernel) ⟨Nat.le_of_ble_eq_true rfl, Nat.le_of_ble_eq_true rfl⟩) (r_preV (o := 0) C hP hD hS (by decide) rfl rfl) rfl rfl hl.1 rfl (lv_room (Nat.le_of_ble_eq_true rfl)) d_M_endStage_87 ⟨Nat.le_of_ble_eq_true rfl, Nat.le_of_ble_eq_true rfl⟩) (fun r87 σ87 H locs h hP hD hS => ?_)
      refine lv_istore_n (lv' := [(1, .int r87), (0, .ref (ad 0))]) hx hb d_M_endStage_90 rfl hl (by decide) rfl (fun ls hl => ?_)
      refine lv_goto hx hb d_M_endStage_91 rfl ?_
      exact hK75 h (lv_sub hl [1, 0] rfl) hP hD hS
set_option maxHeartbeats 4000000 in
set_option maxRecDepth 100000 in
theorem b_M_endStage_61 {p : Program} {l : Launch} {e : Env} {s : State} {m : MethodId} {args : Array Value} {below : List Frame} {meth : Method} {c : Code} {D : va_G} {cI cL cZ cS : ClassId} {ad : Nat → Nat} {wr : va_W} {A : Nat → Prop} {Q : Mem → Prop} {K19 : Int32 → Mem → Prop} {x1 : Int32} {u0 : Int64} {t1 : Int32} {σ : Mem} {H : Heap} {locs : List Loc} {ls : Array Slot} (C : wC TB "PreferenceCountModel" c_M_endStage 2 none D cls (tyl cI cL cZ cS) A p s m args meth c) (hK19 : ∀ {σ : Mem} {H : Heap} {locs : List Loc} {ls : Array Slot} {x1 : Int32}, K19 x1 σ → lv_has ls 2 [(0, .ref (ad 0)), (1, .int x1)] → va_P D cls (wW 12 (fM cI cL cZ ad) ad σ ++ wr) H → va_D A (wW 12 (fM cI cL cZ ad) ad σ ++ wr) → va_S A s.heap H locs → W p l e (headSpec (Cond.code y_M_endStage c_M_endStage 2 none :: TB) rm_M_endStage).room s m args below meth c H locs 0 0 (MQ below (va_Qv Q (wB D cls (tyl cI cL cZ cS) 12 (fM cI cL cZ ad) ad wr A) A) args s 0 0 A) (F0 m 19 ls [])) (h : wp_M_endStage_61 Q K19 x1 u0 t1 σ) (hl : lv_has ls 2 [(0, .ref (ad 0)), (1, .int x1)]) (hP : va_P D cls (wW 12 (fM cI cL cZ ad) ad σ ++ wr) H) (hD : va_D A (wW 12 (fM cI cL cZ ad) ad σ ++ wr)) (hS : va_S A s.heap H locs) : W p l e (headSpec (Cond.code y_M_endStage c_M_endStage 2 none :: TB) rm_M_endStage).room s m args below meth c H locs 0 0 (MQ below (va_Qv Q (wB D cls (tyl cI cL cZ cS) 12 (fM cI cL cZ ad) ad wr A) A) args s 0 0 A) (F0 m 61 ls [.long u0, .int t1, .ref (ad 9)]) := by
  have hx := C.1
  have hb := C.2.1
  have hts := C.2.2.2.2.1
  have hown := C.2.2.2.2.2.1
  have hml := C.2.2.2.2.2.2.1
  have h : vp_in t1 260 ∧ (∀ σ61 : Mem, σ61 = mL σ 9 (Int32.toNatClampNeg t1) u0 → (∀ v62 : Int32, v62 = (x1 + 1) → (K19 v62 σ61))) := h
  obtain ⟨hi61, h⟩ := h
  refine r_last C hP hD hS (by decide) (fun _ _ => rfl) rfl hi61 d_M_endStage_61 (fun σ61 e61 H locs hP hD hS => ?_)
  have h := h σ61 e61
  obtain ⟨v62, e62⟩ : ∃ z : Int32, z = (x1 + 1) := ⟨_, rfl⟩
  have h := h v62 e62
  refine lv_iinc (k := 1) (v := v62) (lv' := [(1, .int v62), (0, .ref (ad 0))]) hx hb d_M_endStage_62 hl rfl (by rw [e62] <;> rfl) (by decide) rfl (fun ls hl => ?_)
  refine lv_goto hx hb d_M_endStage_65 rfl ?_
  exact hK19 h (lv_sub hl [1, 0] rfl) hP hD hS
set_option maxHeartbeats 4000000 in
set_option maxRecDepth 100000 in
theorem b_M_endStage_52 {p : Program} {l : Launch} {e : Env} {s : State} {m : MethodId} {args : Array Value} {below : List Frame} {meth : Method} {c : Code} {D : va_G} {cI cL cZ cS : ClassId} {ad : Nat → Nat} {wr : va_W} {A : Nat → Prop} {Q : Mem → Prop} {K19 : Int32 → Mem → Prop} {x1 : Int32} {t0 : Int32} {σ : Mem} {H : Heap} {locs : List Loc} {ls : Array Slot} (C : wC TB "PreferenceCountModel" c_M_endStage 2 none D cls (tyl cI cL cZ cS) A p s m args meth c) (hK19 : ∀ {σ : Mem} {H : Heap} {locs : List Loc} {ls : Array Slot} {x1 : Int32}, K19 x1 σ → lv_has ls 2 [(0, .ref (ad 0)), (1, .int x1)] → va_P D cls (wW 12 (fM cI cL cZ ad) ad σ ++ wr) H → va_D A (wW 12 (fM cI cL cZ ad) ad σ ++ wr) → va_S A s.heap H locs → W p l e (headSpec (Cond.code y_M_endStage c_M_endStage 2 none :: TB) rm_M_endStage).room s m args below meth c H locs 0 0 (MQ below (va_Qv Q (wB D cls (tyl cI cL cZ cS) 12 (fM cI cL cZ ad) ad wr A) A) args s 0 0 A) (F0 m 19 ls [])) (h : wp_M_endStage_52 Q K19 x1 t0 σ) (hl : lv_has ls 2 [(0, .ref (ad 0)), (1, .int x1)]) (hP : va_P D cls (wW 12 (fM cI cL cZ ad) ad σ ++ wr) H) (hD : va_D A (wW 12 (fM cI cL cZ ad) ad σ ++ wr)) (hS : va_S A s.heap H locs) : W p l e (headSpec (Cond.code y_M_endStage c_M_endStage 2 none :: TB) rm_M_endStage).room s m args below meth c H locs 0 0 (MQ below (va_Qv Q (wB D cls (tyl cI cL cZ cS) 12 (fM cI cL cZ ad) ad wr A) A) args s 0 0 A) (F0 m 52 ls [.int t0, .ref (ad 9)]) := by
  have hx := C.1
  have hb := C.2.1
  have hts := C.2.2.2.2.1
  have hown := C.2.2.2.2.2.1
  have hml := C.2.2.2.2.2.2.1
  have h : wp_M_sumOf (fun r54 σ54 => wp_M_endStage_61 Q K19 x1 r54 t0 σ54) x1 σ := h
  refine lv_aload_n hx hb d_M_endStage_52 rfl (lv_at hl 0 rfl) ?_
  refine lv_iload_n hx hb d_M_endStage_53 rfl (lv_at hl 1 rfl) ?_
  refine r_calll C hD hS (va_runV (As := [.int x1]) (rest := [.int t0, .ref (ad 9)]) ⟨hx, hb, hml, hown, hts⟩ (m_M_sumOf h) (cwV 1 hts (g_V kw_635 kw_637 kp_27 kw_7 kw_638) rfl rfl rfl (by decide +kernel) ⟨Nat.le_of_ble_eq_true rfl, Nat.le_of_ble_eq_true rfl⟩) (r_preV (o := 0) C hP hD hS (by decide) rfl rfl) rfl rfl hl.1 rfl (lv_room (Nat.le_of_ble_eq_true rfl)) d_M_endStage_54 ⟨Nat.le_of_ble_eq_true rfl, Nat.le_of_ble_eq_true rfl⟩) (fun r54 σ54 H locs h hP hD hS => ?_)
  refine lv_goto hx hb d_M_endStage_57 rfl ?_
  exact b_M_endStage_61 C hK19 h (lv_sub hl [0, 1] rfl) hP hD hS
set_option maxHeartbeats 4000000 in
set_option maxRecDepth 100000 in
theorem b_M_endStage_19 {p : Program} {l : Launch} {e : Env} {s : State} {m : MethodId} {args : Array Value} {below : List Frame} {meth : Method} {c : Code} {D : va_G} {cI cL cZ cS : ClassId} {ad : Nat → Nat} {wr : va_W} {A : Nat → Prop} {Q : Mem → Prop} (C : wC TB "PreferenceCountModel" c_M_endStage 2 none D cls (tyl cI cL cZ cS) A p s m args meth c) : ∀ (n : Nat) {σ : Mem} {H : Heap} {locs : List Loc} {ls : Array Slot} {x1 : Int32}, wp_M_endStage_19 Q n x1 σ → lv_has ls 2 [(0, .ref (ad 0)), (1, .int x1)] → va_P D cls (wW 12 (fM cI cL cZ ad) ad σ ++ wr) H → va_D A (wW 12 (fM cI cL cZ ad) ad σ ++ wr) → va_S A s.heap H locs → W p l e (headSpec (Cond.code y_M_endStage c_M_endStage 2 none :: TB) rm_M_endStage).room s m args below meth c H locs 0 0 (MQ below (va_Qv Q (wB D cls (tyl cI cL cZ cS) 12 (fM cI cL cZ ad) ad wr A) A) args s 0 0 A) (F0 m 19 ls []) := by
  have hx := C.1
  have hb := C.2.1
  have hts := C.2.2.2.2.1
  have hown := C.2.2.2.2.2.1
  have hml := C.2.2.2.2.2.2.1
  intro n
  induction n with
  | zero => intro σ H locs ls x1 h; exact h.elim
  | succ j19 ih =>
    intro σ H locs ls x1 h hl hP hD hS
    have hK19 := @ih
    have h : ((13 : Int32) ≤ x1 → (wp_M_first (fun r71 σ71 => ∃ k75 : Nat, wp_M_endStage_75 Q k75 r71 σ71) (1 : Int32) (1 : Int32) σ)) ∧ (¬ (13 : Int32) ≤ x1 → ((x1 < (σ.1 0 1) → (wp_M_endStage_52 Q (wp_M_endStage_19 Q j19) x1 (((13 : Int32) * (σ.1 0 15)) + x1) σ)) ∧ (¬ x1 < (σ.1 0 1) → ((x1 = (12 : Int32) → (wp_M_endStage_52 Q (wp_M_endStage_19 Q j19) x1 (((13 : Int32) * (σ.1 0 15)) + x1) σ)) ∧ (¬ x1 = (12 : Int32) → (wp_M_endStage_61 Q (wp_M_endStage_19 Q j19) x1 (0 : Int64) (((13 : Int32) * (σ.1 0 15)) + x1) σ)))))) := h
    refine lv_iload_n hx hb d_M_endStage_19 rfl (lv_at hl 1 rfl) ?_
    refine lv_bipush (v := 13) hx hb d_M_endStage_20 (by decide) ?_
    refine lv_icmp_ge hx hb d_M_endStage_22 rfl (fun hc22 => ?_) (fun hc22 => ?_)
    · have h := h.1 hc22
      refine lv_aload_n hx hb d_M_endStage_68 rfl (lv_at hl 0 rfl) ?_
      refine lv_iconst (v := 1) hx hb d_M_endStage_69 (by decide) ?_
      refine lv_iconst (v := 1) hx hb d_M_endStage_70 (by decide) ?_
      refine r_calli C hD hS (va_runV (As := [.int (1 : Int32), .int (1 : Int32)]) (rest := []) ⟨hx, hb, hml, hown, hts⟩ (m_M_first h) (cwV 2 hts (g_V kw_643 kw_645 kp_29 kw_7 kw_646) rfl rfl rfl (by decide +kernel) ⟨Nat.le_of_ble_eq_true rfl, Nat.le_of_ble_eq_true rfl⟩) (r_preV (o := 0) C hP hD hS (by decide) rfl rfl) rfl rfl hl.1 rfl (lv_room (Nat.le_of_ble_eq_true rfl)) d_M_endStage_71 ⟨Nat.le_of_ble_eq_true rfl, Nat.le_of_ble_eq_true rfl⟩) (fun r71 σ71 H locs h hP hD hS => ?_)
      refine lv_istore_n (lv' := [(1, .int r71), (0, .ref (ad 0))]) hx hb d_M_endStage_74 rfl hl (by decide) rfl (fun ls hl => ?_)
      obtain ⟨n, h⟩ := h
      exact b_M_endStage_75 C n h (lv_sub hl [1, 0] rfl) hP hD hS
    · have h := h.2 hc22
      refine lv_aload_n hx hb d_M_endStage_25 rfl (lv_at hl 0 rfl) ?_
      refine r_get C ku_M hP (by decide) rfl rfl 16 (by decide) kw_525 rfl d_M_endStage_26 ?_
      refine lv_bipush (v := 13) hx hb d_M_endStage_29 (by decide) ?_
      refine lv_aload_n hx hb d_M_endStage_31 rfl (lv_at hl 0 rfl) ?_
      refine r_get C ku_M hP (by decide) rfl rfl 15 (by decide) kw_524 rfl d_M_endStage_32 ?_
      refine lv_imul hx hb d_M_endStage_35 ?_
      refine lv_iload_n hx hb d_M_endStage_36 rfl (lv_at hl 1 rfl) ?_
      refine lv_iadd hx hb d_M_endStage_37 ?_
      refine lv_iload_n hx hb d_M_endStage_38 rfl (lv_at hl 1 rfl) ?_
      refine lv_aload_n hx hb d_M_endStage_39 rfl (lv_at hl 0 rfl) ?_
      refine r_get C ku_M hP (by decide) rfl rfl 1 (by decide) kw_510 rfl d_M_endStage_40 ?_
      refine lv_icmp_lt hx hb d_M_endStage_43 rfl (fun hc43 => ?_) (fun hc43 => ?_)
      · have h := h.1 hc43
        exact b_M_endStage_52 C hK19 h (lv_sub hl [0, 1] rfl) hP hD hS
      · have h := h.2 hc43
        refine lv_iload_n hx hb d_M_endStage_46 rfl (lv_at hl 1 rfl) ?_
        refine lv_bipush (v := 12) hx hb d_M_endStage_47 (by decide) ?_
        refine lv_icmp_ne hx hb d_M_endStage_49 rfl (fun hc49 => ?_) (fun hc49 => ?_)
        · have h := h.2 hc49
          refine lv_lconst (v := 0) hx hb d_M_endStage_60 (by decide) ?_
          exact b_M_endStage_61 C hK19 h (lv_sub hl [0, 1] rfl) hP hD hS
        · have h := h.1 hc49
          exact b_M_endStage_52 C hK19 h (lv_sub hl [0, 1] rfl) hP hD hS
set_option maxHeartbeats 4000000 in
set_option maxRecDepth 100000 in
theorem m_M_endStage {l : Launch} {D : va_G} {cI cL cZ cS : ClassId} {ad : Nat → Nat} {wr : va_W} {sz : Nat} {Q : Mem → Prop} {σ : Mem} (h : wp_M_endStage Q σ) : Met l y_M_endStage (Cond.code y_M_endStage c_M_endStage 2 none :: TB) rm_M_endStage (wPc D cls (tyl cI cL cZ cS) 12 (fM cI cL cZ ad) ad wr sz σ [.ref (ad 0)]) (va_Qv Q (wB D cls (tyl cI cL cZ cS) 12 (fM cI cL cZ ad) ad wr (wA 12 (fM cI cL cZ ad) ad wr sz σ)) (wA 12 (fM cI cL cZ ad) ad wr sz σ)) 0 0 (wA 12 (fM cI cL cZ ad) ad wr sz σ) := by
  refine Met.ofW (cc := c_M_endStage) (maxL := 2) (ret := none) (by decide) rfl ?_
  intro p e s m args below meth c s₁ B hml hv
  obtain ⟨rfl, hsz, hP, hK, hD0, hN⟩ := hv
  subst hsz
  have hD : va_D (wA 12 (fM cI cL cZ ad) ad wr s.heap.size σ) (wW 12 (fM cI cL cZ ad) ad σ ++ wr) := hD0.self (sz := s.heap.size)
  have hA : ∀ q : Nat, s.heap.size ≤ q → (wA 12 (fM cI cL cZ ad) ad wr s.heap.size σ) q := fun q h => Or.inr h
  have hN : NX (wA 12 (fM cI cL cZ ad) ad wr s.heap.size σ) s s.heap := hN
  generalize (wA 12 (fM cI cL cZ ad) ad wr s.heap.size σ) = A at hD hA hN ⊢
  have C : wC TB "PreferenceCountModel" c_M_endStage 2 none D cls (tyl cI cL cZ cS) A p s m ([.ref (ad 0)].toArray) meth c := ⟨B.exec, B.bytes, B.returns, B.notSynchronized, fun w hw => atoms_spec (ws := Cond.code y_M_endStage c_M_endStage 2 none :: TB) B.pre w (List.mem_cons_of_mem _ hw), findClass_of_methodNamed B.named, hml, hK, hN, hA⟩
  have hx := C.1
  have hb := C.2.1
  have hts := C.2.2.2.2.1
  have hown := C.2.2.2.2.2.1
  have hS : va_S A s.heap s.heap [] := va_S.rf
  have hl := lv_entry ([.ref (ad 0)]) (n := 2) (Nat.le_of_ble_eq_true rfl)
  rw [lg_entry_eq]
  generalize (lg_sl ([.ref (ad 0)]) ++ List.replicate (2 - (lg_sl ([.ref (ad 0)])).length) Slot.unset).toArray = ls at hl ⊢
  have hl : lv_has ls 2 [(0, .ref (ad 0))] := hl
  have h : wp_M_lessen (fun σ1 => vp_in (σ1.1 0 15) 20 ∧ (∀ σ16 : Mem, σ16 = mL σ1 10 (Int32.toNatClampNeg (σ1.1 0 15)) (σ1.2 0 14) → (∃ k19 : Nat, wp_M_endStage_19 Q k19 (0 : Int32) σ16))) σ := h
  refine lv_aload_n hx hb d_M_endStage_0 rfl (lv_at hl 0 rfl) ?_
  refine r_callv C hD hS (va_runV (As := []) (rest := []) ⟨hx, hb, hml, hown, hts⟩ (m_M_lessen h) (cwV 0 hts (g_V kw_628 kw_630 kp_26 kw_7 kw_631) rfl rfl rfl (by decide +kernel) ⟨Nat.le_of_ble_eq_true rfl, Nat.le_of_ble_eq_true rfl⟩) (r_preV (o := 0) C hP hD hS (by decide) rfl rfl) rfl rfl hl.1 rfl (lv_room (Nat.le_of_ble_eq_true rfl)) d_M_endStage_1 ⟨Nat.le_of_ble_eq_true rfl, Nat.le_of_ble_eq_true rfl⟩) (fun σ1 H locs h hP hD hS => ?_)
  refine lv_aload_n hx hb d_M_endStage_4 rfl (lv_at hl 0 rfl) ?_
  refine r_get C ku_M hP (by decide) rfl rfl 17 (by decide) kw_526 rfl d_M_endStage_5 ?_
  refine lv_aload_n hx hb d_M_endStage_8 rfl (lv_at hl 0 rfl) ?_
  refine r_get C ku_M hP (by decide) rfl rfl 15 (by decide) kw_524 rfl d_M_endStage_9 ?_
  refine lv_aload_n hx hb d_M_endStage_12 rfl (lv_at hl 0 rfl) ?_
  refine r_get C ku_M hP (by decide) rfl rfl 14 (by decide) kw_523 rfl d_M_endStage_13 ?_
  obtain ⟨hi16, h⟩ := h
  refine r_last C hP hD hS (by decide) (fun _ _ => rfl) rfl hi16 d_M_endStage_16 (fun σ16 e16 H locs hP hD hS => ?_)
  have h := h σ16 e16
  refine lv_iconst (v := 0) hx hb d_M_endStage_17 (by decide) ?_
  refine lv_istore_n (lv' := [(1, .int (0 : Int32)), (0, .ref (ad 0))]) hx hb d_M_endStage_18 rfl hl (by decide) rfl (fun ls hl => ?_)
  obtain ⟨n, h⟩ := h
  exact b_M_endStage_19 C n h (lv_sub hl [1, 0] rfl) hP hD hS
def rm_M_open : Room := { frames := 4, cells := 0, slots := 0, locals := 91 }
set_option maxHeartbeats 4000000 in
set_option maxRecDepth 100000 in
theorem b_M_open_45 {p : Program} {l : Launch} {e : Env} {s : State} {m : MethodId} {args : Array Value} {below : List Frame} {meth : Method} {c : Code} {D : va_G} {cI cL cZ cS : ClassId} {ad : Nat → Nat} {wr : va_W} {A : Nat → Prop} {Q : Int32 → Mem → Prop} (C : wC TB "PreferenceCountModel" c_M_open 2 (some .int) D cls (tyl cI cL cZ cS) A p s m args meth c) : ∀ (n : Nat) {σ : Mem} {H : Heap} {locs : List Loc} {ls : Array Slot} {x1 : Int32}, wp_M_open_45 Q n x1 σ → lv_has ls 2 [(0, .ref (ad 0)), (1, .int x1)] → va_P D cls (wW 12 (fM cI cL cZ ad) ad σ ++ wr) H → va_D A (wW 12 (fM cI cL cZ ad) ad σ ++ wr) → va_S A s.heap H locs → W p l e (headSpec (Cond.code y_M_open c_M_open 2 (some .int) :: TB) rm_M_open).room s m args below meth c H locs 0 0 (MQ below (va_Qi Q (wB D cls (tyl cI cL cZ cS) 12 (fM cI cL cZ ad) ad wr A) A) args s 0 0 A) (F0 m 45 ls []) := by
  have hx := C.1
  have hb := C.2.1
  have hts := C.2.2.2.2.1
  have hown := C.2.2.2.2.2.1
  have hml := C.2.2.2.2.2.2.1
  intro n
  induction n with
  | zero => intro σ H locs ls x1 h; exact h.elim
  | succ j45 ih =>
    intro σ H locs ls x1 h hl hP hD hS
    have hK45 := @ih
    have h : ((σ.1 0 7) ≤ x1 → (wp_M_endStage (fun σ76 => wp_M_common (fun r95 σ95 => (¬ (Int64.toInt32 r95) = 0) ∧ (Q ((σ76.1 0 7) / (Int64.toInt32 r95)) σ95)) (Int32.toInt64 (σ76.1 0 7)) (Int32.toInt64 ((σ76.1 0 2) + (1 : Int32))) σ76) σ)) ∧ (¬ (σ.1 0 7) ≤ x1 → (vp_in x1 50 ∧ (∀ σ62 : Mem, σ62 = mL σ 7 (Int32.toNatClampNeg x1) (σ.2 0 14) → (wp_M_goOn (fun σ66 => ∀ v69 : Int32, v69 = (x1 + 1) → ((wp_M_open_45 Q j45) v69 σ66)) x1 (0 : Int32) σ62)))) := h
    refine lv_iload_n hx hb d_M_open_45 rfl (lv_at hl 1 rfl) ?_
    refine lv_aload_n hx hb d_M_open_46 rfl (lv_at hl 0 rfl) ?_
    refine r_get C ku_M hP (by decide) rfl rfl 7 (by decide) kw_516 rfl d_M_open_47 ?_
    refine lv_icmp_ge hx hb d_M_open_50 rfl (fun hc50 => ?_) (fun hc50 => ?_)
    · have h := h.1 hc50
      refine lv_aload_n hx hb d_M_open_75 rfl (lv_at hl 0 rfl) ?_
      refine r_callv C hD hS (va_runV (As := []) (rest := []) ⟨hx, hb, hml, hown, hts⟩ (m_M_endStage h) (cwV 0 hts (g_V kw_624 kw_626 kp_25 kw_7 kw_627) rfl rfl rfl (by decide +kernel) ⟨Nat.le_of_ble_eq_true rfl, Nat.le_of_ble_eq_true rfl⟩) (r_preV (o := 0) C hP hD hS (by decide) rfl rfl) rfl rfl hl.1 rfl (lv_room (Nat.le_of_ble_eq_true rfl)) d_M_open_76 ⟨Nat.le_of_ble_eq_true rfl, Nat.le_of_ble_eq_true rfl⟩) (fun σ76 H locs h hP hD hS => ?_)
      refine lv_aload_n hx hb d_M_open_79 rfl (lv_at hl 0 rfl) ?_
      refine r_get C ku_M hP (by decide) rfl rfl 7 (by decide) kw_516 rfl d_M_open_80 ?_
      refine lv_aload_n hx hb d_M_open_83 rfl (lv_at hl 0 rfl) ?_
      refine r_get C ku_M hP (by decide) rfl rfl 7 (by decide) kw_516 rfl d_M_open_84 ?_
      refine lv_i2l hx hb d_M_open_87 rfl ?_
      refine lv_aload_n hx hb d_M_open_88 rfl (lv_at hl 0 rfl) ?_
      refine r_get C ku_M hP (by decide) rfl rfl 2 (by decide) kw_511 rfl d_M_open_89 ?_
      refine lv_iconst (v := 1) hx hb d_M_open_92 (by decide) ?_
      refine lv_iadd hx hb d_M_open_93 ?_
      refine lv_i2l hx hb d_M_open_94 rfl ?_
      refine r_calll C hD hS (va_runS (As := [.long (Int32.toInt64 (σ76.1 0 7)), .long (Int32.toInt64 ((σ76.1 0 2) + (1 : Int32)))]) (rest := [.int (σ76.1 0 7)]) ⟨hx, hb, hml, hown, hts⟩ (m_M_common h) (va_cwS 2 hts (g_S kw_632 kw_633 kw_7 kw_634) rfl rfl rfl (by decide +kernel) ⟨Nat.le_of_ble_eq_true rfl, Nat.le_of_ble_eq_true rfl⟩) (r_preS C hP hD hS) rfl rfl hl.1 rfl (lv_room (Nat.le_of_ble_eq_true rfl)) d_M_open_95 ⟨Nat.le_of_ble_eq_true rfl, Nat.le_of_ble_eq_true rfl⟩) (fun r95 σ95 H locs h hP hD hS => ?_)
      refine lv_l2i hx hb d_M_open_98 rfl ?_
      obtain ⟨hz99, h⟩ := h
      refine lv_idiv hx hb d_M_open_99 hz99 ?_
      exact r_iret C hP hD hS d_M_open_100 h
    · have h := h.2 hc50
      refine lv_aload_n hx hb d_M_open_53 rfl (lv_at hl 0 rfl) ?_
      refine r_get C ku_M hP (by decide) rfl rfl 12 (by decide) kw_521 rfl d_M_open_54 ?_
      refine lv_iload_n hx hb d_M_open_57 rfl (lv_at hl 1 rfl) ?_
      refine lv_aload_n hx hb d_M_open_58 rfl (lv_at hl 0 rfl) ?_
      refine r_get C ku_M hP (by decide) rfl rfl 14 (by decide) kw_523 rfl d_M_open_59 ?_
      obtain ⟨hi62, h⟩ := h
      refine r_last C hP hD hS (by decide) (fun _ _ => rfl) rfl hi62 d_M_open_62 (fun σ62 e62 H locs hP hD hS => ?_)
      have h := h σ62 e62
      refine lv_aload_n hx hb d_M_open_63 rfl (lv_at hl 0 rfl) ?_
      refine lv_iload_n hx hb d_M_open_64 rfl (lv_at hl 1 rfl) ?_
      refine lv_iconst (v := 0) hx hb d_M_open_65 (by decide) ?_
      refine r_callv C hD hS (va_runV (As := [.int x1, .int (0 : Int32)]) (rest := []) ⟨hx, hb, hml, hown, hts⟩ (m_M_goOn h) (cwV 2 hts (g_V kw_620 kw_622 kp_24 kw_7 kw_623) rfl rfl rfl (by decide +kernel) ⟨Nat.le_of_ble_eq_true rfl, Nat.le_of_ble_eq_true rfl⟩) (r_preV (o := 0) C hP hD hS (by decide) rfl rfl) rfl rfl hl.1 rfl (lv_room (Nat.le_of_ble_eq_true rfl)) d_M_open_66 ⟨Nat.le_of_ble_eq_true rfl, Nat.le_of_ble_eq_true rfl⟩) (fun σ66 H locs h hP hD hS => ?_)
      obtain ⟨v69, e69⟩ : ∃ z : Int32, z = (x1 + 1) := ⟨_, rfl⟩
      have h := h v69 e69
      refine lv_iinc (k := 1) (v := v69) (lv' := [(1, .int v69), (0, .ref (ad 0))]) hx hb d_M_open_69 hl rfl (by rw [e69] <;> rfl) (by decide) rfl (fun ls hl => ?_)
      refine lv_goto hx hb d_M_open_72 rfl ?_
      exact hK45 h (lv_sub hl [1, 0] rfl) hP hD hS
set_option maxHeartbeats 4000000 in
set_option maxRecDepth 100000 in
theorem b_M_open_20 {p : Program} {l : Launch} {e : Env} {s : State} {m : MethodId} {args : Array Value} {below : List Frame} {meth : Method} {c : Code} {D : va_G} {cI cL cZ cS : ClassId} {ad : Nat → Nat} {wr : va_W} {A : Nat → Prop} {Q : Int32 → Mem → Prop} {t0 : Int32} {σ : Mem} {H : Heap} {locs : List Loc} {ls : Array Slot} (C : wC TB "PreferenceCountModel" c_M_open 2 (some .int) D cls (tyl cI cL cZ cS) A p s m args meth c) (h : wp_M_open_20 Q t0 σ) (hl : lv_has ls 2 [(0, .ref (ad 0))]) (hP : va_P D cls (wW 12 (fM cI cL cZ ad) ad σ ++ wr) H) (hD : va_D A (wW 12 (fM cI cL cZ ad) ad σ ++ wr)) (hS : va_S A s.heap H locs) : W p l e (headSpec (Cond.code y_M_open c_M_open 2 (some .int) :: TB) rm_M_open).room s m args below meth c H locs 0 0 (MQ below (va_Qi Q (wB D cls (tyl cI cL cZ cS) 12 (fM cI cL cZ ad) ad wr A) A) args s 0 0 A) (F0 m 20 ls [.int t0, .ref (ad 0)]) := by
  have hx := C.1
  have hb := C.2.1
  have hts := C.2.2.2.2.1
  have hown := C.2.2.2.2.2.1
  have hml := C.2.2.2.2.2.2.1
  have h : wp_M_says (fun r20 σ20 => (r20 = 0 → (Q (0 : Int32) σ20)) ∧ (¬ r20 = 0 → (wp_M_beginStage (fun σ29 => ∀ σ40 : Mem, σ40 = mL σ29 0 14 (Int32.toInt64 ((σ29.1 0 2) + (1 : Int32))) → (∃ k45 : Nat, wp_M_open_45 Q k45 (0 : Int32) σ40)) σ20))) t0 σ := h
  refine r_calli C hD hS (va_runV (As := [.int t0]) (rest := []) ⟨hx, hb, hml, hown, hts⟩ (m_M_says h) (cwV 1 hts (g_V kw_579 kw_581 kp_19 kw_7 kw_582) rfl rfl rfl (by decide +kernel) ⟨Nat.le_of_ble_eq_true rfl, Nat.le_of_ble_eq_true rfl⟩) (r_preV (o := 0) C hP hD hS (by decide) rfl rfl) rfl rfl hl.1 rfl (lv_room (Nat.le_of_ble_eq_true rfl)) d_M_open_20 ⟨Nat.le_of_ble_eq_true rfl, Nat.le_of_ble_eq_true rfl⟩) (fun r20 σ20 H locs h hP hD hS => ?_)
  refine lv_if_ne hx hb d_M_open_23 rfl (fun hc23 => ?_) (fun hc23 => ?_)
  · have h := h.2 hc23
    refine lv_aload_n hx hb d_M_open_28 rfl (lv_at hl 0 rfl) ?_
    refine r_callv C hD hS (va_runV (As := []) (rest := []) ⟨hx, hb, hml, hown, hts⟩ (m_M_beginStage h) (cwV 0 hts (g_V kw_616 kw_618 kp_23 kw_7 kw_619) rfl rfl rfl (by decide +kernel) ⟨Nat.le_of_ble_eq_true rfl, Nat.le_of_ble_eq_true rfl⟩) (r_preV (o := 0) C hP hD hS (by decide) rfl rfl) rfl rfl hl.1 rfl (lv_room (Nat.le_of_ble_eq_true rfl)) d_M_open_29 ⟨Nat.le_of_ble_eq_true rfl, Nat.le_of_ble_eq_true rfl⟩) (fun σ29 H locs h hP hD hS => ?_)
    refine lv_aload_n hx hb d_M_open_32 rfl (lv_at hl 0 rfl) ?_
    refine lv_aload_n hx hb d_M_open_33 rfl (lv_at hl 0 rfl) ?_
    refine r_get C ku_M hP (by decide) rfl rfl 2 (by decide) kw_511 rfl d_M_open_34 ?_
    refine lv_iconst (v := 1) hx hb d_M_open_37 (by decide) ?_
    refine lv_iadd hx hb d_M_open_38 ?_
    refine lv_i2l hx hb d_M_open_39 rfl ?_
    refine r_putL C ku_M ft_M fo_M fn_M hP hD hS (by decide) rfl rfl 14 (by decide) kw_523 rfl (by decide +kernel) (Nat.le_of_ble_eq_true rfl) d_M_open_40 rfl (fun σ40 e40 H locs hP hD hS => ?_)
    have h := h σ40 e40
    refine lv_iconst (v := 0) hx hb d_M_open_43 (by decide) ?_
    refine lv_istore_n (lv' := [(1, .int (0 : Int32)), (0, .ref (ad 0))]) hx hb d_M_open_44 rfl hl (by decide) rfl (fun ls hl => ?_)
    obtain ⟨n, h⟩ := h
    exact b_M_open_45 C n h (lv_sub hl [1, 0] rfl) hP hD hS
  · have h := h.1 hc23
    refine lv_iconst (v := 0) hx hb d_M_open_26 (by decide) ?_
    exact r_iret C hP hD hS d_M_open_27 h
set_option maxHeartbeats 4000000 in
set_option maxRecDepth 100000 in
theorem b_M_open_15 {p : Program} {l : Launch} {e : Env} {s : State} {m : MethodId} {args : Array Value} {below : List Frame} {meth : Method} {c : Code} {D : va_G} {cI cL cZ cS : ClassId} {ad : Nat → Nat} {wr : va_W} {A : Nat → Prop} {Q : Int32 → Mem → Prop} {σ : Mem} {H : Heap} {locs : List Loc} {ls : Array Slot} (C : wC TB "PreferenceCountModel" c_M_open 2 (some .int) D cls (tyl cI cL cZ cS) A p s m args meth c) (h : wp_M_open_15 Q σ) (hl : lv_has ls 2 [(0, .ref (ad 0))]) (hP : va_P D cls (wW 12 (fM cI cL cZ ad) ad σ ++ wr) H) (hD : va_D A (wW 12 (fM cI cL cZ ad) ad σ ++ wr)) (hS : va_S A s.heap H locs) : W p l e (headSpec (Cond.code y_M_open c_M_open 2 (some .int) :: TB) rm_M_open).room s m args below meth c H locs 0 0 (MQ below (va_Qi Q (wB D cls (tyl cI cL cZ cS) 12 (fM cI cL cZ ad) ad wr A) A) args s 0 0 A) (F0 m 15 ls [.ref (ad 0)]) := by
  have hx := C.1
  have hb := C.2.1
  have hts := C.2.2.2.2.1
  have hown := C.2.2.2.2.2.1
  have hml := C.2.2.2.2.2.2.1
  have h : wp_M_open_20 Q (1 : Int32) σ := h
  refine lv_iconst (v := 1) hx hb d_M_open_15 (by decide) ?_
  refine lv_goto hx hb d_M_open_16 rfl ?_
  exact b_M_open_20 C h (lv_sub hl [0] rfl) hP hD hS
set_option maxHeartbeats 4000000 in
set_option maxRecDepth 100000 in
theorem m_M_open {l : Launch} {D : va_G} {cI cL cZ cS : ClassId} {ad : Nat → Nat} {wr : va_W} {sz : Nat} {Q : Int32 → Mem → Prop} {σ : Mem} (h : wp_M_open Q σ) : Met l y_M_open (Cond.code y_M_open c_M_open 2 (some .int) :: TB) rm_M_open (wPc D cls (tyl cI cL cZ cS) 12 (fM cI cL cZ ad) ad wr sz σ [.ref (ad 0)]) (va_Qi Q (wB D cls (tyl cI cL cZ cS) 12 (fM cI cL cZ ad) ad wr (wA 12 (fM cI cL cZ ad) ad wr sz σ)) (wA 12 (fM cI cL cZ ad) ad wr sz σ)) 0 0 (wA 12 (fM cI cL cZ ad) ad wr sz σ) := by
  refine Met.ofW (cc := c_M_open) (maxL := 2) (ret := (some .int)) (by decide) rfl ?_
  intro p e s m args below meth c s₁ B hml hv
  obtain ⟨rfl, hsz, hP, hK, hD0, hN⟩ := hv
  subst hsz
  have hD : va_D (wA 12 (fM cI cL cZ ad) ad wr s.heap.size σ) (wW 12 (fM cI cL cZ ad) ad σ ++ wr) := hD0.self (sz := s.heap.size)
  have hA : ∀ q : Nat, s.heap.size ≤ q → (wA 12 (fM cI cL cZ ad) ad wr s.heap.size σ) q := fun q h => Or.inr h
  have hN : NX (wA 12 (fM cI cL cZ ad) ad wr s.heap.size σ) s s.heap := hN
  generalize (wA 12 (fM cI cL cZ ad) ad wr s.heap.size σ) = A at hD hA hN ⊢
  have C : wC TB "PreferenceCountModel" c_M_open 2 (some .int) D cls (tyl cI cL cZ cS) A p s m ([.ref (ad 0)].toArray) meth c := ⟨B.exec, B.bytes, B.returns, B.notSynchronized, fun w hw => atoms_spec (ws := Cond.code y_M_open c_M_open 2 (some .int) :: TB) B.pre w (List.mem_cons_of_mem _ hw), findClass_of_methodNamed B.named, hml, hK, hN, hA⟩
  have hx := C.1
  have hb := C.2.1
  have hts := C.2.2.2.2.1
  have hown := C.2.2.2.2.2.1
  have hS : va_S A s.heap s.heap [] := va_S.rf
  have hl := lv_entry ([.ref (ad 0)]) (n := 2) (Nat.le_of_ble_eq_true rfl)
  rw [lg_entry_eq]
  generalize (lg_sl ([.ref (ad 0)]) ++ List.replicate (2 - (lg_sl ([.ref (ad 0)])).length) Slot.unset).toArray = ls at hl ⊢
  have hl : lv_has ls 2 [(0, .ref (ad 0))] := hl
  have h : (0 ≤ (σ.1 0 15) → (wp_M_open_15 Q σ)) ∧ (¬ 0 ≤ (σ.1 0 15) → (((σ.1 0 7) = 0 → (wp_M_open_15 Q σ)) ∧ (¬ (σ.1 0 7) = 0 → (wp_M_open_20 Q (0 : Int32) σ)))) := h
  refine lv_aload_n hx hb d_M_open_0 rfl (lv_at hl 0 rfl) ?_
  refine lv_aload_n hx hb d_M_open_1 rfl (lv_at hl 0 rfl) ?_
  refine r_get C ku_M hP (by decide) rfl rfl 15 (by decide) kw_524 rfl d_M_open_2 ?_
  refine lv_if_ge hx hb d_M_open_5 rfl (fun hc5 => ?_) (fun hc5 => ?_)
  · have h := h.1 hc5
    exact b_M_open_15 C h (lv_sub hl [0] rfl) hP hD hS
  · have h := h.2 hc5
    refine lv_aload_n hx hb d_M_open_8 rfl (lv_at hl 0 rfl) ?_
    refine r_get C ku_M hP (by decide) rfl rfl 7 (by decide) kw_516 rfl d_M_open_9 ?_
    refine lv_if_ne hx hb d_M_open_12 rfl (fun hc12 => ?_) (fun hc12 => ?_)
    · have h := h.2 hc12
      refine lv_iconst (v := 0) hx hb d_M_open_19 (by decide) ?_
      exact b_M_open_20 C h (lv_sub hl [0] rfl) hP hD hS
    · have h := h.1 hc12
      exact b_M_open_15 C h (lv_sub hl [0] rfl) hP hD hS
def rm_M_pass : Room := { frames := 1, cells := 0, slots := 0, locals := 29 }
set_option maxHeartbeats 4000000 in
set_option maxRecDepth 100000 in
theorem b_M_pass_73 {p : Program} {l : Launch} {e : Env} {s : State} {m : MethodId} {args : Array Value} {below : List Frame} {meth : Method} {c : Code} {D : va_G} {cI cL cZ cS : ClassId} {ad : Nat → Nat} {wr : va_W} {A : Nat → Prop} {Q : Mem → Prop} {K35 : Int32 → Int64 → Int64 → Int64 → Int32 → Mem → Prop} {x1 : Int32} {y4 : Int64} {y6 : Int64} {y8 : Int64} {x10 : Int32} {u0 : Int64} {u1 : Int64} {t2 : Int32} {σ : Mem} {H : Heap} {locs : List Loc} {ls : Array Slot} (C : wC TB "PreferenceCountModel" c_M_pass 11 none D cls (tyl cI cL cZ cS) A p s m args meth c) (hK35 : ∀ {σ : Mem} {H : Heap} {locs : List Loc} {ls : Array Slot} {x1 : Int32} {y4 : Int64} {y6 : Int64} {y8 : Int64} {x10 : Int32}, K35 x1 y4 y6 y8 x10 σ → lv_has ls 11 [(0, .ref (ad 0)), (1, .int x1), (4, .long y4), (6, .long y6), (8, .long y8), (10, .int x10)] → va_P D cls (wW 12 (fM cI cL cZ ad) ad σ ++ wr) H → va_D A (wW 12 (fM cI cL cZ ad) ad σ ++ wr) → va_S A s.heap H locs → W p l e (headSpec (Cond.code y_M_pass c_M_pass 11 none :: TB) rm_M_pass).room s m args below meth c H locs 0 0 (MQ below (va_Qv Q (wB D cls (tyl cI cL cZ cS) 12 (fM cI cL cZ ad) ad wr A) A) args s 0 0 A) (F0 m 35 ls [])) (h : wp_M_pass_73 Q K35 x1 y4 y6 y8 x10 u0 u1 t2 σ) (hl : lv_has ls 11 [(0, .ref (ad 0)), (1, .int x1), (4, .long y4), (6, .long y6), (8, .long y8), (10, .int x10)]) (hP : va_P D cls (wW 12 (fM cI cL cZ ad) ad σ ++ wr) H) (hD : va_D A (wW 12 (fM cI cL cZ ad) ad σ ++ wr)) (hS : va_S A s.heap H locs) : W p l e (headSpec (Cond.code y_M_pass c_M_pass 11 none :: TB) rm_M_pass).room s m args below meth c H locs 0 0 (MQ below (va_Qv Q (wB D cls (tyl cI cL cZ cS) 12 (fM cI cL cZ ad) ad wr A) A) args s 0 0 A) (F0 m 73 ls [.long u0, .long u1, .int t2, .ref (ad 7)]) := by
  have hx := C.1
  have hb := C.2.1
  have hts := C.2.2.2.2.1
  have hown := C.2.2.2.2.2.1
  have hml := C.2.2.2.2.2.2.1
  have h : vp_in t2 50 ∧ (∀ σ74 : Mem, σ74 = mL σ 7 (Int32.toNatClampNeg t2) (u1 * u0) → (∀ v75 : Int32, v75 = (x10 + 1) → (K35 x1 y4 y6 y8 v75 σ74))) := h
  refine lv_lmul hx hb d_M_pass_73 ?_
  obtain ⟨hi74, h⟩ := h
  refine r_last C hP hD hS (by decide) (fun _ _ => rfl) rfl hi74 d_M_pass_74 (fun σ74 e74 H locs hP hD hS => ?_)
  have h := h σ74 e74
  obtain ⟨v75, e75⟩ : ∃ z : Int32, z = (x10 + 1) := ⟨_, rfl⟩
  have h := h v75 e75
  refine lv_iinc (k := 5) (v := v75) (lv' := [(10, .int v75), (0, .ref (ad 0)), (1, .int x1), (4, .long y4), (6, .long y6), (8, .long y8)]) hx hb d_M_pass_75 hl rfl (by rw [e75] <;> rfl) (by decide) rfl (fun ls hl => ?_)
  refine lv_goto hx hb d_M_pass_78 rfl ?_
  exact hK35 h (lv_sub hl [1, 2, 3, 4, 5, 0] rfl) hP hD hS
set_option maxHeartbeats 4000000 in
set_option maxRecDepth 100000 in
theorem b_M_pass_35 {p : Program} {l : Launch} {e : Env} {s : State} {m : MethodId} {args : Array Value} {below : List Frame} {meth : Method} {c : Code} {D : va_G} {cI cL cZ cS : ClassId} {ad : Nat → Nat} {wr : va_W} {A : Nat → Prop} {Q : Mem → Prop} (C : wC TB "PreferenceCountModel" c_M_pass 11 none D cls (tyl cI cL cZ cS) A p s m args meth c) : ∀ (n : Nat) {σ : Mem} {H : Heap} {locs : List Loc} {ls : Array Slot} {x1 : Int32} {y4 : Int64} {y6 : Int64} {y8 : Int64} {x10 : Int32}, wp_M_pass_35 Q n x1 y4 y6 y8 x10 σ → lv_has ls 11 [(0, .ref (ad 0)), (1, .int x1), (4, .long y4), (6, .long y6), (8, .long y8), (10, .int x10)] → va_P D cls (wW 12 (fM cI cL cZ ad) ad σ ++ wr) H → va_D A (wW 12 (fM cI cL cZ ad) ad σ ++ wr) → va_S A s.heap H locs → W p l e (headSpec (Cond.code y_M_pass c_M_pass 11 none :: TB) rm_M_pass).room s m args below meth c H locs 0 0 (MQ below (va_Qv Q (wB D cls (tyl cI cL cZ cS) 12 (fM cI cL cZ ad) ad wr A) A) args s 0 0 A) (F0 m 35 ls []) := by
  have hx := C.1
  have hb := C.2.1
  have hts := C.2.2.2.2.1
  have hown := C.2.2.2.2.2.1
  have hml := C.2.2.2.2.2.2.1
  intro n
  induction n with
  | zero => intro σ H locs ls x1 y4 y6 y8 x10 h; exact h.elim
  | succ j35 ih =>
    intro σ H locs ls x1 y4 y6 y8 x10 h hl hP hD hS
    have hK35 := @ih
    have h : ((σ.1 0 7) ≤ x10 → (∀ σ89 : Mem, σ89 = mL σ 0 14 ((σ.2 0 14) * y8) → (vp_in x1 12 ∧ (∀ σ98 : Mem, σ98 = mI σ89 8 (Int32.toNatClampNeg x1) (vp_nar .boolean (1 : Int32)) → (Q σ98))))) ∧ (¬ (σ.1 0 7) ≤ x10 → (vp_in x10 50 ∧ (vp_in x10 50 ∧ (((σ.1 6 (Int32.toNatClampNeg x10)) = x1 → ((¬ y6 = 0) ∧ (wp_M_pass_73 Q (wp_M_pass_35 Q j35) x1 y4 y6 y8 x10 (y4 / y6) (σ.2 7 (Int32.toNatClampNeg x10)) x10 σ))) ∧ (¬ (σ.1 6 (Int32.toNatClampNeg x10)) = x1 → (wp_M_pass_73 Q (wp_M_pass_35 Q j35) x1 y4 y6 y8 x10 y8 (σ.2 7 (Int32.toNatClampNeg x10)) x10 σ)))))) := h
    refine lv_iload hx hb d_M_pass_35 (lv_at hl 5 rfl) ?_
    refine lv_aload_n hx hb d_M_pass_37 rfl (lv_at hl 0 rfl) ?_
    refine r_get C ku_M hP (by decide) rfl rfl 7 (by decide) kw_516 rfl d_M_pass_38 ?_
    refine lv_icmp_ge hx hb d_M_pass_41 rfl (fun hc41 => ?_) (fun hc41 => ?_)
    · have h := h.1 hc41
      refine lv_aload_n hx hb d_M_pass_81 rfl (lv_at hl 0 rfl) ?_
      refine lv_dup hx hb d_M_pass_82 rfl ?_
      refine r_get C ku_M hP (by decide) rfl rfl 14 (by decide) kw_523 rfl d_M_pass_83 ?_
      refine lv_lload hx hb d_M_pass_86 (lv_at hl 4 rfl) ?_
      refine lv_lmul hx hb d_M_pass_88 ?_
      refine r_putL C ku_M ft_M fo_M fn_M hP hD hS (by decide) rfl rfl 14 (by decide) kw_523 rfl (by decide +kernel) (Nat.le_of_ble_eq_true rfl) d_M_pass_89 rfl (fun σ89 e89 H locs hP hD hS => ?_)
      have h := h σ89 e89
      refine lv_aload_n hx hb d_M_pass_92 rfl (lv_at hl 0 rfl) ?_
      refine r_get C ku_M hP (by decide) rfl rfl 13 (by decide) kw_522 rfl d_M_pass_93 ?_
      refine lv_iload_n hx hb d_M_pass_96 rfl (lv_at hl 1 rfl) ?_
      refine lv_iconst (v := 1) hx hb d_M_pass_97 (by decide) ?_
      obtain ⟨hi98, h⟩ := h
      refine r_zast C hP hD hS (by decide) (fun _ _ => rfl) rfl hi98 d_M_pass_98 (fun σ98 e98 H locs hP hD hS => ?_)
      have h := h σ98 e98
      exact r_vret C hP hD hS d_M_pass_99 h
    · have h := h.2 hc41
      refine lv_aload_n hx hb d_M_pass_44 rfl (lv_at hl 0 rfl) ?_
      refine r_get C ku_M hP (by decide) rfl rfl 12 (by decide) kw_521 rfl d_M_pass_45 ?_
      refine lv_iload hx hb d_M_pass_48 (lv_at hl 5 rfl) ?_
      refine lv_dup2_11 hx hb d_M_pass_50 rfl rfl ?_
      obtain ⟨hi51, h⟩ := h
      refine r_lald C hP (by decide) rfl rfl hi51 d_M_pass_51 ?_
      refine lv_aload_n hx hb d_M_pass_52 rfl (lv_at hl 0 rfl) ?_
      refine r_get C ku_M hP (by decide) rfl rfl 11 (by decide) kw_520 rfl d_M_pass_53 ?_
      refine lv_iload hx hb d_M_pass_56 (lv_at hl 5 rfl) ?_
      obtain ⟨hi58, h⟩ := h
      refine r_iald C hP (by decide) rfl rfl hi58 d_M_pass_58 ?_
      refine lv_iload_n hx hb d_M_pass_59 rfl (lv_at hl 1 rfl) ?_
      refine lv_icmp_ne hx hb d_M_pass_60 rfl (fun hc60 => ?_) (fun hc60 => ?_)
      · have h := h.2 hc60
        refine lv_lload hx hb d_M_pass_71 (lv_at hl 4 rfl) ?_
        exact b_M_pass_73 C hK35 h (lv_sub hl [0, 1, 2, 3, 4, 5] rfl) hP hD hS
      · have h := h.1 hc60
        refine lv_lload hx hb d_M_pass_63 (lv_at hl 2 rfl) ?_
        refine lv_lload hx hb d_M_pass_65 (lv_at hl 3 rfl) ?_
        obtain ⟨hz67, h⟩ := h
        refine lv_ldiv hx hb d_M_pass_67 hz67 ?_
        refine lv_goto hx hb d_M_pass_68 rfl ?_
        exact b_M_pass_73 C hK35 h (lv_sub hl [0, 1, 2, 3, 4, 5] rfl) hP hD hS
set_option maxHeartbeats 4000000 in
set_option maxRecDepth 100000 in
theorem m_M_pass {l : Launch} {D : va_G} {cI cL cZ cS : ClassId} {ad : Nat → Nat} {wr : va_W} {sz : Nat} {Q : Mem → Prop} {x1 : Int32} {σ : Mem} (h : wp_M_pass Q x1 σ) : Met l y_M_pass (Cond.code y_M_pass c_M_pass 11 none :: TB) rm_M_pass (wPc D cls (tyl cI cL cZ cS) 12 (fM cI cL cZ ad) ad wr sz σ [.ref (ad 0), .int x1]) (va_Qv Q (wB D cls (tyl cI cL cZ cS) 12 (fM cI cL cZ ad) ad wr (wA 12 (fM cI cL cZ ad) ad wr sz σ)) (wA 12 (fM cI cL cZ ad) ad wr sz σ)) 0 0 (wA 12 (fM cI cL cZ ad) ad wr sz σ) := by
  refine Met.ofW (cc := c_M_pass) (maxL := 11) (ret := none) (by decide) rfl ?_
  intro p e s m args below meth c s₁ B hml hv
  obtain ⟨rfl, hsz, hP, hK, hD0, hN⟩ := hv
  subst hsz
  have hD : va_D (wA 12 (fM cI cL cZ ad) ad wr s.heap.size σ) (wW 12 (fM cI cL cZ ad) ad σ ++ wr) := hD0.self (sz := s.heap.size)
  have hA : ∀ q : Nat, s.heap.size ≤ q → (wA 12 (fM cI cL cZ ad) ad wr s.heap.size σ) q := fun q h => Or.inr h
  have hN : NX (wA 12 (fM cI cL cZ ad) ad wr s.heap.size σ) s s.heap := hN
  generalize (wA 12 (fM cI cL cZ ad) ad wr s.heap.size σ) = A at hD hA hN ⊢
  have C : wC TB "PreferenceCountModel" c_M_pass 11 none D cls (tyl cI cL cZ cS) A p s m ([.ref (ad 0), .int x1].toArray) meth c := ⟨B.exec, B.bytes, B.returns, B.notSynchronized, fun w hw => atoms_spec (ws := Cond.code y_M_pass c_M_pass 11 none :: TB) B.pre w (List.mem_cons_of_mem _ hw), findClass_of_methodNamed B.named, hml, hK, hN, hA⟩
  have hx := C.1
  have hb := C.2.1
  have hts := C.2.2.2.2.1
  have hown := C.2.2.2.2.2.1
  have hS : va_S A s.heap s.heap [] := va_S.rf
  have hl := lv_entry ([.ref (ad 0), .int x1]) (n := 11) (Nat.le_of_ble_eq_true rfl)
  rw [lg_entry_eq]
  generalize (lg_sl ([.ref (ad 0), .int x1]) ++ List.replicate (11 - (lg_sl ([.ref (ad 0), .int x1])).length) Slot.unset).toArray = ls at hl ⊢
  have hl : lv_has ls 11 [(0, .ref (ad 0)), (1, .int x1)] := hl
  have h : wp_M_at (fun r6 σ6 => wp_M_quota (fun r12 σ12 => ∀ v16 : Int64, v16 = (r6 - r12) → (wp_M_common (fun r21 σ21 => (¬ r21 = 0) ∧ (∀ v30 : Int64, v30 = (r6 / r21) → (∃ k35 : Nat, wp_M_pass_35 Q k35 x1 v16 r21 v30 (0 : Int32) σ21))) r6 v16 σ12)) σ6) (σ.1 0 15) x1 σ := h
  refine lv_aload_n hx hb d_M_pass_0 rfl (lv_at hl 0 rfl) ?_
  refine lv_aload_n hx hb d_M_pass_1 rfl (lv_at hl 0 rfl) ?_
  refine r_get C ku_M hP (by decide) rfl rfl 15 (by decide) kw_524 rfl d_M_pass_2 ?_
  refine lv_iload_n hx hb d_M_pass_5 rfl (lv_at hl 1 rfl) ?_
  refine r_calll C hD hS (va_runV (As := [.int (σ.1 0 15), .int x1]) (rest := []) ⟨hx, hb, hml, hown, hts⟩ (m_M_at h) (cwV 2 hts (g_V kw_647 kw_649 kp_30 kw_7 kw_650) rfl rfl rfl (by decide +kernel) ⟨Nat.le_of_ble_eq_true rfl, Nat.le_of_ble_eq_true rfl⟩) (r_preV (o := 0) C hP hD hS (by decide) rfl rfl) rfl rfl hl.1 rfl (lv_room (Nat.le_of_ble_eq_true rfl)) d_M_pass_6 ⟨Nat.le_of_ble_eq_true rfl, Nat.le_of_ble_eq_true rfl⟩) (fun r6 σ6 H locs h hP hD hS => ?_)
  refine lv_lstore_n (lv' := [(2, .long r6), (0, .ref (ad 0)), (1, .int x1)]) hx hb d_M_pass_9 rfl hl (by decide) rfl (fun ls hl => ?_)
  refine lv_lload_n hx hb d_M_pass_10 rfl (lv_at hl 0 rfl) ?_
  refine lv_aload_n hx hb d_M_pass_11 rfl (lv_at hl 1 rfl) ?_
  refine r_calll C hD hS (va_runV (As := []) (rest := [.long r6]) ⟨hx, hb, hml, hown, hts⟩ (m_M_quota h) (cwV 0 hts (g_V kw_639 kw_641 kp_28 kw_7 kw_642) rfl rfl rfl (by decide +kernel) ⟨Nat.le_of_ble_eq_true rfl, Nat.le_of_ble_eq_true rfl⟩) (r_preV (o := 0) C hP hD hS (by decide) rfl rfl) rfl rfl hl.1 rfl (lv_room (Nat.le_of_ble_eq_true rfl)) d_M_pass_12 ⟨Nat.le_of_ble_eq_true rfl, Nat.le_of_ble_eq_true rfl⟩) (fun r12 σ12 H locs h hP hD hS => ?_)
  refine lv_lsub hx hb d_M_pass_15 ?_
  refine lv_topl (fun v16 e16 => ?_)
  have h := h v16 e16
  refine lv_lstore (lv' := [(4, .long v16), (2, .long r6), (0, .ref (ad 0)), (1, .int x1)]) hx hb d_M_pass_16 hl (by decide) rfl (fun ls hl => ?_)
  refine lv_lload_n hx hb d_M_pass_18 rfl (lv_at hl 1 rfl) ?_
  refine lv_lload hx hb d_M_pass_19 (lv_at hl 0 rfl) ?_
  refine r_calll C hD hS (va_runS (As := [.long r6, .long v16]) (rest := []) ⟨hx, hb, hml, hown, hts⟩ (m_M_common h) (va_cwS 2 hts (g_S kw_632 kw_633 kw_7 kw_634) rfl rfl rfl (by decide +kernel) ⟨Nat.le_of_ble_eq_true rfl, Nat.le_of_ble_eq_true rfl⟩) (r_preS C hP hD hS) rfl rfl hl.1 rfl (lv_room (Nat.le_of_ble_eq_true rfl)) d_M_pass_21 ⟨Nat.le_of_ble_eq_true rfl, Nat.le_of_ble_eq_true rfl⟩) (fun r21 σ21 H locs h hP hD hS => ?_)
  refine lv_lstore (lv' := [(6, .long r21), (4, .long v16), (2, .long r6), (0, .ref (ad 0)), (1, .int x1)]) hx hb d_M_pass_24 hl (by decide) rfl (fun ls hl => ?_)
  refine lv_lload_n hx hb d_M_pass_26 rfl (lv_at hl 2 rfl) ?_
  refine lv_lload hx hb d_M_pass_27 (lv_at hl 0 rfl) ?_
  obtain ⟨hz29, h⟩ := h
  refine lv_ldiv hx hb d_M_pass_29 hz29 ?_
  refine lv_topl (fun v30 e30 => ?_)
  have h := h v30 e30
  refine lv_lstore (lv' := [(8, .long v30), (6, .long r21), (4, .long v16), (2, .long r6), (0, .ref (ad 0)), (1, .int x1)]) hx hb d_M_pass_30 hl (by decide) rfl (fun ls hl => ?_)
  refine lv_iconst (v := 0) hx hb d_M_pass_32 (by decide) ?_
  refine lv_istore (lv' := [(10, .int (0 : Int32)), (8, .long v30), (6, .long r21), (4, .long v16), (2, .long r6), (0, .ref (ad 0)), (1, .int x1)]) hx hb d_M_pass_33 hl (by decide) rfl (fun ls hl => ?_)
  obtain ⟨n, h⟩ := h
  exact b_M_pass_35 C n h (lv_sub hl [5, 6, 3, 2, 1, 0] rfl) hP hD hS
def rm_M_step : Room := { frames := 4, cells := 0, slots := 0, locals := 91 }
set_option maxHeartbeats 4000000 in
set_option maxRecDepth 100000 in
theorem b_M_step_130 {p : Program} {l : Launch} {e : Env} {s : State} {m : MethodId} {args : Array Value} {below : List Frame} {meth : Method} {c : Code} {D : va_G} {cI cL cZ cS : ClassId} {ad : Nat → Nat} {wr : va_W} {A : Nat → Prop} {Q : Int32 → Mem → Prop} {t0 : Int32} {σ : Mem} {H : Heap} {locs : List Loc} {ls : Array Slot} (C : wC TB "PreferenceCountModel" c_M_step 4 (some .int) D cls (tyl cI cL cZ cS) A p s m args meth c) (h : wp_M_step_130 Q t0 σ) (hl : lv_has ls 4 []) (hP : va_P D cls (wW 12 (fM cI cL cZ ad) ad σ ++ wr) H) (hD : va_D A (wW 12 (fM cI cL cZ ad) ad σ ++ wr)) (hS : va_S A s.heap H locs) : W p l e (headSpec (Cond.code y_M_step c_M_step 4 (some .int) :: TB) rm_M_step).room s m args below meth c H locs 0 0 (MQ below (va_Qi Q (wB D cls (tyl cI cL cZ cS) 12 (fM cI cL cZ ad) ad wr A) A) args s 0 0 A) (F0 m 130 ls [.int t0]) := by
  have hx := C.1
  have hb := C.2.1
  have hts := C.2.2.2.2.1
  have hown := C.2.2.2.2.2.1
  have hml := C.2.2.2.2.2.2.1
  have h : Q t0 σ := h
  exact r_iret C hP hD hS d_M_step_130 h
set_option maxHeartbeats 4000000 in
set_option maxRecDepth 100000 in
theorem b_M_step_108 {p : Program} {l : Launch} {e : Env} {s : State} {m : MethodId} {args : Array Value} {below : List Frame} {meth : Method} {c : Code} {D : va_G} {cI cL cZ cS : ClassId} {ad : Nat → Nat} {wr : va_W} {A : Nat → Prop} {Q : Int32 → Mem → Prop} {K77 : Int32 → Int32 → Int32 → Mem → Prop} {x1 : Int32} {x2 : Int32} {x3 : Int32} {σ : Mem} {H : Heap} {locs : List Loc} {ls : Array Slot} (C : wC TB "PreferenceCountModel" c_M_step 4 (some .int) D cls (tyl cI cL cZ cS) A p s m args meth c) (hK77 : ∀ {σ : Mem} {H : Heap} {locs : List Loc} {ls : Array Slot} {x1 : Int32} {x2 : Int32} {x3 : Int32}, K77 x1 x2 x3 σ → lv_has ls 4 [(0, .ref (ad 0)), (1, .int x1), (2, .int x2), (3, .int x3)] → va_P D cls (wW 12 (fM cI cL cZ ad) ad σ ++ wr) H → va_D A (wW 12 (fM cI cL cZ ad) ad σ ++ wr) → va_S A s.heap H locs → W p l e (headSpec (Cond.code y_M_step c_M_step 4 (some .int) :: TB) rm_M_step).room s m args below meth c H locs 0 0 (MQ below (va_Qi Q (wB D cls (tyl cI cL cZ cS) 12 (fM cI cL cZ ad) ad wr A) A) args s 0 0 A) (F0 m 77 ls [])) (h : wp_M_step_108 Q K77 x1 x2 x3 σ) (hl : lv_has ls 4 [(0, .ref (ad 0)), (1, .int x1), (2, .int x2), (3, .int x3)]) (hP : va_P D cls (wW 12 (fM cI cL cZ ad) ad σ ++ wr) H) (hD : va_D A (wW 12 (fM cI cL cZ ad) ad σ ++ wr)) (hS : va_S A s.heap H locs) : W p l e (headSpec (Cond.code y_M_step c_M_step 4 (some .int) :: TB) rm_M_step).room s m args below meth c H locs 0 0 (MQ below (va_Qi Q (wB D cls (tyl cI cL cZ cS) 12 (fM cI cL cZ ad) ad wr A) A) args s 0 0 A) (F0 m 108 ls []) := by
  have hx := C.1
  have hb := C.2.1
  have hts := C.2.2.2.2.1
  have hown := C.2.2.2.2.2.1
  have hml := C.2.2.2.2.2.2.1
  have h : ∀ v108 : Int32, v108 = (x3 + 1) → (K77 x1 x2 v108 σ) := h
  obtain ⟨v108, e108⟩ : ∃ z : Int32, z = (x3 + 1) := ⟨_, rfl⟩
  have h := h v108 e108
  refine lv_iinc (k := 3) (v := v108) (lv' := [(3, .int v108), (0, .ref (ad 0)), (1, .int x1), (2, .int x2)]) hx hb d_M_step_108 hl rfl (by rw [e108] <;> rfl) (by decide) rfl (fun ls hl => ?_)
  refine lv_goto hx hb d_M_step_111 rfl ?_
  exact hK77 h (lv_sub hl [1, 2, 3, 0] rfl) hP hD hS
set_option maxHeartbeats 4000000 in
set_option maxRecDepth 100000 in
theorem b_M_step_77 {p : Program} {l : Launch} {e : Env} {s : State} {m : MethodId} {args : Array Value} {below : List Frame} {meth : Method} {c : Code} {D : va_G} {cI cL cZ cS : ClassId} {ad : Nat → Nat} {wr : va_W} {A : Nat → Prop} {Q : Int32 → Mem → Prop} (C : wC TB "PreferenceCountModel" c_M_step 4 (some .int) D cls (tyl cI cL cZ cS) A p s m args meth c) : ∀ (n : Nat) {σ : Mem} {H : Heap} {locs : List Loc} {ls : Array Slot} {x1 : Int32} {x2 : Int32} {x3 : Int32}, wp_M_step_77 Q n x1 x2 x3 σ → lv_has ls 4 [(0, .ref (ad 0)), (1, .int x1), (2, .int x2), (3, .int x3)] → va_P D cls (wW 12 (fM cI cL cZ ad) ad σ ++ wr) H → va_D A (wW 12 (fM cI cL cZ ad) ad σ ++ wr) → va_S A s.heap H locs → W p l e (headSpec (Cond.code y_M_step c_M_step 4 (some .int) :: TB) rm_M_step).room s m args below meth c H locs 0 0 (MQ below (va_Qi Q (wB D cls (tyl cI cL cZ cS) 12 (fM cI cL cZ ad) ad wr A) A) args s 0 0 A) (F0 m 77 ls []) := by
  have hx := C.1
  have hb := C.2.1
  have hts := C.2.2.2.2.1
  have hown := C.2.2.2.2.2.1
  have hml := C.2.2.2.2.2.2.1
  intro n
  induction n with
  | zero => intro σ H locs ls x1 x2 x3 h; exact h.elim
  | succ j77 ih =>
    intro σ H locs ls x1 x2 x3 h hl hP hD hS
    have hK77 := @ih
    have h : ((σ.1 0 7) ≤ x3 → (wp_M_endStage (fun σ115 => (x2 = 0 → (wp_M_step_130 Q (x1 + (16 : Int32)) σ115)) ∧ (¬ x2 = 0 → (wp_M_step_130 Q x1 σ115))) σ)) ∧ (¬ (σ.1 0 7) ≤ x3 → (vp_in x3 50 ∧ (((σ.1 6 (Int32.toNatClampNeg x3)) = x1 → (vp_in x3 50 ∧ (wp_M_goOn (fun σ105 => wp_M_step_108 Q (wp_M_step_77 Q j77) x1 x2 x3 σ105) x3 ((σ.1 5 (Int32.toNatClampNeg x3)) + (1 : Int32)) σ))) ∧ (¬ (σ.1 6 (Int32.toNatClampNeg x3)) = x1 → (wp_M_step_108 Q (wp_M_step_77 Q j77) x1 x2 x3 σ))))) := h
    refine lv_iload_n hx hb d_M_step_77 rfl (lv_at hl 3 rfl) ?_
    refine lv_aload_n hx hb d_M_step_78 rfl (lv_at hl 0 rfl) ?_
    refine r_get C ku_M hP (by decide) rfl rfl 7 (by decide) kw_516 rfl d_M_step_79 ?_
    refine lv_icmp_ge hx hb d_M_step_82 rfl (fun hc82 => ?_) (fun hc82 => ?_)
    · have h := h.1 hc82
      refine lv_aload_n hx hb d_M_step_114 rfl (lv_at hl 0 rfl) ?_
      refine r_callv C hD hS (va_runV (As := []) (rest := []) ⟨hx, hb, hml, hown, hts⟩ (m_M_endStage h) (cwV 0 hts (g_V kw_624 kw_626 kp_25 kw_7 kw_627) rfl rfl rfl (by decide +kernel) ⟨Nat.le_of_ble_eq_true rfl, Nat.le_of_ble_eq_true rfl⟩) (r_preV (o := 0) C hP hD hS (by decide) rfl rfl) rfl rfl hl.1 rfl (lv_room (Nat.le_of_ble_eq_true rfl)) d_M_step_115 ⟨Nat.le_of_ble_eq_true rfl, Nat.le_of_ble_eq_true rfl⟩) (fun σ115 H locs h hP hD hS => ?_)
      refine lv_iload_n hx hb d_M_step_118 rfl (lv_at hl 2 rfl) ?_
      refine lv_if_eq hx hb d_M_step_119 rfl (fun hc119 => ?_) (fun hc119 => ?_)
      · have h := h.1 hc119
        refine lv_iload_n hx hb d_M_step_126 rfl (lv_at hl 1 rfl) ?_
        refine lv_bipush (v := 16) hx hb d_M_step_127 (by decide) ?_
        refine lv_iadd hx hb d_M_step_129 ?_
        exact b_M_step_130 C h (lv_sub hl [] rfl) hP hD hS
      · have h := h.2 hc119
        refine lv_iload_n hx hb d_M_step_122 rfl (lv_at hl 1 rfl) ?_
        refine lv_goto hx hb d_M_step_123 rfl ?_
        exact b_M_step_130 C h (lv_sub hl [] rfl) hP hD hS
    · have h := h.2 hc82
      refine lv_aload_n hx hb d_M_step_85 rfl (lv_at hl 0 rfl) ?_
      refine r_get C ku_M hP (by decide) rfl rfl 11 (by decide) kw_520 rfl d_M_step_86 ?_
      refine lv_iload_n hx hb d_M_step_89 rfl (lv_at hl 3 rfl) ?_
      obtain ⟨hi90, h⟩ := h
      refine r_iald C hP (by decide) rfl rfl hi90 d_M_step_90 ?_
      refine lv_iload_n hx hb d_M_step_91 rfl (lv_at hl 1 rfl) ?_
      refine lv_icmp_ne hx hb d_M_step_92 rfl (fun hc92 => ?_) (fun hc92 => ?_)
      · have h := h.2 hc92
        exact b_M_step_108 C hK77 h (lv_sub hl [0, 1, 2, 3] rfl) hP hD hS
      · have h := h.1 hc92
        refine lv_aload_n hx hb d_M_step_95 rfl (lv_at hl 0 rfl) ?_
        refine lv_iload_n hx hb d_M_step_96 rfl (lv_at hl 3 rfl) ?_
        refine lv_aload_n hx hb d_M_step_97 rfl (lv_at hl 0 rfl) ?_
        refine r_get C ku_M hP (by decide) rfl rfl 10 (by decide) kw_519 rfl d_M_step_98 ?_
        refine lv_iload_n hx hb d_M_step_101 rfl (lv_at hl 3 rfl) ?_
        obtain ⟨hi102, h⟩ := h
        refine r_iald C hP (by decide) rfl rfl hi102 d_M_step_102 ?_
        refine lv_iconst (v := 1) hx hb d_M_step_103 (by decide) ?_
        refine lv_iadd hx hb d_M_step_104 ?_
        refine r_callv C hD hS (va_runV (As := [.int x3, .int ((σ.1 5 (Int32.toNatClampNeg x3)) + (1 : Int32))]) (rest := []) ⟨hx, hb, hml, hown, hts⟩ (m_M_goOn h) (cwV 2 hts (g_V kw_620 kw_622 kp_24 kw_7 kw_623) rfl rfl rfl (by decide +kernel) ⟨Nat.le_of_ble_eq_true rfl, Nat.le_of_ble_eq_true rfl⟩) (r_preV (o := 0) C hP hD hS (by decide) rfl rfl) rfl rfl hl.1 rfl (lv_room (Nat.le_of_ble_eq_true rfl)) d_M_step_105 ⟨Nat.le_of_ble_eq_true rfl, Nat.le_of_ble_eq_true rfl⟩) (fun σ105 H locs h hP hD hS => ?_)
        exact b_M_step_108 C hK77 h (lv_sub hl [0, 1, 2, 3] rfl) hP hD hS
set_option maxHeartbeats 4000000 in
set_option maxRecDepth 100000 in
theorem b_M_step_75 {p : Program} {l : Launch} {e : Env} {s : State} {m : MethodId} {args : Array Value} {below : List Frame} {meth : Method} {c : Code} {D : va_G} {cI cL cZ cS : ClassId} {ad : Nat → Nat} {wr : va_W} {A : Nat → Prop} {Q : Int32 → Mem → Prop} {x1 : Int32} {x2 : Int32} {σ : Mem} {H : Heap} {locs : List Loc} {ls : Array Slot} (C : wC TB "PreferenceCountModel" c_M_step 4 (some .int) D cls (tyl cI cL cZ cS) A p s m args meth c) (h : wp_M_step_75 Q x1 x2 σ) (hl : lv_has ls 4 [(0, .ref (ad 0)), (1, .int x1), (2, .int x2)]) (hP : va_P D cls (wW 12 (fM cI cL cZ ad) ad σ ++ wr) H) (hD : va_D A (wW 12 (fM cI cL cZ ad) ad σ ++ wr)) (hS : va_S A s.heap H locs) : W p l e (headSpec (Cond.code y_M_step c_M_step 4 (some .int) :: TB) rm_M_step).room s m args below meth c H locs 0 0 (MQ below (va_Qi Q (wB D cls (tyl cI cL cZ cS) 12 (fM cI cL cZ ad) ad wr A) A) args s 0 0 A) (F0 m 75 ls []) := by
  have hx := C.1
  have hb := C.2.1
  have hts := C.2.2.2.2.1
  have hown := C.2.2.2.2.2.1
  have hml := C.2.2.2.2.2.2.1
  have h : ∃ k77 : Nat, wp_M_step_77 Q k77 x1 x2 (0 : Int32) σ := h
  refine lv_iconst (v := 0) hx hb d_M_step_75 (by decide) ?_
  refine lv_istore_n (lv' := [(3, .int (0 : Int32)), (0, .ref (ad 0)), (1, .int x1), (2, .int x2)]) hx hb d_M_step_76 rfl hl (by decide) rfl (fun ls hl => ?_)
  obtain ⟨n, h⟩ := h
  exact b_M_step_77 C n h (lv_sub hl [1, 2, 3, 0] rfl) hP hD hS
set_option maxHeartbeats 4000000 in
set_option maxRecDepth 100000 in
theorem b_M_step_62 {p : Program} {l : Launch} {e : Env} {s : State} {m : MethodId} {args : Array Value} {below : List Frame} {meth : Method} {c : Code} {D : va_G} {cI cL cZ cS : ClassId} {ad : Nat → Nat} {wr : va_W} {A : Nat → Prop} {Q : Int32 → Mem → Prop} {x1 : Int32} {x2 : Int32} {σ : Mem} {H : Heap} {locs : List Loc} {ls : Array Slot} (C : wC TB "PreferenceCountModel" c_M_step 4 (some .int) D cls (tyl cI cL cZ cS) A p s m args meth c) (h : wp_M_step_62 Q x1 x2 σ) (hl : lv_has ls 4 [(0, .ref (ad 0)), (1, .int x1), (2, .int x2)]) (hP : va_P D cls (wW 12 (fM cI cL cZ ad) ad σ ++ wr) H) (hD : va_D A (wW 12 (fM cI cL cZ ad) ad σ ++ wr)) (hS : va_S A s.heap H locs) : W p l e (headSpec (Cond.code y_M_step c_M_step 4 (some .int) :: TB) rm_M_step).room s m args below meth c H locs 0 0 (MQ below (va_Qi Q (wB D cls (tyl cI cL cZ cS) 12 (fM cI cL cZ ad) ad wr A) A) args s 0 0 A) (F0 m 62 ls []) := by
  have hx := C.1
  have hb := C.2.1
  have hts := C.2.2.2.2.1
  have hown := C.2.2.2.2.2.1
  have hml := C.2.2.2.2.2.2.1
  have h : wp_M_beginStage (fun σ63 => (x2 = 0 → (wp_M_exclude (fun σ72 => wp_M_step_75 Q x1 x2 σ72) x1 σ63)) ∧ (¬ x2 = 0 → (wp_M_step_75 Q x1 x2 σ63))) σ := h
  refine lv_aload_n hx hb d_M_step_62 rfl (lv_at hl 0 rfl) ?_
  refine r_callv C hD hS (va_runV (As := []) (rest := []) ⟨hx, hb, hml, hown, hts⟩ (m_M_beginStage h) (cwV 0 hts (g_V kw_616 kw_618 kp_23 kw_7 kw_619) rfl rfl rfl (by decide +kernel) ⟨Nat.le_of_ble_eq_true rfl, Nat.le_of_ble_eq_true rfl⟩) (r_preV (o := 0) C hP hD hS (by decide) rfl rfl) rfl rfl hl.1 rfl (lv_room (Nat.le_of_ble_eq_true rfl)) d_M_step_63 ⟨Nat.le_of_ble_eq_true rfl, Nat.le_of_ble_eq_true rfl⟩) (fun σ63 H locs h hP hD hS => ?_)
  refine lv_iload_n hx hb d_M_step_66 rfl (lv_at hl 2 rfl) ?_
  refine lv_if_ne hx hb d_M_step_67 rfl (fun hc67 => ?_) (fun hc67 => ?_)
  · have h := h.2 hc67
    exact b_M_step_75 C h (lv_sub hl [0, 1, 2] rfl) hP hD hS
  · have h := h.1 hc67
    refine lv_aload_n hx hb d_M_step_70 rfl (lv_at hl 0 rfl) ?_
    refine lv_iload_n hx hb d_M_step_71 rfl (lv_at hl 1 rfl) ?_
    refine r_callv C hD hS (va_runV (As := [.int x1]) (rest := []) ⟨hx, hb, hml, hown, hts⟩ (m_M_exclude h) (cwV 1 hts (g_V kw_599 kw_601 kp_22 kw_7 kw_602) rfl rfl rfl (by decide +kernel) ⟨Nat.le_of_ble_eq_true rfl, Nat.le_of_ble_eq_true rfl⟩) (r_preV (o := 0) C hP hD hS (by decide) rfl rfl) rfl rfl hl.1 rfl (lv_room (Nat.le_of_ble_eq_true rfl)) d_M_step_72 ⟨Nat.le_of_ble_eq_true rfl, Nat.le_of_ble_eq_true rfl⟩) (fun σ72 H locs h hP hD hS => ?_)
    exact b_M_step_75 C h (lv_sub hl [0, 1, 2] rfl) hP hD hS
set_option maxHeartbeats 4000000 in
set_option maxRecDepth 100000 in
theorem b_M_step_44 {p : Program} {l : Launch} {e : Env} {s : State} {m : MethodId} {args : Array Value} {below : List Frame} {meth : Method} {c : Code} {D : va_G} {cI cL cZ cS : ClassId} {ad : Nat → Nat} {wr : va_W} {A : Nat → Prop} {Q : Int32 → Mem → Prop} {x1 : Int32} {t0 : Int32} {σ : Mem} {H : Heap} {locs : List Loc} {ls : Array Slot} (C : wC TB "PreferenceCountModel" c_M_step 4 (some .int) D cls (tyl cI cL cZ cS) A p s m args meth c) (h : wp_M_step_44 Q x1 t0 σ) (hl : lv_has ls 4 [(0, .ref (ad 0)), (1, .int x1)]) (hP : va_P D cls (wW 12 (fM cI cL cZ ad) ad σ ++ wr) H) (hD : va_D A (wW 12 (fM cI cL cZ ad) ad σ ++ wr)) (hS : va_S A s.heap H locs) : W p l e (headSpec (Cond.code y_M_step c_M_step 4 (some .int) :: TB) rm_M_step).room s m args below meth c H locs 0 0 (MQ below (va_Qi Q (wB D cls (tyl cI cL cZ cS) 12 (fM cI cL cZ ad) ad wr A) A) args s 0 0 A) (F0 m 44 ls [.int t0]) := by
  have hx := C.1
  have hb := C.2.1
  have hts := C.2.2.2.2.1
  have hown := C.2.2.2.2.2.1
  have hml := C.2.2.2.2.2.2.1
  have h : (t0 = 0 → (wp_M_last (fun r58 σ58 => wp_M_step_62 Q r58 t0 σ58) σ)) ∧ (¬ t0 = 0 → (wp_M_pass (fun σ51 => wp_M_step_62 Q x1 t0 σ51) x1 σ)) := h
  refine lv_istore_n (lv' := [(2, .int t0), (0, .ref (ad 0)), (1, .int x1)]) hx hb d_M_step_44 rfl hl (by decide) rfl (fun ls hl => ?_)
  refine lv_iload_n hx hb d_M_step_45 rfl (lv_at hl 0 rfl) ?_
  refine lv_if_eq hx hb d_M_step_46 rfl (fun hc46 => ?_) (fun hc46 => ?_)
  · have h := h.1 hc46
    refine lv_aload_n hx hb d_M_step_57 rfl (lv_at hl 1 rfl) ?_
    refine r_calli C hD hS (va_runV (As := []) (rest := []) ⟨hx, hb, hml, hown, hts⟩ (m_M_last h) (cwV 0 hts (g_V kw_667 kw_669 kp_34 kw_7 kw_670) rfl rfl rfl (by decide +kernel) ⟨Nat.le_of_ble_eq_true rfl, Nat.le_of_ble_eq_true rfl⟩) (r_preV (o := 0) C hP hD hS (by decide) rfl rfl) rfl rfl hl.1 rfl (lv_room (Nat.le_of_ble_eq_true rfl)) d_M_step_58 ⟨Nat.le_of_ble_eq_true rfl, Nat.le_of_ble_eq_true rfl⟩) (fun r58 σ58 H locs h hP hD hS => ?_)
    refine lv_istore_n (lv' := [(1, .int r58), (2, .int t0), (0, .ref (ad 0))]) hx hb d_M_step_61 rfl hl (by decide) rfl (fun ls hl => ?_)
    exact b_M_step_62 C h (lv_sub hl [2, 0, 1] rfl) hP hD hS
  · have h := h.2 hc46
    refine lv_aload_n hx hb d_M_step_49 rfl (lv_at hl 1 rfl) ?_
    refine lv_iload_n hx hb d_M_step_50 rfl (lv_at hl 2 rfl) ?_
    refine r_callv C hD hS (va_runV (As := [.int x1]) (rest := []) ⟨hx, hb, hml, hown, hts⟩ (m_M_pass h) (cwV 1 hts (g_V kw_663 kw_665 kp_33 kw_7 kw_666) rfl rfl rfl (by decide +kernel) ⟨Nat.le_of_ble_eq_true rfl, Nat.le_of_ble_eq_true rfl⟩) (r_preV (o := 0) C hP hD hS (by decide) rfl rfl) rfl rfl hl.1 rfl (lv_room (Nat.le_of_ble_eq_true rfl)) d_M_step_51 ⟨Nat.le_of_ble_eq_true rfl, Nat.le_of_ble_eq_true rfl⟩) (fun σ51 H locs h hP hD hS => ?_)
    refine lv_goto hx hb d_M_step_54 rfl ?_
    exact b_M_step_62 C h (lv_sub hl [1, 2, 0] rfl) hP hD hS
set_option maxHeartbeats 4000000 in
set_option maxRecDepth 100000 in
theorem b_M_step_20 {p : Program} {l : Launch} {e : Env} {s : State} {m : MethodId} {args : Array Value} {below : List Frame} {meth : Method} {c : Code} {D : va_G} {cI cL cZ cS : ClassId} {ad : Nat → Nat} {wr : va_W} {A : Nat → Prop} {Q : Int32 → Mem → Prop} {t0 : Int32} {σ : Mem} {H : Heap} {locs : List Loc} {ls : Array Slot} (C : wC TB "PreferenceCountModel" c_M_step 4 (some .int) D cls (tyl cI cL cZ cS) A p s m args meth c) (h : wp_M_step_20 Q t0 σ) (hl : lv_has ls 4 [(0, .ref (ad 0))]) (hP : va_P D cls (wW 12 (fM cI cL cZ ad) ad σ ++ wr) H) (hD : va_D A (wW 12 (fM cI cL cZ ad) ad σ ++ wr)) (hS : va_S A s.heap H locs) : W p l e (headSpec (Cond.code y_M_step c_M_step 4 (some .int) :: TB) rm_M_step).room s m args below meth c H locs 0 0 (MQ below (va_Qi Q (wB D cls (tyl cI cL cZ cS) 12 (fM cI cL cZ ad) ad wr A) A) args s 0 0 A) (F0 m 20 ls [.int t0, .ref (ad 0)]) := by
  have hx := C.1
  have hb := C.2.1
  have hts := C.2.2.2.2.1
  have hown := C.2.2.2.2.2.1
  have hml := C.2.2.2.2.2.2.1
  have h : wp_M_says (fun r20 σ20 => (r20 = 0 → (Q (0 : Int32) σ20)) ∧ (¬ r20 = 0 → (wp_M_first (fun r31 σ31 => (r31 < 0 → (wp_M_step_44 Q r31 (0 : Int32) σ31)) ∧ (¬ r31 < 0 → (wp_M_step_44 Q r31 (1 : Int32) σ31))) (0 : Int32) (1 : Int32) σ20))) t0 σ := h
  refine r_calli C hD hS (va_runV (As := [.int t0]) (rest := []) ⟨hx, hb, hml, hown, hts⟩ (m_M_says h) (cwV 1 hts (g_V kw_579 kw_581 kp_19 kw_7 kw_582) rfl rfl rfl (by decide +kernel) ⟨Nat.le_of_ble_eq_true rfl, Nat.le_of_ble_eq_true rfl⟩) (r_preV (o := 0) C hP hD hS (by decide) rfl rfl) rfl rfl hl.1 rfl (lv_room (Nat.le_of_ble_eq_true rfl)) d_M_step_20 ⟨Nat.le_of_ble_eq_true rfl, Nat.le_of_ble_eq_true rfl⟩) (fun r20 σ20 H locs h hP hD hS => ?_)
  refine lv_if_ne hx hb d_M_step_23 rfl (fun hc23 => ?_) (fun hc23 => ?_)
  · have h := h.2 hc23
    refine lv_aload_n hx hb d_M_step_28 rfl (lv_at hl 0 rfl) ?_
    refine lv_iconst (v := 0) hx hb d_M_step_29 (by decide) ?_
    refine lv_iconst (v := 1) hx hb d_M_step_30 (by decide) ?_
    refine r_calli C hD hS (va_runV (As := [.int (0 : Int32), .int (1 : Int32)]) (rest := []) ⟨hx, hb, hml, hown, hts⟩ (m_M_first h) (cwV 2 hts (g_V kw_643 kw_645 kp_29 kw_7 kw_646) rfl rfl rfl (by decide +kernel) ⟨Nat.le_of_ble_eq_true rfl, Nat.le_of_ble_eq_true rfl⟩) (r_preV (o := 0) C hP hD hS (by decide) rfl rfl) rfl rfl hl.1 rfl (lv_room (Nat.le_of_ble_eq_true rfl)) d_M_step_31 ⟨Nat.le_of_ble_eq_true rfl, Nat.le_of_ble_eq_true rfl⟩) (fun r31 σ31 H locs h hP hD hS => ?_)
    refine lv_istore_n (lv' := [(1, .int r31), (0, .ref (ad 0))]) hx hb d_M_step_34 rfl hl (by decide) rfl (fun ls hl => ?_)
    refine lv_iload_n hx hb d_M_step_35 rfl (lv_at hl 0 rfl) ?_
    refine lv_if_lt hx hb d_M_step_36 rfl (fun hc36 => ?_) (fun hc36 => ?_)
    · have h := h.1 hc36
      refine lv_iconst (v := 0) hx hb d_M_step_43 (by decide) ?_
      exact b_M_step_44 C h (lv_sub hl [1, 0] rfl) hP hD hS
    · have h := h.2 hc36
      refine lv_iconst (v := 1) hx hb d_M_step_39 (by decide) ?_
      refine lv_goto hx hb d_M_step_40 rfl ?_
      exact b_M_step_44 C h (lv_sub hl [1, 0] rfl) hP hD hS
  · have h := h.1 hc23
    refine lv_iconst (v := 0) hx hb d_M_step_26 (by decide) ?_
    exact r_iret C hP hD hS d_M_step_27 h
set_option maxHeartbeats 4000000 in
set_option maxRecDepth 100000 in
theorem b_M_step_15 {p : Program} {l : Launch} {e : Env} {s : State} {m : MethodId} {args : Array Value} {below : List Frame} {meth : Method} {c : Code} {D : va_G} {cI cL cZ cS : ClassId} {ad : Nat → Nat} {wr : va_W} {A : Nat → Prop} {Q : Int32 → Mem → Prop} {σ : Mem} {H : Heap} {locs : List Loc} {ls : Array Slot} (C : wC TB "PreferenceCountModel" c_M_step 4 (some .int) D cls (tyl cI cL cZ cS) A p s m args meth c) (h : wp_M_step_15 Q σ) (hl : lv_has ls 4 [(0, .ref (ad 0))]) (hP : va_P D cls (wW 12 (fM cI cL cZ ad) ad σ ++ wr) H) (hD : va_D A (wW 12 (fM cI cL cZ ad) ad σ ++ wr)) (hS : va_S A s.heap H locs) : W p l e (headSpec (Cond.code y_M_step c_M_step 4 (some .int) :: TB) rm_M_step).room s m args below meth c H locs 0 0 (MQ below (va_Qi Q (wB D cls (tyl cI cL cZ cS) 12 (fM cI cL cZ ad) ad wr A) A) args s 0 0 A) (F0 m 15 ls [.ref (ad 0)]) := by
  have hx := C.1
  have hb := C.2.1
  have hts := C.2.2.2.2.1
  have hown := C.2.2.2.2.2.1
  have hml := C.2.2.2.2.2.2.1
  have h : wp_M_step_20 Q (1 : Int32) σ := h
  refine lv_iconst (v := 1) hx hb d_M_step_15 (by decide) ?_
  refine lv_goto hx hb d_M_step_16 rfl ?_
  exact b_M_step_20 C h (lv_sub hl [0] rfl) hP hD hS
set_option maxHeartbeats 4000000 in
set_option maxRecDepth 100000 in
theorem m_M_step {l : Launch} {D : va_G} {cI cL cZ cS : ClassId} {ad : Nat → Nat} {wr : va_W} {sz : Nat} {Q : Int32 → Mem → Prop} {σ : Mem} (h : wp_M_step Q σ) : Met l y_M_step (Cond.code y_M_step c_M_step 4 (some .int) :: TB) rm_M_step (wPc D cls (tyl cI cL cZ cS) 12 (fM cI cL cZ ad) ad wr sz σ [.ref (ad 0)]) (va_Qi Q (wB D cls (tyl cI cL cZ cS) 12 (fM cI cL cZ ad) ad wr (wA 12 (fM cI cL cZ ad) ad wr sz σ)) (wA 12 (fM cI cL cZ ad) ad wr sz σ)) 0 0 (wA 12 (fM cI cL cZ ad) ad wr sz σ) := by
  refine Met.ofW (cc := c_M_step) (maxL := 4) (ret := (some .int)) (by decide) rfl ?_
  intro p e s m args below meth c s₁ B hml hv
  obtain ⟨rfl, hsz, hP, hK, hD0, hN⟩ := hv
  subst hsz
  have hD : va_D (wA 12 (fM cI cL cZ ad) ad wr s.heap.size σ) (wW 12 (fM cI cL cZ ad) ad σ ++ wr) := hD0.self (sz := s.heap.size)
  have hA : ∀ q : Nat, s.heap.size ≤ q → (wA 12 (fM cI cL cZ ad) ad wr s.heap.size σ) q := fun q h => Or.inr h
  have hN : NX (wA 12 (fM cI cL cZ ad) ad wr s.heap.size σ) s s.heap := hN
  generalize (wA 12 (fM cI cL cZ ad) ad wr s.heap.size σ) = A at hD hA hN ⊢
  have C : wC TB "PreferenceCountModel" c_M_step 4 (some .int) D cls (tyl cI cL cZ cS) A p s m ([.ref (ad 0)].toArray) meth c := ⟨B.exec, B.bytes, B.returns, B.notSynchronized, fun w hw => atoms_spec (ws := Cond.code y_M_step c_M_step 4 (some .int) :: TB) B.pre w (List.mem_cons_of_mem _ hw), findClass_of_methodNamed B.named, hml, hK, hN, hA⟩
  have hx := C.1
  have hb := C.2.1
  have hts := C.2.2.2.2.1
  have hown := C.2.2.2.2.2.1
  have hS : va_S A s.heap s.heap [] := va_S.rf
  have hl := lv_entry ([.ref (ad 0)]) (n := 4) (Nat.le_of_ble_eq_true rfl)
  rw [lg_entry_eq]
  generalize (lg_sl ([.ref (ad 0)]) ++ List.replicate (4 - (lg_sl ([.ref (ad 0)])).length) Slot.unset).toArray = ls at hl ⊢
  have hl : lv_has ls 4 [(0, .ref (ad 0))] := hl
  have h : ((σ.1 0 15) < 0 → (wp_M_step_15 Q σ)) ∧ (¬ (σ.1 0 15) < 0 → (((σ.1 0 19) = 0 → (wp_M_step_20 Q (0 : Int32) σ)) ∧ (¬ (σ.1 0 19) = 0 → (wp_M_step_15 Q σ)))) := h
  refine lv_aload_n hx hb d_M_step_0 rfl (lv_at hl 0 rfl) ?_
  refine lv_aload_n hx hb d_M_step_1 rfl (lv_at hl 0 rfl) ?_
  refine r_get C ku_M hP (by decide) rfl rfl 15 (by decide) kw_524 rfl d_M_step_2 ?_
  refine lv_if_lt hx hb d_M_step_5 rfl (fun hc5 => ?_) (fun hc5 => ?_)
  · have h := h.1 hc5
    exact b_M_step_15 C h (lv_sub hl [0] rfl) hP hD hS
  · have h := h.2 hc5
    refine lv_aload_n hx hb d_M_step_8 rfl (lv_at hl 0 rfl) ?_
    refine r_get C ku_M hP (by decide) rfl rfl 19 (by decide) kw_528 rfl d_M_step_9 ?_
    refine lv_if_eq hx hb d_M_step_12 rfl (fun hc12 => ?_) (fun hc12 => ?_)
    · have h := h.1 hc12
      refine lv_iconst (v := 0) hx hb d_M_step_19 (by decide) ?_
      exact b_M_step_20 C h (lv_sub hl [0] rfl) hP hD hS
    · have h := h.2 hc12
      exact b_M_step_15 C h (lv_sub hl [0] rfl) hP hD hS
def rm_M_over : Room := { frames := 0, cells := 0, slots := 0, locals := 0 }
set_option maxHeartbeats 4000000 in
set_option maxRecDepth 100000 in
theorem m_M_over {l : Launch} {D : va_G} {cI cL cZ cS : ClassId} {ad : Nat → Nat} {wr : va_W} {sz : Nat} {Q : Int32 → Mem → Prop} {σ : Mem} (h : wp_M_over Q σ) : Met l y_M_over (Cond.code y_M_over c_M_over 1 (some .boolean) :: TB) rm_M_over (wPc D cls (tyl cI cL cZ cS) 12 (fM cI cL cZ ad) ad wr sz σ [.ref (ad 0)]) (va_Qi Q (wB D cls (tyl cI cL cZ cS) 12 (fM cI cL cZ ad) ad wr (wA 12 (fM cI cL cZ ad) ad wr sz σ)) (wA 12 (fM cI cL cZ ad) ad wr sz σ)) 0 0 (wA 12 (fM cI cL cZ ad) ad wr sz σ) := by
  refine Met.ofW (cc := c_M_over) (maxL := 1) (ret := (some .boolean)) (by decide) rfl ?_
  intro p e s m args below meth c s₁ B hml hv
  obtain ⟨rfl, hsz, hP, hK, hD0, hN⟩ := hv
  subst hsz
  have hD : va_D (wA 12 (fM cI cL cZ ad) ad wr s.heap.size σ) (wW 12 (fM cI cL cZ ad) ad σ ++ wr) := hD0.self (sz := s.heap.size)
  have hA : ∀ q : Nat, s.heap.size ≤ q → (wA 12 (fM cI cL cZ ad) ad wr s.heap.size σ) q := fun q h => Or.inr h
  have hN : NX (wA 12 (fM cI cL cZ ad) ad wr s.heap.size σ) s s.heap := hN
  generalize (wA 12 (fM cI cL cZ ad) ad wr s.heap.size σ) = A at hD hA hN ⊢
  have C : wC TB "PreferenceCountModel" c_M_over 1 (some .boolean) D cls (tyl cI cL cZ cS) A p s m ([.ref (ad 0)].toArray) meth c := ⟨B.exec, B.bytes, B.returns, B.notSynchronized, fun w hw => atoms_spec (ws := Cond.code y_M_over c_M_over 1 (some .boolean) :: TB) B.pre w (List.mem_cons_of_mem _ hw), findClass_of_methodNamed B.named, hml, hK, hN, hA⟩
  have hx := C.1
  have hb := C.2.1
  have hts := C.2.2.2.2.1
  have hown := C.2.2.2.2.2.1
  have hS : va_S A s.heap s.heap [] := va_S.rf
  have hl := lv_entry ([.ref (ad 0)]) (n := 1) (Nat.le_of_ble_eq_true rfl)
  rw [lg_entry_eq]
  generalize (lg_sl ([.ref (ad 0)]) ++ List.replicate (1 - (lg_sl ([.ref (ad 0)])).length) Slot.unset).toArray = ls at hl ⊢
  have hl : lv_has ls 1 [(0, .ref (ad 0))] := hl
  have h : ∀ σ2 : Mem, σ2 = mI σ 0 0 (0 : Int32) → (((σ2.1 0 19) = 0 ∨ (σ2.1 0 19) = 1) ∧ Q (σ2.1 0 19) σ2) := h
  refine lv_aload_n hx hb d_M_over_0 rfl (lv_at hl 0 rfl) ?_
  refine lv_iconst (v := 0) hx hb d_M_over_1 (by decide) ?_
  refine r_putI (ty := .int) C ku_M ft_M fo_M fn_M hP hD hS (by decide) rfl rfl 0 (by decide) kw_509 rfl (by decide +kernel) rfl rfl (Nat.le_of_ble_eq_true rfl) d_M_over_2 rfl (fun σ2 e2 H locs hP hD hS => ?_)
  have h := h σ2 e2
  refine lv_aload_n hx hb d_M_over_5 rfl (lv_at hl 0 rfl) ?_
  refine r_get C ku_M hP (by decide) rfl rfl 19 (by decide) kw_528 rfl d_M_over_6 ?_
  obtain ⟨hb9, h⟩ := h
  exact r_zret C hb9 hP hD hS d_M_over_9 h
def rm_M_state : Room := { frames := 1, cells := 0, slots := 0, locals := 29 }
set_option maxHeartbeats 4000000 in
set_option maxRecDepth 100000 in
theorem b_M_state_101 {p : Program} {l : Launch} {e : Env} {s : State} {m : MethodId} {args : Array Value} {below : List Frame} {meth : Method} {c : Code} {D : va_G} {cI cL cZ cS : ClassId} {ad : Nat → Nat} {wr : va_W} {A : Nat → Prop} {Q : Int32 → Mem → Prop} {t0 : Int32} {σ : Mem} {H : Heap} {locs : List Loc} {ls : Array Slot} (C : wC TB "PreferenceCountModel" c_M_state 2 (some .int) D cls (tyl cI cL cZ cS) A p s m args meth c) (h : wp_M_state_101 Q t0 σ) (hl : lv_has ls 2 []) (hP : va_P D cls (wW 12 (fM cI cL cZ ad) ad σ ++ wr) H) (hD : va_D A (wW 12 (fM cI cL cZ ad) ad σ ++ wr)) (hS : va_S A s.heap H locs) : W p l e (headSpec (Cond.code y_M_state c_M_state 2 (some .int) :: TB) rm_M_state).room s m args below meth c H locs 0 0 (MQ below (va_Qi Q (wB D cls (tyl cI cL cZ cS) 12 (fM cI cL cZ ad) ad wr A) A) args s 0 0 A) (F0 m 101 ls [.int t0]) := by
  have hx := C.1
  have hb := C.2.1
  have hts := C.2.2.2.2.1
  have hown := C.2.2.2.2.2.1
  have hml := C.2.2.2.2.2.2.1
  have h : Q t0 σ := h
  exact r_iret C hP hD hS d_M_state_101 h
set_option maxHeartbeats 4000000 in
set_option maxRecDepth 100000 in
theorem m_M_state {l : Launch} {D : va_G} {cI cL cZ cS : ClassId} {ad : Nat → Nat} {wr : va_W} {sz : Nat} {Q : Int32 → Mem → Prop} {x1 : Int32} {σ : Mem} (h : wp_M_state Q x1 σ) : Met l y_M_state (Cond.code y_M_state c_M_state 2 (some .int) :: TB) rm_M_state (wPc D cls (tyl cI cL cZ cS) 12 (fM cI cL cZ ad) ad wr sz σ [.ref (ad 0), .int x1]) (va_Qi Q (wB D cls (tyl cI cL cZ cS) 12 (fM cI cL cZ ad) ad wr (wA 12 (fM cI cL cZ ad) ad wr sz σ)) (wA 12 (fM cI cL cZ ad) ad wr sz σ)) 0 0 (wA 12 (fM cI cL cZ ad) ad wr sz σ) := by
  refine Met.ofW (cc := c_M_state) (maxL := 2) (ret := (some .int)) (by decide) rfl ?_
  intro p e s m args below meth c s₁ B hml hv
  obtain ⟨rfl, hsz, hP, hK, hD0, hN⟩ := hv
  subst hsz
  have hD : va_D (wA 12 (fM cI cL cZ ad) ad wr s.heap.size σ) (wW 12 (fM cI cL cZ ad) ad σ ++ wr) := hD0.self (sz := s.heap.size)
  have hA : ∀ q : Nat, s.heap.size ≤ q → (wA 12 (fM cI cL cZ ad) ad wr s.heap.size σ) q := fun q h => Or.inr h
  have hN : NX (wA 12 (fM cI cL cZ ad) ad wr s.heap.size σ) s s.heap := hN
  generalize (wA 12 (fM cI cL cZ ad) ad wr s.heap.size σ) = A at hD hA hN ⊢
  have C : wC TB "PreferenceCountModel" c_M_state 2 (some .int) D cls (tyl cI cL cZ cS) A p s m ([.ref (ad 0), .int x1].toArray) meth c := ⟨B.exec, B.bytes, B.returns, B.notSynchronized, fun w hw => atoms_spec (ws := Cond.code y_M_state c_M_state 2 (some .int) :: TB) B.pre w (List.mem_cons_of_mem _ hw), findClass_of_methodNamed B.named, hml, hK, hN, hA⟩
  have hx := C.1
  have hb := C.2.1
  have hts := C.2.2.2.2.1
  have hown := C.2.2.2.2.2.1
  have hS : va_S A s.heap s.heap [] := va_S.rf
  have hl := lv_entry ([.ref (ad 0), .int x1]) (n := 2) (Nat.le_of_ble_eq_true rfl)
  rw [lg_entry_eq]
  generalize (lg_sl ([.ref (ad 0), .int x1]) ++ List.replicate (2 - (lg_sl ([.ref (ad 0), .int x1])).length) Slot.unset).toArray = ls at hl ⊢
  have hl : lv_has ls 2 [(0, .ref (ad 0)), (1, .int x1)] := hl
  have h : ∀ σ2 : Mem, σ2 = mI σ 0 0 (0 : Int32) → ((x1 = 0 → (Q (σ2.1 0 1) σ2)) ∧ (¬ x1 = 0 → ((x1 = 1 → (Q (σ2.1 0 2) σ2)) ∧ (¬ x1 = 1 → ((x1 = 2 → (Q (σ2.1 0 7) σ2)) ∧ (¬ x1 = 2 → ((x1 = 3 → ((0 ≤ (σ2.1 0 15) → (wp_M_common (fun r96 σ96 => (¬ (Int64.toInt32 r96) = 0) ∧ (wp_M_state_101 Q (((σ2.1 0 2) + (1 : Int32)) / (Int64.toInt32 r96)) σ96)) (Int32.toInt64 (σ2.1 0 7)) (Int32.toInt64 ((σ2.1 0 2) + (1 : Int32))) σ2)) ∧ (¬ 0 ≤ (σ2.1 0 15) → (wp_M_state_101 Q (0 : Int32) σ2)))) ∧ (¬ x1 = 3 → ((x1 = 4 → (Q (σ2.1 0 15) σ2)) ∧ (¬ x1 = 4 → ((x1 = 5 → (Q (σ2.1 0 5) σ2)) ∧ (¬ x1 = 5 → ((x1 = 6 → (Q (σ2.1 0 6) σ2)) ∧ (¬ x1 = 6 → ((x1 = 7 → (wp_M_continuing (fun r118 σ118 => Q r118 σ118) σ2)) ∧ (¬ x1 = 7 → (Q (-1 : Int32) σ2))))))))))))))))) := h
  refine lv_aload_n hx hb d_M_state_0 rfl (lv_at hl 0 rfl) ?_
  refine lv_iconst (v := 0) hx hb d_M_state_1 (by decide) ?_
  refine r_putI (ty := .int) C ku_M ft_M fo_M fn_M hP hD hS (by decide) rfl rfl 0 (by decide) kw_509 rfl (by decide +kernel) rfl rfl (Nat.le_of_ble_eq_true rfl) d_M_state_2 rfl (fun σ2 e2 H locs hP hD hS => ?_)
  have h := h σ2 e2
  refine lv_iload_n hx hb d_M_state_5 rfl (lv_at hl 1 rfl) ?_
  by_cases hc6_0 : x1 = 0
  · have h := h.1 hc6_0
    refine lv_tableIn hx hb d_M_state_6 (by rw [hc6_0]; decide) (by rw [hc6_0]; decide) (by rw [hc6_0]; rfl) rfl ?_
    refine lv_aload_n hx hb d_M_state_52 rfl (lv_at hl 0 rfl) ?_
    refine r_get C ku_M hP (by decide) rfl rfl 1 (by decide) kw_510 rfl d_M_state_53 ?_
    exact r_iret C hP hD hS d_M_state_56 h
  have h := h.2 hc6_0
  by_cases hc6_1 : x1 = 1
  · have h := h.1 hc6_1
    refine lv_tableIn hx hb d_M_state_6 (by rw [hc6_1]; decide) (by rw [hc6_1]; decide) (by rw [hc6_1]; rfl) rfl ?_
    refine lv_aload_n hx hb d_M_state_57 rfl (lv_at hl 0 rfl) ?_
    refine r_get C ku_M hP (by decide) rfl rfl 2 (by decide) kw_511 rfl d_M_state_58 ?_
    exact r_iret C hP hD hS d_M_state_61 h
  have h := h.2 hc6_1
  by_cases hc6_2 : x1 = 2
  · have h := h.1 hc6_2
    refine lv_tableIn hx hb d_M_state_6 (by rw [hc6_2]; decide) (by rw [hc6_2]; decide) (by rw [hc6_2]; rfl) rfl ?_
    refine lv_aload_n hx hb d_M_state_62 rfl (lv_at hl 0 rfl) ?_
    refine r_get C ku_M hP (by decide) rfl rfl 7 (by decide) kw_516 rfl d_M_state_63 ?_
    exact r_iret C hP hD hS d_M_state_66 h
  have h := h.2 hc6_2
  by_cases hc6_3 : x1 = 3
  · have h := h.1 hc6_3
    refine lv_tableIn hx hb d_M_state_6 (by rw [hc6_3]; decide) (by rw [hc6_3]; decide) (by rw [hc6_3]; rfl) rfl ?_
    refine lv_aload_n hx hb d_M_state_67 rfl (lv_at hl 0 rfl) ?_
    refine r_get C ku_M hP (by decide) rfl rfl 15 (by decide) kw_524 rfl d_M_state_68 ?_
    refine lv_if_ge hx hb d_M_state_71 rfl (fun hc71 => ?_) (fun hc71 => ?_)
    · have h := h.1 hc71
      refine lv_aload_n hx hb d_M_state_78 rfl (lv_at hl 0 rfl) ?_
      refine r_get C ku_M hP (by decide) rfl rfl 2 (by decide) kw_511 rfl d_M_state_79 ?_
      refine lv_iconst (v := 1) hx hb d_M_state_82 (by decide) ?_
      refine lv_iadd hx hb d_M_state_83 ?_
      refine lv_aload_n hx hb d_M_state_84 rfl (lv_at hl 0 rfl) ?_
      refine r_get C ku_M hP (by decide) rfl rfl 7 (by decide) kw_516 rfl d_M_state_85 ?_
      refine lv_i2l hx hb d_M_state_88 rfl ?_
      refine lv_aload_n hx hb d_M_state_89 rfl (lv_at hl 0 rfl) ?_
      refine r_get C ku_M hP (by decide) rfl rfl 2 (by decide) kw_511 rfl d_M_state_90 ?_
      refine lv_iconst (v := 1) hx hb d_M_state_93 (by decide) ?_
      refine lv_iadd hx hb d_M_state_94 ?_
      refine lv_i2l hx hb d_M_state_95 rfl ?_
      refine r_calll C hD hS (va_runS (As := [.long (Int32.toInt64 (σ2.1 0 7)), .long (Int32.toInt64 ((σ2.1 0 2) + (1 : Int32)))]) (rest := [.int ((σ2.1 0 2) + (1 : Int32))]) ⟨hx, hb, hml, hown, hts⟩ (m_M_common h) (va_cwS 2 hts (g_S kw_632 kw_633 kw_7 kw_634) rfl rfl rfl (by decide +kernel) ⟨Nat.le_of_ble_eq_true rfl, Nat.le_of_ble_eq_true rfl⟩) (r_preS C hP hD hS) rfl rfl hl.1 rfl (lv_room (Nat.le_of_ble_eq_true rfl)) d_M_state_96 ⟨Nat.le_of_ble_eq_true rfl, Nat.le_of_ble_eq_true rfl⟩) (fun r96 σ96 H locs h hP hD hS => ?_)
      refine lv_l2i hx hb d_M_state_99 rfl ?_
      obtain ⟨hz100, h⟩ := h
      refine lv_idiv hx hb d_M_state_100 hz100 ?_
      exact b_M_state_101 C h (lv_sub hl [] rfl) hP hD hS
    · have h := h.2 hc71
      refine lv_iconst (v := 0) hx hb d_M_state_74 (by decide) ?_
      refine lv_goto hx hb d_M_state_75 rfl ?_
      exact b_M_state_101 C h (lv_sub hl [] rfl) hP hD hS
  have h := h.2 hc6_3
  by_cases hc6_4 : x1 = 4
  · have h := h.1 hc6_4
    refine lv_tableIn hx hb d_M_state_6 (by rw [hc6_4]; decide) (by rw [hc6_4]; decide) (by rw [hc6_4]; rfl) rfl ?_
    refine lv_aload_n hx hb d_M_state_102 rfl (lv_at hl 0 rfl) ?_
    refine r_get C ku_M hP (by decide) rfl rfl 15 (by decide) kw_524 rfl d_M_state_103 ?_
    exact r_iret C hP hD hS d_M_state_106 h
  have h := h.2 hc6_4
  by_cases hc6_5 : x1 = 5
  · have h := h.1 hc6_5
    refine lv_tableIn hx hb d_M_state_6 (by rw [hc6_5]; decide) (by rw [hc6_5]; decide) (by rw [hc6_5]; rfl) rfl ?_
    refine lv_aload_n hx hb d_M_state_107 rfl (lv_at hl 0 rfl) ?_
    refine r_get C ku_M hP (by decide) rfl rfl 5 (by decide) kw_514 rfl d_M_state_108 ?_
    exact r_iret C hP hD hS d_M_state_111 h
  have h := h.2 hc6_5
  by_cases hc6_6 : x1 = 6
  · have h := h.1 hc6_6
    refine lv_tableIn hx hb d_M_state_6 (by rw [hc6_6]; decide) (by rw [hc6_6]; decide) (by rw [hc6_6]; rfl) rfl ?_
    refine lv_aload_n hx hb d_M_state_112 rfl (lv_at hl 0 rfl) ?_
    refine r_get C ku_M hP (by decide) rfl rfl 6 (by decide) kw_515 rfl d_M_state_113 ?_
    exact r_iret C hP hD hS d_M_state_116 h
  have h := h.2 hc6_6
  by_cases hc6_7 : x1 = 7
  · have h := h.1 hc6_7
    refine lv_tableIn hx hb d_M_state_6 (by rw [hc6_7]; decide) (by rw [hc6_7]; decide) (by rw [hc6_7]; rfl) rfl ?_
    refine lv_aload_n hx hb d_M_state_117 rfl (lv_at hl 0 rfl) ?_
    refine r_calli C hD hS (va_runV (As := []) (rest := []) ⟨hx, hb, hml, hown, hts⟩ (m_M_continuing h) (cwV 0 hts (g_V kw_595 kw_597 kp_21 kw_7 kw_598) rfl rfl rfl (by decide +kernel) ⟨Nat.le_of_ble_eq_true rfl, Nat.le_of_ble_eq_true rfl⟩) (r_preV (o := 0) C hP hD hS (by decide) rfl rfl) rfl rfl hl.1 rfl (lv_room (Nat.le_of_ble_eq_true rfl)) d_M_state_118 ⟨Nat.le_of_ble_eq_true rfl, Nat.le_of_ble_eq_true rfl⟩) (fun r118 σ118 H locs h hP hD hS => ?_)
    exact r_iret C hP hD hS d_M_state_121 h
  have h := h.2 hc6_7
  refine lv_tableOut hx hb d_M_state_6 (sw_out8 hc6_0 hc6_1 hc6_2 hc6_3 hc6_4 hc6_5 hc6_6 hc6_7) rfl ?_
  refine lv_iconst (v := (-1)) hx hb d_M_state_122 (by decide) ?_
  exact r_iret C hP hD hS d_M_state_123 h
def rm_M_status : Room := { frames := 1, cells := 0, slots := 0, locals := 21 }
set_option maxHeartbeats 4000000 in
set_option maxRecDepth 100000 in
theorem b_M_status_30 {p : Program} {l : Launch} {e : Env} {s : State} {m : MethodId} {args : Array Value} {below : List Frame} {meth : Method} {c : Code} {D : va_G} {cI cL cZ cS : ClassId} {ad : Nat → Nat} {wr : va_W} {A : Nat → Prop} {Q : Int32 → Mem → Prop} {t0 : Int32} {σ : Mem} {H : Heap} {locs : List Loc} {ls : Array Slot} (C : wC TB "PreferenceCountModel" c_M_status 2 (some .int) D cls (tyl cI cL cZ cS) A p s m args meth c) (h : wp_M_status_30 Q t0 σ) (hl : lv_has ls 2 []) (hP : va_P D cls (wW 12 (fM cI cL cZ ad) ad σ ++ wr) H) (hD : va_D A (wW 12 (fM cI cL cZ ad) ad σ ++ wr)) (hS : va_S A s.heap H locs) : W p l e (headSpec (Cond.code y_M_status c_M_status 2 (some .int) :: TB) rm_M_status).room s m args below meth c H locs 0 0 (MQ below (va_Qi Q (wB D cls (tyl cI cL cZ cS) 12 (fM cI cL cZ ad) ad wr A) A) args s 0 0 A) (F0 m 30 ls [.int t0]) := by
  have hx := C.1
  have hb := C.2.1
  have hts := C.2.2.2.2.1
  have hown := C.2.2.2.2.2.1
  have hml := C.2.2.2.2.2.2.1
  have h : Q t0 σ := h
  exact r_iret C hP hD hS d_M_status_30 h
set_option maxHeartbeats 4000000 in
set_option maxRecDepth 100000 in
theorem b_M_status_14 {p : Program} {l : Launch} {e : Env} {s : State} {m : MethodId} {args : Array Value} {below : List Frame} {meth : Method} {c : Code} {D : va_G} {cI cL cZ cS : ClassId} {ad : Nat → Nat} {wr : va_W} {A : Nat → Prop} {Q : Int32 → Mem → Prop} {x1 : Int32} {t0 : Int32} {σ : Mem} {H : Heap} {locs : List Loc} {ls : Array Slot} (C : wC TB "PreferenceCountModel" c_M_status 2 (some .int) D cls (tyl cI cL cZ cS) A p s m args meth c) (h : wp_M_status_14 Q x1 t0 σ) (hl : lv_has ls 2 [(0, .ref (ad 0)), (1, .int x1)]) (hP : va_P D cls (wW 12 (fM cI cL cZ ad) ad σ ++ wr) H) (hD : va_D A (wW 12 (fM cI cL cZ ad) ad σ ++ wr)) (hS : va_S A s.heap H locs) : W p l e (headSpec (Cond.code y_M_status c_M_status 2 (some .int) :: TB) rm_M_status).room s m args below meth c H locs 0 0 (MQ below (va_Qi Q (wB D cls (tyl cI cL cZ cS) 12 (fM cI cL cZ ad) ad wr A) A) args s 0 0 A) (F0 m 14 ls [.int t0, .ref (ad 0)]) := by
  have hx := C.1
  have hb := C.2.1
  have hts := C.2.2.2.2.1
  have hown := C.2.2.2.2.2.1
  have hml := C.2.2.2.2.2.2.1
  have h : wp_M_says (fun r14 σ14 => (r14 = 0 → (wp_M_status_30 Q (0 : Int32) σ14)) ∧ (¬ r14 = 0 → (vp_in x1 12 ∧ (wp_M_status_30 Q (σ14.1 2 (Int32.toNatClampNeg x1)) σ14)))) t0 σ := h
  refine r_calli C hD hS (va_runV (As := [.int t0]) (rest := []) ⟨hx, hb, hml, hown, hts⟩ (m_M_says h) (cwV 1 hts (g_V kw_579 kw_581 kp_19 kw_7 kw_582) rfl rfl rfl (by decide +kernel) ⟨Nat.le_of_ble_eq_true rfl, Nat.le_of_ble_eq_true rfl⟩) (r_preV (o := 0) C hP hD hS (by decide) rfl rfl) rfl rfl hl.1 rfl (lv_room (Nat.le_of_ble_eq_true rfl)) d_M_status_14 ⟨Nat.le_of_ble_eq_true rfl, Nat.le_of_ble_eq_true rfl⟩) (fun r14 σ14 H locs h hP hD hS => ?_)
  refine lv_if_eq hx hb d_M_status_17 rfl (fun hc17 => ?_) (fun hc17 => ?_)
  · have h := h.1 hc17
    refine lv_iconst (v := 0) hx hb d_M_status_29 (by decide) ?_
    exact b_M_status_30 C h (lv_sub hl [] rfl) hP hD hS
  · have h := h.2 hc17
    refine lv_aload_n hx hb d_M_status_20 rfl (lv_at hl 0 rfl) ?_
    refine r_get C ku_M hP (by decide) rfl rfl 4 (by decide) kw_513 rfl d_M_status_21 ?_
    refine lv_iload_n hx hb d_M_status_24 rfl (lv_at hl 1 rfl) ?_
    obtain ⟨hi25, h⟩ := h
    refine r_iald C hP (by decide) rfl rfl hi25 d_M_status_25 ?_
    refine lv_goto hx hb d_M_status_26 rfl ?_
    exact b_M_status_30 C h (lv_sub hl [] rfl) hP hD hS
set_option maxHeartbeats 4000000 in
set_option maxRecDepth 100000 in
theorem m_M_status {l : Launch} {D : va_G} {cI cL cZ cS : ClassId} {ad : Nat → Nat} {wr : va_W} {sz : Nat} {Q : Int32 → Mem → Prop} {x1 : Int32} {σ : Mem} (h : wp_M_status Q x1 σ) : Met l y_M_status (Cond.code y_M_status c_M_status 2 (some .int) :: TB) rm_M_status (wPc D cls (tyl cI cL cZ cS) 12 (fM cI cL cZ ad) ad wr sz σ [.ref (ad 0), .int x1]) (va_Qi Q (wB D cls (tyl cI cL cZ cS) 12 (fM cI cL cZ ad) ad wr (wA 12 (fM cI cL cZ ad) ad wr sz σ)) (wA 12 (fM cI cL cZ ad) ad wr sz σ)) 0 0 (wA 12 (fM cI cL cZ ad) ad wr sz σ) := by
  refine Met.ofW (cc := c_M_status) (maxL := 2) (ret := (some .int)) (by decide) rfl ?_
  intro p e s m args below meth c s₁ B hml hv
  obtain ⟨rfl, hsz, hP, hK, hD0, hN⟩ := hv
  subst hsz
  have hD : va_D (wA 12 (fM cI cL cZ ad) ad wr s.heap.size σ) (wW 12 (fM cI cL cZ ad) ad σ ++ wr) := hD0.self (sz := s.heap.size)
  have hA : ∀ q : Nat, s.heap.size ≤ q → (wA 12 (fM cI cL cZ ad) ad wr s.heap.size σ) q := fun q h => Or.inr h
  have hN : NX (wA 12 (fM cI cL cZ ad) ad wr s.heap.size σ) s s.heap := hN
  generalize (wA 12 (fM cI cL cZ ad) ad wr s.heap.size σ) = A at hD hA hN ⊢
  have C : wC TB "PreferenceCountModel" c_M_status 2 (some .int) D cls (tyl cI cL cZ cS) A p s m ([.ref (ad 0), .int x1].toArray) meth c := ⟨B.exec, B.bytes, B.returns, B.notSynchronized, fun w hw => atoms_spec (ws := Cond.code y_M_status c_M_status 2 (some .int) :: TB) B.pre w (List.mem_cons_of_mem _ hw), findClass_of_methodNamed B.named, hml, hK, hN, hA⟩
  have hx := C.1
  have hb := C.2.1
  have hts := C.2.2.2.2.1
  have hown := C.2.2.2.2.2.1
  have hS : va_S A s.heap s.heap [] := va_S.rf
  have hl := lv_entry ([.ref (ad 0), .int x1]) (n := 2) (Nat.le_of_ble_eq_true rfl)
  rw [lg_entry_eq]
  generalize (lg_sl ([.ref (ad 0), .int x1]) ++ List.replicate (2 - (lg_sl ([.ref (ad 0), .int x1])).length) Slot.unset).toArray = ls at hl ⊢
  have hl : lv_has ls 2 [(0, .ref (ad 0)), (1, .int x1)] := hl
  have h : wp_M_isCandidate (fun r3 σ3 => (r3 = 0 → (wp_M_status_14 Q x1 (1 : Int32) σ3)) ∧ (¬ r3 = 0 → (wp_M_status_14 Q x1 (0 : Int32) σ3))) x1 σ := h
  refine lv_aload_n hx hb d_M_status_0 rfl (lv_at hl 0 rfl) ?_
  refine lv_aload_n hx hb d_M_status_1 rfl (lv_at hl 0 rfl) ?_
  refine lv_iload_n hx hb d_M_status_2 rfl (lv_at hl 1 rfl) ?_
  refine r_calli C hD hS (va_runV (As := [.int x1]) (rest := [.ref (ad 0)]) ⟨hx, hb, hml, hown, hts⟩ (m_M_isCandidate h) (cwV 1 hts (g_V kw_587 kw_589 kp_20 kw_7 kw_590) rfl rfl rfl (by decide +kernel) ⟨Nat.le_of_ble_eq_true rfl, Nat.le_of_ble_eq_true rfl⟩) (r_preV (o := 0) C hP hD hS (by decide) rfl rfl) rfl rfl hl.1 rfl (lv_room (Nat.le_of_ble_eq_true rfl)) d_M_status_3 ⟨Nat.le_of_ble_eq_true rfl, Nat.le_of_ble_eq_true rfl⟩) (fun r3 σ3 H locs h hP hD hS => ?_)
  refine lv_if_eq hx hb d_M_status_6 rfl (fun hc6 => ?_) (fun hc6 => ?_)
  · have h := h.1 hc6
    refine lv_iconst (v := 1) hx hb d_M_status_13 (by decide) ?_
    exact b_M_status_14 C h (lv_sub hl [0, 1] rfl) hP hD hS
  · have h := h.2 hc6
    refine lv_iconst (v := 0) hx hb d_M_status_9 (by decide) ?_
    refine lv_goto hx hb d_M_status_10 rfl ?_
    exact b_M_status_14 C h (lv_sub hl [0, 1] rfl) hP hD hS
def rm_M_columnOf : Room := { frames := 1, cells := 0, slots := 0, locals := 21 }
set_option maxHeartbeats 4000000 in
set_option maxRecDepth 100000 in
theorem b_M_columnOf_26 {p : Program} {l : Launch} {e : Env} {s : State} {m : MethodId} {args : Array Value} {below : List Frame} {meth : Method} {c : Code} {D : va_G} {cI cL cZ cS : ClassId} {ad : Nat → Nat} {wr : va_W} {A : Nat → Prop} {Q : Int32 → Mem → Prop} {t0 : Int32} {σ : Mem} {H : Heap} {locs : List Loc} {ls : Array Slot} (C : wC TB "PreferenceCountModel" c_M_columnOf 2 (some .int) D cls (tyl cI cL cZ cS) A p s m args meth c) (h : wp_M_columnOf_26 Q t0 σ) (hl : lv_has ls 2 []) (hP : va_P D cls (wW 12 (fM cI cL cZ ad) ad σ ++ wr) H) (hD : va_D A (wW 12 (fM cI cL cZ ad) ad σ ++ wr)) (hS : va_S A s.heap H locs) : W p l e (headSpec (Cond.code y_M_columnOf c_M_columnOf 2 (some .int) :: TB) rm_M_columnOf).room s m args below meth c H locs 0 0 (MQ below (va_Qi Q (wB D cls (tyl cI cL cZ cS) 12 (fM cI cL cZ ad) ad wr A) A) args s 0 0 A) (F0 m 26 ls [.int t0]) := by
  have hx := C.1
  have hb := C.2.1
  have hts := C.2.2.2.2.1
  have hown := C.2.2.2.2.2.1
  have hml := C.2.2.2.2.2.2.1
  have h : Q t0 σ := h
  exact r_iret C hP hD hS d_M_columnOf_26 h
set_option maxHeartbeats 4000000 in
set_option maxRecDepth 100000 in
theorem m_M_columnOf {l : Launch} {D : va_G} {cI cL cZ cS : ClassId} {ad : Nat → Nat} {wr : va_W} {sz : Nat} {Q : Int32 → Mem → Prop} {x1 : Int32} {σ : Mem} (h : wp_M_columnOf Q x1 σ) : Met l y_M_columnOf (Cond.code y_M_columnOf c_M_columnOf 2 (some .int) :: TB) rm_M_columnOf (wPc D cls (tyl cI cL cZ cS) 12 (fM cI cL cZ ad) ad wr sz σ [.ref (ad 0), .int x1]) (va_Qi Q (wB D cls (tyl cI cL cZ cS) 12 (fM cI cL cZ ad) ad wr (wA 12 (fM cI cL cZ ad) ad wr sz σ)) (wA 12 (fM cI cL cZ ad) ad wr sz σ)) 0 0 (wA 12 (fM cI cL cZ ad) ad wr sz σ) := by
  refine Met.ofW (cc := c_M_columnOf) (maxL := 2) (ret := (some .int)) (by decide) rfl ?_
  intro p e s m args below meth c s₁ B hml hv
  obtain ⟨rfl, hsz, hP, hK, hD0, hN⟩ := hv
  subst hsz
  have hD : va_D (wA 12 (fM cI cL cZ ad) ad wr s.heap.size σ) (wW 12 (fM cI cL cZ ad) ad σ ++ wr) := hD0.self (sz := s.heap.size)
  have hA : ∀ q : Nat, s.heap.size ≤ q → (wA 12 (fM cI cL cZ ad) ad wr s.heap.size σ) q := fun q h => Or.inr h
  have hN : NX (wA 12 (fM cI cL cZ ad) ad wr s.heap.size σ) s s.heap := hN
  generalize (wA 12 (fM cI cL cZ ad) ad wr s.heap.size σ) = A at hD hA hN ⊢
  have C : wC TB "PreferenceCountModel" c_M_columnOf 2 (some .int) D cls (tyl cI cL cZ cS) A p s m ([.ref (ad 0), .int x1].toArray) meth c := ⟨B.exec, B.bytes, B.returns, B.notSynchronized, fun w hw => atoms_spec (ws := Cond.code y_M_columnOf c_M_columnOf 2 (some .int) :: TB) B.pre w (List.mem_cons_of_mem _ hw), findClass_of_methodNamed B.named, hml, hK, hN, hA⟩
  have hx := C.1
  have hb := C.2.1
  have hts := C.2.2.2.2.1
  have hown := C.2.2.2.2.2.1
  have hS : va_S A s.heap s.heap [] := va_S.rf
  have hl := lv_entry ([.ref (ad 0), .int x1]) (n := 2) (Nat.le_of_ble_eq_true rfl)
  rw [lg_entry_eq]
  generalize (lg_sl ([.ref (ad 0), .int x1]) ++ List.replicate (2 - (lg_sl ([.ref (ad 0), .int x1])).length) Slot.unset).toArray = ls at hl ⊢
  have hl : lv_has ls 2 [(0, .ref (ad 0)), (1, .int x1)] := hl
  have h : (x1 = (σ.1 0 1) → (wp_M_columnOf_26 Q (12 : Int32) σ)) ∧ (¬ x1 = (σ.1 0 1) → (wp_M_isCandidate (fun r15 σ15 => (r15 = 0 → (wp_M_columnOf_26 Q (-1 : Int32) σ15)) ∧ (¬ r15 = 0 → (wp_M_columnOf_26 Q x1 σ15))) x1 σ)) := h
  refine lv_iload_n hx hb d_M_columnOf_0 rfl (lv_at hl 1 rfl) ?_
  refine lv_aload_n hx hb d_M_columnOf_1 rfl (lv_at hl 0 rfl) ?_
  refine r_get C ku_M hP (by decide) rfl rfl 1 (by decide) kw_510 rfl d_M_columnOf_2 ?_
  refine lv_icmp_ne hx hb d_M_columnOf_5 rfl (fun hc5 => ?_) (fun hc5 => ?_)
  · have h := h.2 hc5
    refine lv_aload_n hx hb d_M_columnOf_13 rfl (lv_at hl 0 rfl) ?_
    refine lv_iload_n hx hb d_M_columnOf_14 rfl (lv_at hl 1 rfl) ?_
    refine r_calli C hD hS (va_runV (As := [.int x1]) (rest := []) ⟨hx, hb, hml, hown, hts⟩ (m_M_isCandidate h) (cwV 1 hts (g_V kw_587 kw_589 kp_20 kw_7 kw_590) rfl rfl rfl (by decide +kernel) ⟨Nat.le_of_ble_eq_true rfl, Nat.le_of_ble_eq_true rfl⟩) (r_preV (o := 0) C hP hD hS (by decide) rfl rfl) rfl rfl hl.1 rfl (lv_room (Nat.le_of_ble_eq_true rfl)) d_M_columnOf_15 ⟨Nat.le_of_ble_eq_true rfl, Nat.le_of_ble_eq_true rfl⟩) (fun r15 σ15 H locs h hP hD hS => ?_)
    refine lv_if_eq hx hb d_M_columnOf_18 rfl (fun hc18 => ?_) (fun hc18 => ?_)
    · have h := h.1 hc18
      refine lv_iconst (v := (-1)) hx hb d_M_columnOf_25 (by decide) ?_
      exact b_M_columnOf_26 C h (lv_sub hl [] rfl) hP hD hS
    · have h := h.2 hc18
      refine lv_iload_n hx hb d_M_columnOf_21 rfl (lv_at hl 1 rfl) ?_
      refine lv_goto hx hb d_M_columnOf_22 rfl ?_
      exact b_M_columnOf_26 C h (lv_sub hl [] rfl) hP hD hS
  · have h := h.1 hc5
    refine lv_bipush (v := 12) hx hb d_M_columnOf_8 (by decide) ?_
    refine lv_goto hx hb d_M_columnOf_10 rfl ?_
    exact b_M_columnOf_26 C h (lv_sub hl [] rfl) hP hD hS
def rm_M_total : Room := { frames := 2, cells := 0, slots := 0, locals := 42 }
set_option maxHeartbeats 4000000 in
set_option maxRecDepth 100000 in
theorem b_M_total_74 {p : Program} {l : Launch} {e : Env} {s : State} {m : MethodId} {args : Array Value} {below : List Frame} {meth : Method} {c : Code} {D : va_G} {cI cL cZ cS : ClassId} {ad : Nat → Nat} {wr : va_W} {A : Nat → Prop} {Q : Int64 → Mem → Prop} {y6 : Int64} {u0 : Int64} {σ : Mem} {H : Heap} {locs : List Loc} {ls : Array Slot} (C : wC TB "PreferenceCountModel" c_M_total 8 (some .long) D cls (tyl cI cL cZ cS) A p s m args meth c) (h : wp_M_total_74 Q y6 u0 σ) (hl : lv_has ls 8 [(6, .long y6)]) (hP : va_P D cls (wW 12 (fM cI cL cZ ad) ad σ ++ wr) H) (hD : va_D A (wW 12 (fM cI cL cZ ad) ad σ ++ wr)) (hS : va_S A s.heap H locs) : W p l e (headSpec (Cond.code y_M_total c_M_total 8 (some .long) :: TB) rm_M_total).room s m args below meth c H locs 0 0 (MQ below (va_Ql Q (wB D cls (tyl cI cL cZ cS) 12 (fM cI cL cZ ad) ad wr A) A) args s 0 0 A) (F0 m 74 ls [.long u0]) := by
  have hx := C.1
  have hb := C.2.1
  have hts := C.2.2.2.2.1
  have hown := C.2.2.2.2.2.1
  have hml := C.2.2.2.2.2.2.1
  have h : (¬ y6 = 0) ∧ (Q (u0 / y6) σ) := h
  refine lv_lload hx hb d_M_total_74 (lv_at hl 0 rfl) ?_
  obtain ⟨hz76, h⟩ := h
  refine lv_ldiv hx hb d_M_total_76 hz76 ?_
  exact r_lret C hP hD hS d_M_total_77 h
set_option maxHeartbeats 4000000 in
set_option maxRecDepth 100000 in
theorem b_M_total_26 {p : Program} {l : Launch} {e : Env} {s : State} {m : MethodId} {args : Array Value} {below : List Frame} {meth : Method} {c : Code} {D : va_G} {cI cL cZ cS : ClassId} {ad : Nat → Nat} {wr : va_W} {A : Nat → Prop} {Q : Int64 → Mem → Prop} {x1 : Int32} {x2 : Int32} {x3 : Int32} {t0 : Int32} {σ : Mem} {H : Heap} {locs : List Loc} {ls : Array Slot} (C : wC TB "PreferenceCountModel" c_M_total 8 (some .long) D cls (tyl cI cL cZ cS) A p s m args meth c) (h : wp_M_total_26 Q x1 x2 x3 t0 σ) (hl : lv_has ls 8 [(0, .ref (ad 0)), (1, .int x1), (2, .int x2), (3, .int x3)]) (hP : va_P D cls (wW 12 (fM cI cL cZ ad) ad σ ++ wr) H) (hD : va_D A (wW 12 (fM cI cL cZ ad) ad σ ++ wr)) (hS : va_S A s.heap H locs) : W p l e (headSpec (Cond.code y_M_total c_M_total 8 (some .long) :: TB) rm_M_total).room s m args below meth c H locs 0 0 (MQ below (va_Ql Q (wB D cls (tyl cI cL cZ cS) 12 (fM cI cL cZ ad) ad wr A) A) args s 0 0 A) (F0 m 26 ls [.int t0, .ref (ad 0)]) := by
  have hx := C.1
  have hb := C.2.1
  have hts := C.2.2.2.2.1
  have hown := C.2.2.2.2.2.1
  have hml := C.2.2.2.2.2.2.1
  have h : wp_M_says (fun r26 σ26 => (r26 = 0 → (Q (0 : Int64) σ26)) ∧ (¬ r26 = 0 → (wp_M_columnOf (fun r38 σ38 => wp_M_at (fun r41 σ41 => vp_in x1 20 ∧ (wp_M_common (fun r54 σ54 => (x3 = 0 → (wp_M_total_74 Q r54 r41 σ54)) ∧ (¬ x3 = 0 → (vp_in x1 20 ∧ (wp_M_total_74 Q r54 (σ54.2 10 (Int32.toNatClampNeg x1)) σ54)))) (σ41.2 10 (Int32.toNatClampNeg x1)) r41 σ41)) x1 r38 σ38) x2 σ26))) t0 σ := h
  refine r_calli C hD hS (va_runV (As := [.int t0]) (rest := []) ⟨hx, hb, hml, hown, hts⟩ (m_M_says h) (cwV 1 hts (g_V kw_579 kw_581 kp_19 kw_7 kw_582) rfl rfl rfl (by decide +kernel) ⟨Nat.le_of_ble_eq_true rfl, Nat.le_of_ble_eq_true rfl⟩) (r_preV (o := 0) C hP hD hS (by decide) rfl rfl) rfl rfl hl.1 rfl (lv_room (Nat.le_of_ble_eq_true rfl)) d_M_total_26 ⟨Nat.le_of_ble_eq_true rfl, Nat.le_of_ble_eq_true rfl⟩) (fun r26 σ26 H locs h hP hD hS => ?_)
  refine lv_if_ne hx hb d_M_total_29 rfl (fun hc29 => ?_) (fun hc29 => ?_)
  · have h := h.2 hc29
    refine lv_aload_n hx hb d_M_total_34 rfl (lv_at hl 0 rfl) ?_
    refine lv_iload_n hx hb d_M_total_35 rfl (lv_at hl 1 rfl) ?_
    refine lv_aload_n hx hb d_M_total_36 rfl (lv_at hl 0 rfl) ?_
    refine lv_iload_n hx hb d_M_total_37 rfl (lv_at hl 2 rfl) ?_
    refine r_calli C hD hS (va_runV (As := [.int x2]) (rest := [.int x1, .ref (ad 0)]) ⟨hx, hb, hml, hown, hts⟩ (m_M_columnOf h) (cwV 1 hts (g_V kw_687 kw_689 kp_35 kw_7 kw_690) rfl rfl rfl (by decide +kernel) ⟨Nat.le_of_ble_eq_true rfl, Nat.le_of_ble_eq_true rfl⟩) (r_preV (o := 0) C hP hD hS (by decide) rfl rfl) rfl rfl hl.1 rfl (lv_room (Nat.le_of_ble_eq_true rfl)) d_M_total_38 ⟨Nat.le_of_ble_eq_true rfl, Nat.le_of_ble_eq_true rfl⟩) (fun r38 σ38 H locs h hP hD hS => ?_)
    refine r_calll C hD hS (va_runV (As := [.int x1, .int r38]) (rest := []) ⟨hx, hb, hml, hown, hts⟩ (m_M_at h) (cwV 2 hts (g_V kw_647 kw_649 kp_30 kw_7 kw_650) rfl rfl rfl (by decide +kernel) ⟨Nat.le_of_ble_eq_true rfl, Nat.le_of_ble_eq_true rfl⟩) (r_preV (o := 0) C hP hD hS (by decide) rfl rfl) rfl rfl hl.1 rfl (lv_room (Nat.le_of_ble_eq_true rfl)) d_M_total_41 ⟨Nat.le_of_ble_eq_true rfl, Nat.le_of_ble_eq_true rfl⟩) (fun r41 σ41 H locs h hP hD hS => ?_)
    refine lv_lstore (lv' := [(4, .long r41), (0, .ref (ad 0)), (1, .int x1), (2, .int x2), (3, .int x3)]) hx hb d_M_total_44 hl (by decide) rfl (fun ls hl => ?_)
    refine lv_aload_n hx hb d_M_total_46 rfl (lv_at hl 1 rfl) ?_
    refine r_get C ku_M hP (by decide) rfl rfl 17 (by decide) kw_526 rfl d_M_total_47 ?_
    refine lv_iload_n hx hb d_M_total_50 rfl (lv_at hl 2 rfl) ?_
    obtain ⟨hi51, h⟩ := h
    refine r_lald C hP (by decide) rfl rfl hi51 d_M_total_51 ?_
    refine lv_lload hx hb d_M_total_52 (lv_at hl 0 rfl) ?_
    refine r_calll C hD hS (va_runS (As := [.long (σ41.2 10 (Int32.toNatClampNeg x1)), .long r41]) (rest := []) ⟨hx, hb, hml, hown, hts⟩ (m_M_common h) (va_cwS 2 hts (g_S kw_632 kw_633 kw_7 kw_634) rfl rfl rfl (by decide +kernel) ⟨Nat.le_of_ble_eq_true rfl, Nat.le_of_ble_eq_true rfl⟩) (r_preS C hP hD hS) rfl rfl hl.1 rfl (lv_room (Nat.le_of_ble_eq_true rfl)) d_M_total_54 ⟨Nat.le_of_ble_eq_true rfl, Nat.le_of_ble_eq_true rfl⟩) (fun r54 σ54 H locs h hP hD hS => ?_)
    refine lv_lstore (lv' := [(6, .long r54), (4, .long r41), (0, .ref (ad 0)), (1, .int x1), (2, .int x2), (3, .int x3)]) hx hb d_M_total_57 hl (by decide) rfl (fun ls hl => ?_)
    refine lv_iload_n hx hb d_M_total_59 rfl (lv_at hl 5 rfl) ?_
    refine lv_if_eq hx hb d_M_total_60 rfl (fun hc60 => ?_) (fun hc60 => ?_)
    · have h := h.1 hc60
      refine lv_lload hx hb d_M_total_72 (lv_at hl 1 rfl) ?_
      exact b_M_total_74 C h (lv_sub hl [0] rfl) hP hD hS
    · have h := h.2 hc60
      refine lv_aload_n hx hb d_M_total_63 rfl (lv_at hl 2 rfl) ?_
      refine r_get C ku_M hP (by decide) rfl rfl 17 (by decide) kw_526 rfl d_M_total_64 ?_
      refine lv_iload_n hx hb d_M_total_67 rfl (lv_at hl 3 rfl) ?_
      obtain ⟨hi68, h⟩ := h
      refine r_lald C hP (by decide) rfl rfl hi68 d_M_total_68 ?_
      refine lv_goto hx hb d_M_total_69 rfl ?_
      exact b_M_total_74 C h (lv_sub hl [0] rfl) hP hD hS
  · have h := h.1 hc29
    refine lv_lconst (v := 0) hx hb d_M_total_32 (by decide) ?_
    exact r_lret C hP hD hS d_M_total_33 h
set_option maxHeartbeats 4000000 in
set_option maxRecDepth 100000 in
theorem b_M_total_25 {p : Program} {l : Launch} {e : Env} {s : State} {m : MethodId} {args : Array Value} {below : List Frame} {meth : Method} {c : Code} {D : va_G} {cI cL cZ cS : ClassId} {ad : Nat → Nat} {wr : va_W} {A : Nat → Prop} {Q : Int64 → Mem → Prop} {x1 : Int32} {x2 : Int32} {x3 : Int32} {σ : Mem} {H : Heap} {locs : List Loc} {ls : Array Slot} (C : wC TB "PreferenceCountModel" c_M_total 8 (some .long) D cls (tyl cI cL cZ cS) A p s m args meth c) (h : wp_M_total_25 Q x1 x2 x3 σ) (hl : lv_has ls 8 [(0, .ref (ad 0)), (1, .int x1), (2, .int x2), (3, .int x3)]) (hP : va_P D cls (wW 12 (fM cI cL cZ ad) ad σ ++ wr) H) (hD : va_D A (wW 12 (fM cI cL cZ ad) ad σ ++ wr)) (hS : va_S A s.heap H locs) : W p l e (headSpec (Cond.code y_M_total c_M_total 8 (some .long) :: TB) rm_M_total).room s m args below meth c H locs 0 0 (MQ below (va_Ql Q (wB D cls (tyl cI cL cZ cS) 12 (fM cI cL cZ ad) ad wr A) A) args s 0 0 A) (F0 m 25 ls [.ref (ad 0)]) := by
  have hx := C.1
  have hb := C.2.1
  have hts := C.2.2.2.2.1
  have hown := C.2.2.2.2.2.1
  have hml := C.2.2.2.2.2.2.1
  have h : wp_M_total_26 Q x1 x2 x3 (1 : Int32) σ := h
  refine lv_iconst (v := 1) hx hb d_M_total_25 (by decide) ?_
  exact b_M_total_26 C h (lv_sub hl [0, 1, 2, 3] rfl) hP hD hS
set_option maxHeartbeats 4000000 in
set_option maxRecDepth 100000 in
theorem m_M_total {l : Launch} {D : va_G} {cI cL cZ cS : ClassId} {ad : Nat → Nat} {wr : va_W} {sz : Nat} {Q : Int64 → Mem → Prop} {x1 : Int32} {x2 : Int32} {x3 : Int32} {σ : Mem} (h : wp_M_total Q x1 x2 x3 σ) : Met l y_M_total (Cond.code y_M_total c_M_total 8 (some .long) :: TB) rm_M_total (wPc D cls (tyl cI cL cZ cS) 12 (fM cI cL cZ ad) ad wr sz σ [.ref (ad 0), .int x1, .int x2, .int x3]) (va_Ql Q (wB D cls (tyl cI cL cZ cS) 12 (fM cI cL cZ ad) ad wr (wA 12 (fM cI cL cZ ad) ad wr sz σ)) (wA 12 (fM cI cL cZ ad) ad wr sz σ)) 0 0 (wA 12 (fM cI cL cZ ad) ad wr sz σ) := by
  refine Met.ofW (cc := c_M_total) (maxL := 8) (ret := (some .long)) (by decide) rfl ?_
  intro p e s m args below meth c s₁ B hml hv
  obtain ⟨rfl, hsz, hP, hK, hD0, hN⟩ := hv
  subst hsz
  have hD : va_D (wA 12 (fM cI cL cZ ad) ad wr s.heap.size σ) (wW 12 (fM cI cL cZ ad) ad σ ++ wr) := hD0.self (sz := s.heap.size)
  have hA : ∀ q : Nat, s.heap.size ≤ q → (wA 12 (fM cI cL cZ ad) ad wr s.heap.size σ) q := fun q h => Or.inr h
  have hN : NX (wA 12 (fM cI cL cZ ad) ad wr s.heap.size σ) s s.heap := hN
  generalize (wA 12 (fM cI cL cZ ad) ad wr s.heap.size σ) = A at hD hA hN ⊢
  have C : wC TB "PreferenceCountModel" c_M_total 8 (some .long) D cls (tyl cI cL cZ cS) A p s m ([.ref (ad 0), .int x1, .int x2, .int x3].toArray) meth c := ⟨B.exec, B.bytes, B.returns, B.notSynchronized, fun w hw => atoms_spec (ws := Cond.code y_M_total c_M_total 8 (some .long) :: TB) B.pre w (List.mem_cons_of_mem _ hw), findClass_of_methodNamed B.named, hml, hK, hN, hA⟩
  have hx := C.1
  have hb := C.2.1
  have hts := C.2.2.2.2.1
  have hown := C.2.2.2.2.2.1
  have hS : va_S A s.heap s.heap [] := va_S.rf
  have hl := lv_entry ([.ref (ad 0), .int x1, .int x2, .int x3]) (n := 8) (Nat.le_of_ble_eq_true rfl)
  rw [lg_entry_eq]
  generalize (lg_sl ([.ref (ad 0), .int x1, .int x2, .int x3]) ++ List.replicate (8 - (lg_sl ([.ref (ad 0), .int x1, .int x2, .int x3])).length) Slot.unset).toArray = ls at hl ⊢
  have hl : lv_has ls 8 [(0, .ref (ad 0)), (1, .int x1), (2, .int x2), (3, .int x3)] := hl
  have h : (x1 < 0 → (wp_M_total_25 Q x1 x2 x3 σ)) ∧ (¬ x1 < 0 → (((σ.1 0 15) < x1 → (wp_M_total_25 Q x1 x2 x3 σ)) ∧ (¬ (σ.1 0 15) < x1 → (wp_M_columnOf (fun r15 σ15 => (r15 < 0 → (wp_M_total_25 Q x1 x2 x3 σ15)) ∧ (¬ r15 < 0 → (wp_M_total_26 Q x1 x2 x3 (0 : Int32) σ15))) x2 σ)))) := h
  refine lv_aload_n hx hb d_M_total_0 rfl (lv_at hl 0 rfl) ?_
  refine lv_iload_n hx hb d_M_total_1 rfl (lv_at hl 1 rfl) ?_
  refine lv_if_lt hx hb d_M_total_2 rfl (fun hc2 => ?_) (fun hc2 => ?_)
  · have h := h.1 hc2
    exact b_M_total_25 C h (lv_sub hl [0, 1, 2, 3] rfl) hP hD hS
  · have h := h.2 hc2
    refine lv_iload_n hx hb d_M_total_5 rfl (lv_at hl 1 rfl) ?_
    refine lv_aload_n hx hb d_M_total_6 rfl (lv_at hl 0 rfl) ?_
    refine r_get C ku_M hP (by decide) rfl rfl 15 (by decide) kw_524 rfl d_M_total_7 ?_
    refine lv_icmp_gt hx hb d_M_total_10 rfl (fun hc10 => ?_) (fun hc10 => ?_)
    · have h := h.1 hc10
      exact b_M_total_25 C h (lv_sub hl [0, 1, 2, 3] rfl) hP hD hS
    · have h := h.2 hc10
      refine lv_aload_n hx hb d_M_total_13 rfl (lv_at hl 0 rfl) ?_
      refine lv_iload_n hx hb d_M_total_14 rfl (lv_at hl 2 rfl) ?_
      refine r_calli C hD hS (va_runV (As := [.int x2]) (rest := [.ref (ad 0)]) ⟨hx, hb, hml, hown, hts⟩ (m_M_columnOf h) (cwV 1 hts (g_V kw_687 kw_689 kp_35 kw_7 kw_690) rfl rfl rfl (by decide +kernel) ⟨Nat.le_of_ble_eq_true rfl, Nat.le_of_ble_eq_true rfl⟩) (r_preV (o := 0) C hP hD hS (by decide) rfl rfl) rfl rfl hl.1 rfl (lv_room (Nat.le_of_ble_eq_true rfl)) d_M_total_15 ⟨Nat.le_of_ble_eq_true rfl, Nat.le_of_ble_eq_true rfl⟩) (fun r15 σ15 H locs h hP hD hS => ?_)
      refine lv_if_lt hx hb d_M_total_18 rfl (fun hc18 => ?_) (fun hc18 => ?_)
      · have h := h.1 hc18
        exact b_M_total_25 C h (lv_sub hl [0, 1, 2, 3] rfl) hP hD hS
      · have h := h.2 hc18
        refine lv_iconst (v := 0) hx hb d_M_total_21 (by decide) ?_
        refine lv_goto hx hb d_M_total_22 rfl ?_
        exact b_M_total_26 C h (lv_sub hl [0, 1, 2, 3] rfl) hP hD hS
def rm_M_papers : Room := { frames := 2, cells := 0, slots := 0, locals := 42 }
set_option maxHeartbeats 4000000 in
set_option maxRecDepth 100000 in
theorem b_M_papers_61 {p : Program} {l : Launch} {e : Env} {s : State} {m : MethodId} {args : Array Value} {below : List Frame} {meth : Method} {c : Code} {D : va_G} {cI cL cZ cS : ClassId} {ad : Nat → Nat} {wr : va_W} {A : Nat → Prop} {Q : Int32 → Mem → Prop} {K33 : Int32 → Int32 → Int32 → Mem → Prop} {x1 : Int32} {x3 : Int32} {t0 : Int32} {t1 : Int32} {σ : Mem} {H : Heap} {locs : List Loc} {ls : Array Slot} (C : wC TB "PreferenceCountModel" c_M_papers 4 (some .int) D cls (tyl cI cL cZ cS) A p s m args meth c) (hK33 : ∀ {σ : Mem} {H : Heap} {locs : List Loc} {ls : Array Slot} {x1 : Int32} {x2 : Int32} {x3 : Int32}, K33 x1 x2 x3 σ → lv_has ls 4 [(0, .ref (ad 0)), (1, .int x1), (2, .int x2), (3, .int x3)] → va_P D cls (wW 12 (fM cI cL cZ ad) ad σ ++ wr) H → va_D A (wW 12 (fM cI cL cZ ad) ad σ ++ wr) → va_S A s.heap H locs → W p l e (headSpec (Cond.code y_M_papers c_M_papers 4 (some .int) :: TB) rm_M_papers).room s m args below meth c H locs 0 0 (MQ below (va_Qi Q (wB D cls (tyl cI cL cZ cS) 12 (fM cI cL cZ ad) ad wr A) A) args s 0 0 A) (F0 m 33 ls [])) (h : wp_M_papers_61 Q K33 x1 x3 t0 t1 σ) (hl : lv_has ls 4 [(0, .ref (ad 0)), (1, .int x1), (3, .int x3)]) (hP : va_P D cls (wW 12 (fM cI cL cZ ad) ad σ ++ wr) H) (hD : va_D A (wW 12 (fM cI cL cZ ad) ad σ ++ wr)) (hS : va_S A s.heap H locs) : W p l e (headSpec (Cond.code y_M_papers c_M_papers 4 (some .int) :: TB) rm_M_papers).room s m args below meth c H locs 0 0 (MQ below (va_Qi Q (wB D cls (tyl cI cL cZ cS) 12 (fM cI cL cZ ad) ad wr A) A) args s 0 0 A) (F0 m 61 ls [.int t0, .int t1]) := by
  have hx := C.1
  have hb := C.2.1
  have hts := C.2.2.2.2.1
  have hown := C.2.2.2.2.2.1
  have hml := C.2.2.2.2.2.2.1
  have h : ∀ v62 : Int32, v62 = (t1 + t0) → (∀ v63 : Int32, v63 = (x3 + 1) → (K33 x1 v62 v63 σ)) := h
  refine lv_iadd hx hb d_M_papers_61 ?_
  refine lv_topi (fun v62 e62 => ?_)
  have h := h v62 e62
  refine lv_istore_n (lv' := [(2, .int v62), (0, .ref (ad 0)), (1, .int x1), (3, .int x3)]) hx hb d_M_papers_62 rfl hl (by decide) rfl (fun ls hl => ?_)
  obtain ⟨v63, e63⟩ : ∃ z : Int32, z = (x3 + 1) := ⟨_, rfl⟩
  have h := h v63 e63
  refine lv_iinc (k := 3) (v := v63) (lv' := [(3, .int v63), (2, .int v62), (0, .ref (ad 0)), (1, .int x1)]) hx hb d_M_papers_63 hl rfl (by rw [e63] <;> rfl) (by decide) rfl (fun ls hl => ?_)
  refine lv_goto hx hb d_M_papers_66 rfl ?_
  exact hK33 h (lv_sub hl [2, 3, 1, 0] rfl) hP hD hS
set_option maxHeartbeats 4000000 in
set_option maxRecDepth 100000 in
theorem b_M_papers_33 {p : Program} {l : Launch} {e : Env} {s : State} {m : MethodId} {args : Array Value} {below : List Frame} {meth : Method} {c : Code} {D : va_G} {cI cL cZ cS : ClassId} {ad : Nat → Nat} {wr : va_W} {A : Nat → Prop} {Q : Int32 → Mem → Prop} (C : wC TB "PreferenceCountModel" c_M_papers 4 (some .int) D cls (tyl cI cL cZ cS) A p s m args meth c) : ∀ (n : Nat) {σ : Mem} {H : Heap} {locs : List Loc} {ls : Array Slot} {x1 : Int32} {x2 : Int32} {x3 : Int32}, wp_M_papers_33 Q n x1 x2 x3 σ → lv_has ls 4 [(0, .ref (ad 0)), (1, .int x1), (2, .int x2), (3, .int x3)] → va_P D cls (wW 12 (fM cI cL cZ ad) ad σ ++ wr) H → va_D A (wW 12 (fM cI cL cZ ad) ad σ ++ wr) → va_S A s.heap H locs → W p l e (headSpec (Cond.code y_M_papers c_M_papers 4 (some .int) :: TB) rm_M_papers).room s m args below meth c H locs 0 0 (MQ below (va_Qi Q (wB D cls (tyl cI cL cZ cS) 12 (fM cI cL cZ ad) ad wr A) A) args s 0 0 A) (F0 m 33 ls []) := by
  have hx := C.1
  have hb := C.2.1
  have hts := C.2.2.2.2.1
  have hown := C.2.2.2.2.2.1
  have hml := C.2.2.2.2.2.2.1
  intro n
  induction n with
  | zero => intro σ H locs ls x1 x2 x3 h; exact h.elim
  | succ j33 ih =>
    intro σ H locs ls x1 x2 x3 h hl hP hD hS
    have hK33 := @ih
    have h : ((σ.1 0 7) ≤ x3 → (Q x2 σ)) ∧ (¬ (σ.1 0 7) ≤ x3 → (vp_in x3 50 ∧ (wp_M_columnOf (fun r50 σ50 => ((σ.1 6 (Int32.toNatClampNeg x3)) = r50 → (wp_M_papers_61 Q (wp_M_papers_33 Q j33) x1 x3 (1 : Int32) x2 σ50)) ∧ (¬ (σ.1 6 (Int32.toNatClampNeg x3)) = r50 → (wp_M_papers_61 Q (wp_M_papers_33 Q j33) x1 x3 (0 : Int32) x2 σ50))) x1 σ))) := h
    refine lv_iload_n hx hb d_M_papers_33 rfl (lv_at hl 3 rfl) ?_
    refine lv_aload_n hx hb d_M_papers_34 rfl (lv_at hl 0 rfl) ?_
    refine r_get C ku_M hP (by decide) rfl rfl 7 (by decide) kw_516 rfl d_M_papers_35 ?_
    refine lv_icmp_ge hx hb d_M_papers_38 rfl (fun hc38 => ?_) (fun hc38 => ?_)
    · have h := h.1 hc38
      refine lv_iload_n hx hb d_M_papers_69 rfl (lv_at hl 2 rfl) ?_
      exact r_iret C hP hD hS d_M_papers_70 h
    · have h := h.2 hc38
      refine lv_iload_n hx hb d_M_papers_41 rfl (lv_at hl 2 rfl) ?_
      refine lv_aload_n hx hb d_M_papers_42 rfl (lv_at hl 0 rfl) ?_
      refine r_get C ku_M hP (by decide) rfl rfl 11 (by decide) kw_520 rfl d_M_papers_43 ?_
      refine lv_iload_n hx hb d_M_papers_46 rfl (lv_at hl 3 rfl) ?_
      obtain ⟨hi47, h⟩ := h
      refine r_iald C hP (by decide) rfl rfl hi47 d_M_papers_47 ?_
      refine lv_aload_n hx hb d_M_papers_48 rfl (lv_at hl 0 rfl) ?_
      refine lv_iload_n hx hb d_M_papers_49 rfl (lv_at hl 1 rfl) ?_
      refine r_calli C hD hS (va_runV (As := [.int x1]) (rest := [.int (σ.1 6 (Int32.toNatClampNeg x3)), .int x2]) ⟨hx, hb, hml, hown, hts⟩ (m_M_columnOf h) (cwV 1 hts (g_V kw_687 kw_689 kp_35 kw_7 kw_690) rfl rfl rfl (by decide +kernel) ⟨Nat.le_of_ble_eq_true rfl, Nat.le_of_ble_eq_true rfl⟩) (r_preV (o := 0) C hP hD hS (by decide) rfl rfl) rfl rfl hl.1 rfl (lv_room (Nat.le_of_ble_eq_true rfl)) d_M_papers_50 ⟨Nat.le_of_ble_eq_true rfl, Nat.le_of_ble_eq_true rfl⟩) (fun r50 σ50 H locs h hP hD hS => ?_)
      refine lv_icmp_ne hx hb d_M_papers_53 rfl (fun hc53 => ?_) (fun hc53 => ?_)
      · have h := h.2 hc53
        refine lv_iconst (v := 0) hx hb d_M_papers_60 (by decide) ?_
        exact b_M_papers_61 C hK33 h (lv_sub hl [0, 1, 3] rfl) hP hD hS
      · have h := h.1 hc53
        refine lv_iconst (v := 1) hx hb d_M_papers_56 (by decide) ?_
        refine lv_goto hx hb d_M_papers_57 rfl ?_
        exact b_M_papers_61 C hK33 h (lv_sub hl [0, 1, 3] rfl) hP hD hS
set_option maxHeartbeats 4000000 in
set_option maxRecDepth 100000 in
theorem b_M_papers_27 {p : Program} {l : Launch} {e : Env} {s : State} {m : MethodId} {args : Array Value} {below : List Frame} {meth : Method} {c : Code} {D : va_G} {cI cL cZ cS : ClassId} {ad : Nat → Nat} {wr : va_W} {A : Nat → Prop} {Q : Int32 → Mem → Prop} {σ : Mem} {H : Heap} {locs : List Loc} {ls : Array Slot} (C : wC TB "PreferenceCountModel" c_M_papers 4 (some .int) D cls (tyl cI cL cZ cS) A p s m args meth c) (h : wp_M_papers_27 Q σ) (hl : lv_has ls 4 []) (hP : va_P D cls (wW 12 (fM cI cL cZ ad) ad σ ++ wr) H) (hD : va_D A (wW 12 (fM cI cL cZ ad) ad σ ++ wr)) (hS : va_S A s.heap H locs) : W p l e (headSpec (Cond.code y_M_papers c_M_papers 4 (some .int) :: TB) rm_M_papers).room s m args below meth c H locs 0 0 (MQ below (va_Qi Q (wB D cls (tyl cI cL cZ cS) 12 (fM cI cL cZ ad) ad wr A) A) args s 0 0 A) (F0 m 27 ls []) := by
  have hx := C.1
  have hb := C.2.1
  have hts := C.2.2.2.2.1
  have hown := C.2.2.2.2.2.1
  have hml := C.2.2.2.2.2.2.1
  have h : Q (0 : Int32) σ := h
  refine lv_iconst (v := 0) hx hb d_M_papers_27 (by decide) ?_
  exact r_iret C hP hD hS d_M_papers_28 h
set_option maxHeartbeats 4000000 in
set_option maxRecDepth 100000 in
theorem b_M_papers_14 {p : Program} {l : Launch} {e : Env} {s : State} {m : MethodId} {args : Array Value} {below : List Frame} {meth : Method} {c : Code} {D : va_G} {cI cL cZ cS : ClassId} {ad : Nat → Nat} {wr : va_W} {A : Nat → Prop} {Q : Int32 → Mem → Prop} {x1 : Int32} {t0 : Int32} {σ : Mem} {H : Heap} {locs : List Loc} {ls : Array Slot} (C : wC TB "PreferenceCountModel" c_M_papers 4 (some .int) D cls (tyl cI cL cZ cS) A p s m args meth c) (h : wp_M_papers_14 Q x1 t0 σ) (hl : lv_has ls 4 [(0, .ref (ad 0)), (1, .int x1)]) (hP : va_P D cls (wW 12 (fM cI cL cZ ad) ad σ ++ wr) H) (hD : va_D A (wW 12 (fM cI cL cZ ad) ad σ ++ wr)) (hS : va_S A s.heap H locs) : W p l e (headSpec (Cond.code y_M_papers c_M_papers 4 (some .int) :: TB) rm_M_papers).room s m args below meth c H locs 0 0 (MQ below (va_Qi Q (wB D cls (tyl cI cL cZ cS) 12 (fM cI cL cZ ad) ad wr A) A) args s 0 0 A) (F0 m 14 ls [.int t0, .ref (ad 0)]) := by
  have hx := C.1
  have hb := C.2.1
  have hts := C.2.2.2.2.1
  have hown := C.2.2.2.2.2.1
  have hml := C.2.2.2.2.2.2.1
  have h : wp_M_says (fun r14 σ14 => (r14 = 0 → (wp_M_papers_27 Q σ14)) ∧ (¬ r14 = 0 → ((0 ≤ (σ14.1 0 15) → (∃ k33 : Nat, wp_M_papers_33 Q k33 x1 (0 : Int32) (0 : Int32) σ14)) ∧ (¬ 0 ≤ (σ14.1 0 15) → (wp_M_papers_27 Q σ14))))) t0 σ := h
  refine r_calli C hD hS (va_runV (As := [.int t0]) (rest := []) ⟨hx, hb, hml, hown, hts⟩ (m_M_says h) (cwV 1 hts (g_V kw_579 kw_581 kp_19 kw_7 kw_582) rfl rfl rfl (by decide +kernel) ⟨Nat.le_of_ble_eq_true rfl, Nat.le_of_ble_eq_true rfl⟩) (r_preV (o := 0) C hP hD hS (by decide) rfl rfl) rfl rfl hl.1 rfl (lv_room (Nat.le_of_ble_eq_true rfl)) d_M_papers_14 ⟨Nat.le_of_ble_eq_true rfl, Nat.le_of_ble_eq_true rfl⟩) (fun r14 σ14 H locs h hP hD hS => ?_)
  refine lv_if_eq hx hb d_M_papers_17 rfl (fun hc17 => ?_) (fun hc17 => ?_)
  · have h := h.1 hc17
    exact b_M_papers_27 C h (lv_sub hl [] rfl) hP hD hS
  · have h := h.2 hc17
    refine lv_aload_n hx hb d_M_papers_20 rfl (lv_at hl 0 rfl) ?_
    refine r_get C ku_M hP (by decide) rfl rfl 15 (by decide) kw_524 rfl d_M_papers_21 ?_
    refine lv_if_ge hx hb d_M_papers_24 rfl (fun hc24 => ?_) (fun hc24 => ?_)
    · have h := h.1 hc24
      refine lv_iconst (v := 0) hx hb d_M_papers_29 (by decide) ?_
      refine lv_istore_n (lv' := [(2, .int (0 : Int32)), (0, .ref (ad 0)), (1, .int x1)]) hx hb d_M_papers_30 rfl hl (by decide) rfl (fun ls hl => ?_)
      refine lv_iconst (v := 0) hx hb d_M_papers_31 (by decide) ?_
      refine lv_istore_n (lv' := [(3, .int (0 : Int32)), (2, .int (0 : Int32)), (0, .ref (ad 0)), (1, .int x1)]) hx hb d_M_papers_32 rfl hl (by decide) rfl (fun ls hl => ?_)
      obtain ⟨n, h⟩ := h
      exact b_M_papers_33 C n h (lv_sub hl [2, 3, 1, 0] rfl) hP hD hS
    · have h := h.2 hc24
      exact b_M_papers_27 C h (lv_sub hl [] rfl) hP hD hS
set_option maxHeartbeats 4000000 in
set_option maxRecDepth 100000 in
theorem m_M_papers {l : Launch} {D : va_G} {cI cL cZ cS : ClassId} {ad : Nat → Nat} {wr : va_W} {sz : Nat} {Q : Int32 → Mem → Prop} {x1 : Int32} {σ : Mem} (h : wp_M_papers Q x1 σ) : Met l y_M_papers (Cond.code y_M_papers c_M_papers 4 (some .int) :: TB) rm_M_papers (wPc D cls (tyl cI cL cZ cS) 12 (fM cI cL cZ ad) ad wr sz σ [.ref (ad 0), .int x1]) (va_Qi Q (wB D cls (tyl cI cL cZ cS) 12 (fM cI cL cZ ad) ad wr (wA 12 (fM cI cL cZ ad) ad wr sz σ)) (wA 12 (fM cI cL cZ ad) ad wr sz σ)) 0 0 (wA 12 (fM cI cL cZ ad) ad wr sz σ) := by
  refine Met.ofW (cc := c_M_papers) (maxL := 4) (ret := (some .int)) (by decide) rfl ?_
  intro p e s m args below meth c s₁ B hml hv
  obtain ⟨rfl, hsz, hP, hK, hD0, hN⟩ := hv
  subst hsz
  have hD : va_D (wA 12 (fM cI cL cZ ad) ad wr s.heap.size σ) (wW 12 (fM cI cL cZ ad) ad σ ++ wr) := hD0.self (sz := s.heap.size)
  have hA : ∀ q : Nat, s.heap.size ≤ q → (wA 12 (fM cI cL cZ ad) ad wr s.heap.size σ) q := fun q h => Or.inr h
  have hN : NX (wA 12 (fM cI cL cZ ad) ad wr s.heap.size σ) s s.heap := hN
  generalize (wA 12 (fM cI cL cZ ad) ad wr s.heap.size σ) = A at hD hA hN ⊢
  have C : wC TB "PreferenceCountModel" c_M_papers 4 (some .int) D cls (tyl cI cL cZ cS) A p s m ([.ref (ad 0), .int x1].toArray) meth c := ⟨B.exec, B.bytes, B.returns, B.notSynchronized, fun w hw => atoms_spec (ws := Cond.code y_M_papers c_M_papers 4 (some .int) :: TB) B.pre w (List.mem_cons_of_mem _ hw), findClass_of_methodNamed B.named, hml, hK, hN, hA⟩
  have hx := C.1
  have hb := C.2.1
  have hts := C.2.2.2.2.1
  have hown := C.2.2.2.2.2.1
  have hS : va_S A s.heap s.heap [] := va_S.rf
  have hl := lv_entry ([.ref (ad 0), .int x1]) (n := 4) (Nat.le_of_ble_eq_true rfl)
  rw [lg_entry_eq]
  generalize (lg_sl ([.ref (ad 0), .int x1]) ++ List.replicate (4 - (lg_sl ([.ref (ad 0), .int x1])).length) Slot.unset).toArray = ls at hl ⊢
  have hl : lv_has ls 4 [(0, .ref (ad 0)), (1, .int x1)] := hl
  have h : wp_M_columnOf (fun r3 σ3 => (r3 < 0 → (wp_M_papers_14 Q x1 (1 : Int32) σ3)) ∧ (¬ r3 < 0 → (wp_M_papers_14 Q x1 (0 : Int32) σ3))) x1 σ := h
  refine lv_aload_n hx hb d_M_papers_0 rfl (lv_at hl 0 rfl) ?_
  refine lv_aload_n hx hb d_M_papers_1 rfl (lv_at hl 0 rfl) ?_
  refine lv_iload_n hx hb d_M_papers_2 rfl (lv_at hl 1 rfl) ?_
  refine r_calli C hD hS (va_runV (As := [.int x1]) (rest := [.ref (ad 0)]) ⟨hx, hb, hml, hown, hts⟩ (m_M_columnOf h) (cwV 1 hts (g_V kw_687 kw_689 kp_35 kw_7 kw_690) rfl rfl rfl (by decide +kernel) ⟨Nat.le_of_ble_eq_true rfl, Nat.le_of_ble_eq_true rfl⟩) (r_preV (o := 0) C hP hD hS (by decide) rfl rfl) rfl rfl hl.1 rfl (lv_room (Nat.le_of_ble_eq_true rfl)) d_M_papers_3 ⟨Nat.le_of_ble_eq_true rfl, Nat.le_of_ble_eq_true rfl⟩) (fun r3 σ3 H locs h hP hD hS => ?_)
  refine lv_if_lt hx hb d_M_papers_6 rfl (fun hc6 => ?_) (fun hc6 => ?_)
  · have h := h.1 hc6
    refine lv_iconst (v := 1) hx hb d_M_papers_13 (by decide) ?_
    exact b_M_papers_14 C h (lv_sub hl [0, 1] rfl) hP hD hS
  · have h := h.2 hc6
    refine lv_iconst (v := 0) hx hb d_M_papers_9 (by decide) ?_
    refine lv_goto hx hb d_M_papers_10 rfl ?_
    exact b_M_papers_14 C h (lv_sub hl [0, 1] rfl) hP hD hS
def rm_M_moved : Room := { frames := 2, cells := 0, slots := 0, locals := 42 }
set_option maxHeartbeats 4000000 in
set_option maxRecDepth 100000 in
theorem b_M_moved_26 {p : Program} {l : Launch} {e : Env} {s : State} {m : MethodId} {args : Array Value} {below : List Frame} {meth : Method} {c : Code} {D : va_G} {cI cL cZ cS : ClassId} {ad : Nat → Nat} {wr : va_W} {A : Nat → Prop} {Q : Int32 → Mem → Prop} {x1 : Int32} {x2 : Int32} {t0 : Int32} {σ : Mem} {H : Heap} {locs : List Loc} {ls : Array Slot} (C : wC TB "PreferenceCountModel" c_M_moved 3 (some .int) D cls (tyl cI cL cZ cS) A p s m args meth c) (h : wp_M_moved_26 Q x1 x2 t0 σ) (hl : lv_has ls 3 [(0, .ref (ad 0)), (1, .int x1), (2, .int x2)]) (hP : va_P D cls (wW 12 (fM cI cL cZ ad) ad σ ++ wr) H) (hD : va_D A (wW 12 (fM cI cL cZ ad) ad σ ++ wr)) (hS : va_S A s.heap H locs) : W p l e (headSpec (Cond.code y_M_moved c_M_moved 3 (some .int) :: TB) rm_M_moved).room s m args below meth c H locs 0 0 (MQ below (va_Qi Q (wB D cls (tyl cI cL cZ cS) 12 (fM cI cL cZ ad) ad wr A) A) args s 0 0 A) (F0 m 26 ls [.int t0, .ref (ad 0)]) := by
  have hx := C.1
  have hb := C.2.1
  have hts := C.2.2.2.2.1
  have hown := C.2.2.2.2.2.1
  have hml := C.2.2.2.2.2.2.1
  have h : wp_M_says (fun r26 σ26 => (r26 = 0 → (Q (0 : Int32) σ26)) ∧ (¬ r26 = 0 → (wp_M_columnOf (fun r44 σ44 => vp_in (((13 : Int32) * x1) + r44) 260 ∧ (Q (σ44.1 11 (Int32.toNatClampNeg (((13 : Int32) * x1) + r44))) σ44)) x2 σ26))) t0 σ := h
  refine r_calli C hD hS (va_runV (As := [.int t0]) (rest := []) ⟨hx, hb, hml, hown, hts⟩ (m_M_says h) (cwV 1 hts (g_V kw_579 kw_581 kp_19 kw_7 kw_582) rfl rfl rfl (by decide +kernel) ⟨Nat.le_of_ble_eq_true rfl, Nat.le_of_ble_eq_true rfl⟩) (r_preV (o := 0) C hP hD hS (by decide) rfl rfl) rfl rfl hl.1 rfl (lv_room (Nat.le_of_ble_eq_true rfl)) d_M_moved_26 ⟨Nat.le_of_ble_eq_true rfl, Nat.le_of_ble_eq_true rfl⟩) (fun r26 σ26 H locs h hP hD hS => ?_)
  refine lv_if_ne hx hb d_M_moved_29 rfl (fun hc29 => ?_) (fun hc29 => ?_)
  · have h := h.2 hc29
    refine lv_aload_n hx hb d_M_moved_34 rfl (lv_at hl 0 rfl) ?_
    refine r_get C ku_M hP (by decide) rfl rfl 18 (by decide) kw_527 rfl d_M_moved_35 ?_
    refine lv_bipush (v := 13) hx hb d_M_moved_38 (by decide) ?_
    refine lv_iload_n hx hb d_M_moved_40 rfl (lv_at hl 1 rfl) ?_
    refine lv_imul hx hb d_M_moved_41 ?_
    refine lv_aload_n hx hb d_M_moved_42 rfl (lv_at hl 0 rfl) ?_
    refine lv_iload_n hx hb d_M_moved_43 rfl (lv_at hl 2 rfl) ?_
    refine r_calli C hD hS (va_runV (As := [.int x2]) (rest := [.int ((13 : Int32) * x1), .ref (ad 11)]) ⟨hx, hb, hml, hown, hts⟩ (m_M_columnOf h) (cwV 1 hts (g_V kw_687 kw_689 kp_35 kw_7 kw_690) rfl rfl rfl (by decide +kernel) ⟨Nat.le_of_ble_eq_true rfl, Nat.le_of_ble_eq_true rfl⟩) (r_preV (o := 0) C hP hD hS (by decide) rfl rfl) rfl rfl hl.1 rfl (lv_room (Nat.le_of_ble_eq_true rfl)) d_M_moved_44 ⟨Nat.le_of_ble_eq_true rfl, Nat.le_of_ble_eq_true rfl⟩) (fun r44 σ44 H locs h hP hD hS => ?_)
    refine lv_iadd hx hb d_M_moved_47 ?_
    obtain ⟨hi48, h⟩ := h
    refine r_iald C hP (by decide) rfl rfl hi48 d_M_moved_48 ?_
    exact r_iret C hP hD hS d_M_moved_49 h
  · have h := h.1 hc29
    refine lv_iconst (v := 0) hx hb d_M_moved_32 (by decide) ?_
    exact r_iret C hP hD hS d_M_moved_33 h
set_option maxHeartbeats 4000000 in
set_option maxRecDepth 100000 in
theorem b_M_moved_25 {p : Program} {l : Launch} {e : Env} {s : State} {m : MethodId} {args : Array Value} {below : List Frame} {meth : Method} {c : Code} {D : va_G} {cI cL cZ cS : ClassId} {ad : Nat → Nat} {wr : va_W} {A : Nat → Prop} {Q : Int32 → Mem → Prop} {x1 : Int32} {x2 : Int32} {σ : Mem} {H : Heap} {locs : List Loc} {ls : Array Slot} (C : wC TB "PreferenceCountModel" c_M_moved 3 (some .int) D cls (tyl cI cL cZ cS) A p s m args meth c) (h : wp_M_moved_25 Q x1 x2 σ) (hl : lv_has ls 3 [(0, .ref (ad 0)), (1, .int x1), (2, .int x2)]) (hP : va_P D cls (wW 12 (fM cI cL cZ ad) ad σ ++ wr) H) (hD : va_D A (wW 12 (fM cI cL cZ ad) ad σ ++ wr)) (hS : va_S A s.heap H locs) : W p l e (headSpec (Cond.code y_M_moved c_M_moved 3 (some .int) :: TB) rm_M_moved).room s m args below meth c H locs 0 0 (MQ below (va_Qi Q (wB D cls (tyl cI cL cZ cS) 12 (fM cI cL cZ ad) ad wr A) A) args s 0 0 A) (F0 m 25 ls [.ref (ad 0)]) := by
  have hx := C.1
  have hb := C.2.1
  have hts := C.2.2.2.2.1
  have hown := C.2.2.2.2.2.1
  have hml := C.2.2.2.2.2.2.1
  have h : wp_M_moved_26 Q x1 x2 (1 : Int32) σ := h
  refine lv_iconst (v := 1) hx hb d_M_moved_25 (by decide) ?_
  exact b_M_moved_26 C h (lv_sub hl [0, 1, 2] rfl) hP hD hS
set_option maxHeartbeats 4000000 in
set_option maxRecDepth 100000 in
theorem m_M_moved {l : Launch} {D : va_G} {cI cL cZ cS : ClassId} {ad : Nat → Nat} {wr : va_W} {sz : Nat} {Q : Int32 → Mem → Prop} {x1 : Int32} {x2 : Int32} {σ : Mem} (h : wp_M_moved Q x1 x2 σ) : Met l y_M_moved (Cond.code y_M_moved c_M_moved 3 (some .int) :: TB) rm_M_moved (wPc D cls (tyl cI cL cZ cS) 12 (fM cI cL cZ ad) ad wr sz σ [.ref (ad 0), .int x1, .int x2]) (va_Qi Q (wB D cls (tyl cI cL cZ cS) 12 (fM cI cL cZ ad) ad wr (wA 12 (fM cI cL cZ ad) ad wr sz σ)) (wA 12 (fM cI cL cZ ad) ad wr sz σ)) 0 0 (wA 12 (fM cI cL cZ ad) ad wr sz σ) := by
  refine Met.ofW (cc := c_M_moved) (maxL := 3) (ret := (some .int)) (by decide) rfl ?_
  intro p e s m args below meth c s₁ B hml hv
  obtain ⟨rfl, hsz, hP, hK, hD0, hN⟩ := hv
  subst hsz
  have hD : va_D (wA 12 (fM cI cL cZ ad) ad wr s.heap.size σ) (wW 12 (fM cI cL cZ ad) ad σ ++ wr) := hD0.self (sz := s.heap.size)
  have hA : ∀ q : Nat, s.heap.size ≤ q → (wA 12 (fM cI cL cZ ad) ad wr s.heap.size σ) q := fun q h => Or.inr h
  have hN : NX (wA 12 (fM cI cL cZ ad) ad wr s.heap.size σ) s s.heap := hN
  generalize (wA 12 (fM cI cL cZ ad) ad wr s.heap.size σ) = A at hD hA hN ⊢
  have C : wC TB "PreferenceCountModel" c_M_moved 3 (some .int) D cls (tyl cI cL cZ cS) A p s m ([.ref (ad 0), .int x1, .int x2].toArray) meth c := ⟨B.exec, B.bytes, B.returns, B.notSynchronized, fun w hw => atoms_spec (ws := Cond.code y_M_moved c_M_moved 3 (some .int) :: TB) B.pre w (List.mem_cons_of_mem _ hw), findClass_of_methodNamed B.named, hml, hK, hN, hA⟩
  have hx := C.1
  have hb := C.2.1
  have hts := C.2.2.2.2.1
  have hown := C.2.2.2.2.2.1
  have hS : va_S A s.heap s.heap [] := va_S.rf
  have hl := lv_entry ([.ref (ad 0), .int x1, .int x2]) (n := 3) (Nat.le_of_ble_eq_true rfl)
  rw [lg_entry_eq]
  generalize (lg_sl ([.ref (ad 0), .int x1, .int x2]) ++ List.replicate (3 - (lg_sl ([.ref (ad 0), .int x1, .int x2])).length) Slot.unset).toArray = ls at hl ⊢
  have hl : lv_has ls 3 [(0, .ref (ad 0)), (1, .int x1), (2, .int x2)] := hl
  have h : (x1 < 0 → (wp_M_moved_25 Q x1 x2 σ)) ∧ (¬ x1 < 0 → (((σ.1 0 15) < x1 → (wp_M_moved_25 Q x1 x2 σ)) ∧ (¬ (σ.1 0 15) < x1 → (wp_M_columnOf (fun r15 σ15 => (r15 < 0 → (wp_M_moved_25 Q x1 x2 σ15)) ∧ (¬ r15 < 0 → (wp_M_moved_26 Q x1 x2 (0 : Int32) σ15))) x2 σ)))) := h
  refine lv_aload_n hx hb d_M_moved_0 rfl (lv_at hl 0 rfl) ?_
  refine lv_iload_n hx hb d_M_moved_1 rfl (lv_at hl 1 rfl) ?_
  refine lv_if_lt hx hb d_M_moved_2 rfl (fun hc2 => ?_) (fun hc2 => ?_)
  · have h := h.1 hc2
    exact b_M_moved_25 C h (lv_sub hl [0, 1, 2] rfl) hP hD hS
  · have h := h.2 hc2
    refine lv_iload_n hx hb d_M_moved_5 rfl (lv_at hl 1 rfl) ?_
    refine lv_aload_n hx hb d_M_moved_6 rfl (lv_at hl 0 rfl) ?_
    refine r_get C ku_M hP (by decide) rfl rfl 15 (by decide) kw_524 rfl d_M_moved_7 ?_
    refine lv_icmp_gt hx hb d_M_moved_10 rfl (fun hc10 => ?_) (fun hc10 => ?_)
    · have h := h.1 hc10
      exact b_M_moved_25 C h (lv_sub hl [0, 1, 2] rfl) hP hD hS
    · have h := h.2 hc10
      refine lv_aload_n hx hb d_M_moved_13 rfl (lv_at hl 0 rfl) ?_
      refine lv_iload_n hx hb d_M_moved_14 rfl (lv_at hl 2 rfl) ?_
      refine r_calli C hD hS (va_runV (As := [.int x2]) (rest := [.ref (ad 0)]) ⟨hx, hb, hml, hown, hts⟩ (m_M_columnOf h) (cwV 1 hts (g_V kw_687 kw_689 kp_35 kw_7 kw_690) rfl rfl rfl (by decide +kernel) ⟨Nat.le_of_ble_eq_true rfl, Nat.le_of_ble_eq_true rfl⟩) (r_preV (o := 0) C hP hD hS (by decide) rfl rfl) rfl rfl hl.1 rfl (lv_room (Nat.le_of_ble_eq_true rfl)) d_M_moved_15 ⟨Nat.le_of_ble_eq_true rfl, Nat.le_of_ble_eq_true rfl⟩) (fun r15 σ15 H locs h hP hD hS => ?_)
      refine lv_if_lt hx hb d_M_moved_18 rfl (fun hc18 => ?_) (fun hc18 => ?_)
      · have h := h.1 hc18
        exact b_M_moved_25 C h (lv_sub hl [0, 1, 2] rfl) hP hD hS
      · have h := h.2 hc18
        refine lv_iconst (v := 0) hx hb d_M_moved_21 (by decide) ?_
        refine lv_goto hx hb d_M_moved_22 rfl ?_
        exact b_M_moved_26 C h (lv_sub hl [0, 1, 2] rfl) hP hD hS
