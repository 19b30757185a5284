theorem dv_F : ∀ j, j < 2 → defaultValue (ft_F j) = vp_V [.null, .null] j := by
  intro j hj
  match j, hj with
  | 0, _ => rfl
  | 1, _ => rfl
  | j + 2, h => exact absurd h (by omega)
theorem dv_P : ∀ j, j < 6 → defaultValue (ft_P j) = vp_V [.null, .null, .null, .null, .int 0, .int 0] j := by
  intro j hj
  match j, hj with
  | 0, _ => rfl
  | 1, _ => rfl
  | 2, _ => rfl
  | 3, _ => rfl
  | 4, _ => rfl
  | 5, _ => rfl
  | j + 6, h => exact absurd h (by omega)
theorem dv_R : ∀ j, j < 5 → defaultValue (ft_R j) = vp_V [.null, .null, .int 0, .int 0, .int 0] j := by
  intro j hj
  match j, hj with
  | 0, _ => rfl
  | 1, _ => rfl
  | 2, _ => rfl
  | 3, _ => rfl
  | 4, _ => rfl
  | j + 5, h => exact absurd h (by omega)
theorem dv_S : ∀ j, j < 2 → defaultValue (ft_S j) = vp_V [.null, .null] j := by
  intro j hj
  match j, hj with
  | 0, _ => rfl
  | 1, _ => rfl
  | j + 2, h => exact absurd h (by omega)
theorem dv_C : ∀ j, j < 8 → defaultValue (ft_C j) = vp_V [.null, .null, .null, .int 0, .int 0, .int 0, .long 0, .long 0] j := by
  intro j hj
  match j, hj with
  | 0, _ => rfl
  | 1, _ => rfl
  | 2, _ => rfl
  | 3, _ => rfl
  | 4, _ => rfl
  | 5, _ => rfl
  | 6, _ => rfl
  | 7, _ => rfl
  | j + 8, h => exact absurd h (by omega)
theorem dv_M : ∀ j, j < 20 → defaultValue (ft_M j) = vp_V [.int 0, .int 0, .int 0, .null, .null, .int 0, .int 0, .int 0, .null, .null, .null, .null, .null, .null, .long 0, .int 0, .null, .null, .null, .int 0] j := by
  intro j hj
  match j, hj with
  | 0, _ => rfl
  | 1, _ => rfl
  | 2, _ => rfl
  | 3, _ => rfl
  | 4, _ => rfl
  | 5, _ => rfl
  | 6, _ => rfl
  | 7, _ => rfl
  | 8, _ => rfl
  | 9, _ => rfl
  | 10, _ => rfl
  | 11, _ => rfl
  | 12, _ => rfl
  | 13, _ => rfl
  | 14, _ => rfl
  | 15, _ => rfl
  | 16, _ => rfl
  | 17, _ => rfl
  | 18, _ => rfl
  | 19, _ => rfl
  | j + 20, h => exact absurd h (by omega)
def rm_F_init13 : Room := { frames := 1, cells := 2, slots := 26, locals := 24 }
set_option maxHeartbeats 4000000 in
set_option maxRecDepth 100000 in
theorem m_F_init13 {l : Launch} {D : va_G} {cI cL cZ cS : ClassId} {a sz : Nat} : Met l y_F_init (Cond.code y_F_init c_F_init 2 none :: TB) rm_F_init13 (cPc D cls (tyl cI cL cZ cS) [(a, .inr (0, [.null, .null]))] sz [.ref a, .int 13]) (va_Qv (fun u : Nat × Nat × (Nat → Int64) => ∀ j, j < 13 → (u.2.2) j = 1) (fun u t => cB D cls (tyl cI cL cZ cS) (va_A [(a, .inr (0, [.null, .null]))] sz) [(a, .inr (0, [.ref (u.1), .ref (u.2.1)])), ((u.1), .inl (cL, (13, .inr (.inl (fun _ => 0))))), ((u.2.1), .inl (cL, (13, .inr (.inl (u.2.2)))))] t) (va_A [(a, .inr (0, [.null, .null]))] sz)) 2 26 (va_A [(a, .inr (0, [.null, .null]))] sz) := by
  refine Met.ofW (cc := c_F_init) (maxL := 2) (ret := none) (by decide) rfl ?_
  intro p e s m args below meth c s₁ B hml hv
  obtain ⟨rfl, hsz, hP, hK, hD0, hN⟩ := hv
  subst hsz
  have hD : va_D (va_A [(a, .inr (0, [.null, .null]))] s.heap.size) [(a, .inr (0, [.null, .null]))] := hD0.self (sz := s.heap.size)
  have hA : ∀ q : Nat, s.heap.size ≤ q → (va_A [(a, .inr (0, [.null, .null]))] s.heap.size) q := fun q h => Or.inr h
  have hN : NX (va_A [(a, .inr (0, [.null, .null]))] s.heap.size) s s.heap := hN
  generalize (va_A [(a, .inr (0, [.null, .null]))] s.heap.size) = A at hD hA hN ⊢
  have C : wC TB "PreferenceCount$Fractions" c_F_init 2 none D cls (tyl cI cL cZ cS) A p s m ([.ref a, .int 13].toArray) meth c := ⟨B.exec, B.bytes, B.returns, B.notSynchronized, fun w hw => atoms_spec (ws := Cond.code y_F_init c_F_init 2 none :: TB) B.pre w (List.mem_cons_of_mem _ hw), findClass_of_methodNamed B.named, hml, hK, hN, hA⟩
  have hx := C.1
  have hb := C.2.1
  have hr := C.2.2.1
  have hts := C.2.2.2.2.1
  have hown := C.2.2.2.2.2.1
  have hin : meth.name = "<init>" := (name_of_methodNamed B.named B.method).1
  have hS : va_S A s.heap s.heap [] := va_S.rf
  have hl := lv_entry ([.ref a, .int 13]) (n := 2) (Nat.le_of_ble_eq_true rfl)
  rw [lg_entry_eq]
  generalize (lg_sl ([.ref a, .int 13]) ++ List.replicate (2 - (lg_sl ([.ref a, .int 13])).length) Slot.unset).toArray = ls at hl ⊢
  have hl : lv_has ls 2 [(0, .ref a), (1, .int 13)] := hl
  refine lv_aload_n hx hb d_F_init_0 rfl (lv_at hl 0 rfl) ?_
  refine W.objInit hx hb hown (hts _ kw_63) (hts _ kw_22) (hts _ kw_23) rfl (by rw [hml]; exact hl.1) rfl d_F_init_1 (Nat.le_of_ble_eq_true rfl) (Nat.le_of_ble_eq_true rfl) ?_
  refine W.eq (g2 := F0 m 4 ls []) rfl ?_
  refine lv_aload_n hx hb d_F_init_4 rfl (lv_at hl 0 rfl) ?_
  refine lv_iload_n hx hb d_F_init_5 rfl (lv_at hl 1 rfl) ?_
  refine k_newa (atype := .long) (ty := .long) (cA0 := cL) (N' := 13) (a0 := (13, .inr (.inl (fun _ => 0)))) C kw_76 rfl 1 rfl (fun _ h => h) hP hD hS (fun _ => rfl) (by decide) (by decide) (by decide) (Nat.le_of_ble_eq_true rfl) (Nat.le_of_ble_eq_true rfl) d_F_init_6 (fun u6 H hP hD hS => ?_)
  have hP : va_P D cls [(a, .inr (0, [.null, .null])), (u6, .inl (cL, (13, .inr (.inl (fun _ => 0)))))] H := hP
  have hD : va_D A [(a, .inr (0, [.null, .null])), (u6, .inl (cL, (13, .inr (.inl (fun _ => 0)))))] := hD
  refine va_putF (D := D) (ci := 0) (v := .ref u6) (ty := (.array .long)) (C := "PreferenceCount$Fractions") (T := T_F) (N := 2) hx hb hts ku_F ft_F fo_F fn_F hown hK hP hD hS 0 rfl rfl 0 (by decide) (hts _ kw_67) (fun _ h9 => h9) rfl hin rfl (by decide +kernel) rfl rfl (Nat.le_of_ble_eq_true rfl) d_F_init_8 (fun H locs hP hD hS => ?_)
  have hP : va_P D cls [(a, .inr (0, [.ref u6, .null])), (u6, .inl (cL, (13, .inr (.inl (fun _ => 0)))))] H := hP
  have hD : va_D A [(a, .inr (0, [.ref u6, .null])), (u6, .inl (cL, (13, .inr (.inl (fun _ => 0)))))] := hD
  refine lv_aload_n hx hb d_F_init_11 rfl (lv_at hl 0 rfl) ?_
  refine lv_iload_n hx hb d_F_init_12 rfl (lv_at hl 1 rfl) ?_
  refine k_newa (atype := .long) (ty := .long) (cA0 := cL) (N' := 13) (a0 := (13, .inr (.inl (fun _ => 0)))) C kw_76 rfl 1 rfl (fun _ h => h) hP hD hS (fun _ => rfl) (by decide) (by decide) (by decide) (Nat.le_of_ble_eq_true rfl) (Nat.le_of_ble_eq_true rfl) d_F_init_13 (fun u13 H hP hD hS => ?_)
  have hP : va_P D cls [(a, .inr (0, [.ref u6, .null])), (u6, .inl (cL, (13, .inr (.inl (fun _ => 0))))), (u13, .inl (cL, (13, .inr (.inl (fun _ => 0)))))] H := hP
  have hD : va_D A [(a, .inr (0, [.ref u6, .null])), (u6, .inl (cL, (13, .inr (.inl (fun _ => 0))))), (u13, .inl (cL, (13, .inr (.inl (fun _ => 0)))))] := hD
  refine va_putF (D := D) (ci := 0) (v := .ref u13) (ty := (.array .long)) (C := "PreferenceCount$Fractions") (T := T_F) (N := 2) hx hb hts ku_F ft_F fo_F fn_F hown hK hP hD hS 0 rfl rfl 1 (by decide) (hts _ kw_69) (fun _ h9 => h9) rfl hin rfl (by decide +kernel) rfl rfl (Nat.le_of_ble_eq_true rfl) d_F_init_15 (fun H locs hP hD hS => ?_)
  have hP : va_P D cls [(a, .inr (0, [.ref u6, .ref u13])), (u6, .inl (cL, (13, .inr (.inl (fun _ => 0))))), (u13, .inl (cL, (13, .inr (.inl (fun _ => 0)))))] H := hP
  have hD : va_D A [(a, .inr (0, [.ref u6, .ref u13])), (u6, .inl (cL, (13, .inr (.inl (fun _ => 0))))), (u13, .inl (cL, (13, .inr (.inl (fun _ => 0)))))] := hD
  refine lv_aload_n hx hb d_F_init_18 rfl (lv_at hl 0 rfl) ?_
  refine va_get (D := D) (ci := 0) (v := .ref u13) (C := "PreferenceCount$Fractions") (T := T_F) (N := 2) hx hb hts ku_F hown hK hP 0 rfl rfl 1 (by decide) (hts _ kw_69) (fun _ h9 => h9) rfl d_F_init_19 ?_
  refine lv_lconst (v := 1) hx hb d_F_init_22 (by decide) ?_
  refine k_call (w1 := fun σ => wW 1 (fun _ _ q => .inl (cL, 13, .inr (.inl q))) (fun _ => u13) σ ++ [(a, .inr (0, [.ref u6, .ref u13])), (u6, .inl (cL, (13, .inr (.inl (fun _ => 0)))))]) (wc := wW 1 (fun _ _ q => .inl (cL, 13, .inr (.inl q))) (fun _ => u13) (((fun _ _ => 0), (fun _ _ => 0)) : Mem) ++ [(a, .inr (0, [.ref u6, .ref u13])), (u6, .inl (cL, (13, .inr (.inl (fun _ => 0)))))]) (wr := []) C hP hD hS [2, 0, 1] [] rfl rfl (by decide) (by decide) (va_runS (As := [.ref u13, .long 1]) (rest := []) ⟨hx, hb, hml, hown, hts⟩ (m_A_fillJ (nn := 1) (ff := (fun _ _ q => .inl (cL, 13, .inr (.inl q)))) (ad := fun _ => u13) (wr := [(a, .inr (0, [.ref u6, .ref u13])), (u6, .inl (cL, (13, .inr (.inl (fun _ => 0)))))]) (a0 := 0) (na0 := 13) (y1 := 1) (σ := (((fun _ _ => 0), (fun _ _ => 0)) : Mem)) (Q := fun σ => ∀ j, j < 13 → σ.2 0 j = 1) (by decide) (fun _ _ => rfl) (fillJ_spec (by decide) (fun σ _ _ h => h))) (va_cwS 2 hts (g_S kw_64 kw_65 kw_5 kw_66) rfl rfl rfl (by decide +kernel) ⟨(Nat.le_of_ble_eq_true rfl), (Nat.le_of_ble_eq_true rfl)⟩) (k_pre (wc := wW 1 (fun _ _ q => .inl (cL, 13, .inr (.inl q))) (fun _ => u13) (((fun _ _ => 0), (fun _ _ => 0)) : Mem) ++ [(a, .inr (0, [.ref u6, .ref u13])), (u6, .inl (cL, (13, .inr (.inl (fun _ => 0)))))]) C hP hD hS [2, 0, 1] rfl rfl (by decide)) rfl rfl hl.1 rfl (lv_room (Nat.le_of_ble_eq_true rfl)) d_F_init_23 ⟨(Nat.le_of_ble_eq_true rfl), (Nat.le_of_ble_eq_true rfl)⟩) (fun σ H locs hq hP hD hS => ?_)
  obtain ⟨g23, hg23⟩ : ∃ z, z = σ.2 0 := ⟨_, rfl⟩
  rw [← hg23] at hq
  have hP : va_P D cls [(a, .inr (0, [.ref u6, .ref u13])), (u6, .inl (cL, (13, .inr (.inl (fun _ => 0))))), (u13, .inl (cL, (13, .inr (.inl g23))))] H := by rw [hg23]; exact hP.sub [1, 2, 0] rfl
  have hD : va_D A [(a, .inr (0, [.ref u6, .ref u13])), (u6, .inl (cL, (13, .inr (.inl (fun _ => 0))))), (u13, .inl (cL, (13, .inr (.inl g23))))] := by rw [hg23]; exact hD.sub [1, 2, 0] (by decide) rfl
  exact W.vret hx hb hr (fun t ht hW => ⟨⟨(u6, u13, g23), rfl, hq, by rw [ht]; exact hP, va_K.moved hW.alike hK, hD⟩, hS.F ht⟩) hS.2.2 d_F_init_26 C.2.2.2.1
def rm_F_init50 : Room := { frames := 1, cells := 2, slots := 100, locals := 24 }
set_option maxHeartbeats 4000000 in
set_option maxRecDepth 100000 in
theorem m_F_init50 {l : Launch} {D : va_G} {cI cL cZ cS : ClassId} {a sz : Nat} : Met l y_F_init (Cond.code y_F_init c_F_init 2 none :: TB) rm_F_init50 (cPc D cls (tyl cI cL cZ cS) [(a, .inr (0, [.null, .null]))] sz [.ref a, .int 50]) (va_Qv (fun u : Nat × Nat × (Nat → Int64) => ∀ j, j < 50 → (u.2.2) j = 1) (fun u t => cB D cls (tyl cI cL cZ cS) (va_A [(a, .inr (0, [.null, .null]))] sz) [(a, .inr (0, [.ref (u.1), .ref (u.2.1)])), ((u.1), .inl (cL, (50, .inr (.inl (fun _ => 0))))), ((u.2.1), .inl (cL, (50, .inr (.inl (u.2.2)))))] t) (va_A [(a, .inr (0, [.null, .null]))] sz)) 2 100 (va_A [(a, .inr (0, [.null, .null]))] sz) := by
  refine Met.ofW (cc := c_F_init) (maxL := 2) (ret := none) (by decide) rfl ?_
  intro p e s m args below meth c s₁ B hml hv
  obtain ⟨rfl, hsz, hP, hK, hD0, hN⟩ := hv
  subst hsz
  have hD : va_D (va_A [(a, .inr (0, [.null, .null]))] s.heap.size) [(a, .inr (0, [.null, .null]))] := hD0.self (sz := s.heap.size)
  have hA : ∀ q : Nat, s.heap.size ≤ q → (va_A [(a, .inr (0, [.null, .null]))] s.heap.size) q := fun q h => Or.inr h
  have hN : NX (va_A [(a, .inr (0, [.null, .null]))] s.heap.size) s s.heap := hN
  generalize (va_A [(a, .inr (0, [.null, .null]))] s.heap.size) = A at hD hA hN ⊢
  have C : wC TB "PreferenceCount$Fractions" c_F_init 2 none D cls (tyl cI cL cZ cS) A p s m ([.ref a, .int 50].toArray) meth c := ⟨B.exec, B.bytes, B.returns, B.notSynchronized, fun w hw => atoms_spec (ws := Cond.code y_F_init c_F_init 2 none :: TB) B.pre w (List.mem_cons_of_mem _ hw), findClass_of_methodNamed B.named, hml, hK, hN, hA⟩
  have hx := C.1
  have hb := C.2.1
  have hr := C.2.2.1
  have hts := C.2.2.2.2.1
  have hown := C.2.2.2.2.2.1
  have hin : meth.name = "<init>" := (name_of_methodNamed B.named B.method).1
  have hS : va_S A s.heap s.heap [] := va_S.rf
  have hl := lv_entry ([.ref a, .int 50]) (n := 2) (Nat.le_of_ble_eq_true rfl)
  rw [lg_entry_eq]
  generalize (lg_sl ([.ref a, .int 50]) ++ List.replicate (2 - (lg_sl ([.ref a, .int 50])).length) Slot.unset).toArray = ls at hl ⊢
  have hl : lv_has ls 2 [(0, .ref a), (1, .int 50)] := hl
  refine lv_aload_n hx hb d_F_init_0 rfl (lv_at hl 0 rfl) ?_
  refine W.objInit hx hb hown (hts _ kw_63) (hts _ kw_22) (hts _ kw_23) rfl (by rw [hml]; exact hl.1) rfl d_F_init_1 (Nat.le_of_ble_eq_true rfl) (Nat.le_of_ble_eq_true rfl) ?_
  refine W.eq (g2 := F0 m 4 ls []) rfl ?_
  refine lv_aload_n hx hb d_F_init_4 rfl (lv_at hl 0 rfl) ?_
  refine lv_iload_n hx hb d_F_init_5 rfl (lv_at hl 1 rfl) ?_
  refine k_newa (atype := .long) (ty := .long) (cA0 := cL) (N' := 50) (a0 := (50, .inr (.inl (fun _ => 0)))) C kw_76 rfl 1 rfl (fun _ h => h) hP hD hS (fun _ => rfl) (by decide) (by decide) (by decide) (Nat.le_of_ble_eq_true rfl) (Nat.le_of_ble_eq_true rfl) d_F_init_6 (fun u6 H hP hD hS => ?_)
  have hP : va_P D cls [(a, .inr (0, [.null, .null])), (u6, .inl (cL, (50, .inr (.inl (fun _ => 0)))))] H := hP
  have hD : va_D A [(a, .inr (0, [.null, .null])), (u6, .inl (cL, (50, .inr (.inl (fun _ => 0)))))] := hD
  refine va_putF (D := D) (ci := 0) (v := .ref u6) (ty := (.array .long)) (C := "PreferenceCount$Fractions") (T := T_F) (N := 2) hx hb hts ku_F ft_F fo_F fn_F hown hK hP hD hS 0 rfl rfl 0 (by decide) (hts _ kw_67) (fun _ h9 => h9) rfl hin rfl (by decide +kernel) rfl rfl (Nat.le_of_ble_eq_true rfl) d_F_init_8 (fun H locs hP hD hS => ?_)
  have hP : va_P D cls [(a, .inr (0, [.ref u6, .null])), (u6, .inl (cL, (50, .inr (.inl (fun _ => 0)))))] H := hP
  have hD : va_D A [(a, .inr (0, [.ref u6, .null])), (u6, .inl (cL, (50, .inr (.inl (fun _ => 0)))))] := hD
  refine lv_aload_n hx hb d_F_init_11 rfl (lv_at hl 0 rfl) ?_
  refine lv_iload_n hx hb d_F_init_12 rfl (lv_at hl 1 rfl) ?_
  refine k_newa (atype := .long) (ty := .long) (cA0 := cL) (N' := 50) (a0 := (50, .inr (.inl (fun _ => 0)))) C kw_76 rfl 1 rfl (fun _ h => h) hP hD hS (fun _ => rfl) (by decide) (by decide) (by decide) (Nat.le_of_ble_eq_true rfl) (Nat.le_of_ble_eq_true rfl) d_F_init_13 (fun u13 H hP hD hS => ?_)
  have hP : va_P D cls [(a, .inr (0, [.ref u6, .null])), (u6, .inl (cL, (50, .inr (.inl (fun _ => 0))))), (u13, .inl (cL, (50, .inr (.inl (fun _ => 0)))))] H := hP
  have hD : va_D A [(a, .inr (0, [.ref u6, .null])), (u6, .inl (cL, (50, .inr (.inl (fun _ => 0))))), (u13, .inl (cL, (50, .inr (.inl (fun _ => 0)))))] := hD
  refine va_putF (D := D) (ci := 0) (v := .ref u13) (ty := (.array .long)) (C := "PreferenceCount$Fractions") (T := T_F) (N := 2) hx hb hts ku_F ft_F fo_F fn_F hown hK hP hD hS 0 rfl rfl 1 (by decide) (hts _ kw_69) (fun _ h9 => h9) rfl hin rfl (by decide +kernel) rfl rfl (Nat.le_of_ble_eq_true rfl) d_F_init_15 (fun H locs hP hD hS => ?_)
  have hP : va_P D cls [(a, .inr (0, [.ref u6, .ref u13])), (u6, .inl (cL, (50, .inr (.inl (fun _ => 0))))), (u13, .inl (cL, (50, .inr (.inl (fun _ => 0)))))] H := hP
  have hD : va_D A [(a, .inr (0, [.ref u6, .ref u13])), (u6, .inl (cL, (50, .inr (.inl (fun _ => 0))))), (u13, .inl (cL, (50, .inr (.inl (fun _ => 0)))))] := hD
  refine lv_aload_n hx hb d_F_init_18 rfl (lv_at hl 0 rfl) ?_
  refine va_get (D := D) (ci := 0) (v := .ref u13) (C := "PreferenceCount$Fractions") (T := T_F) (N := 2) hx hb hts ku_F hown hK hP 0 rfl rfl 1 (by decide) (hts _ kw_69) (fun _ h9 => h9) rfl d_F_init_19 ?_
  refine lv_lconst (v := 1) hx hb d_F_init_22 (by decide) ?_
  refine k_call (w1 := fun σ => wW 1 (fun _ _ q => .inl (cL, 50, .inr (.inl q))) (fun _ => u13) σ ++ [(a, .inr (0, [.ref u6, .ref u13])), (u6, .inl (cL, (50, .inr (.inl (fun _ => 0)))))]) (wc := wW 1 (fun _ _ q => .inl (cL, 50, .inr (.inl q))) (fun _ => u13) (((fun _ _ => 0), (fun _ _ => 0)) : Mem) ++ [(a, .inr (0, [.ref u6, .ref u13])), (u6, .inl (cL, (50, .inr (.inl (fun _ => 0)))))]) (wr := []) C hP hD hS [2, 0, 1] [] rfl rfl (by decide) (by decide) (va_runS (As := [.ref u13, .long 1]) (rest := []) ⟨hx, hb, hml, hown, hts⟩ (m_A_fillJ (nn := 1) (ff := (fun _ _ q => .inl (cL, 50, .inr (.inl q)))) (ad := fun _ => u13) (wr := [(a, .inr (0, [.ref u6, .ref u13])), (u6, .inl (cL, (50, .inr (.inl (fun _ => 0)))))]) (a0 := 0) (na0 := 50) (y1 := 1) (σ := (((fun _ _ => 0), (fun _ _ => 0)) : Mem)) (Q := fun σ => ∀ j, j < 50 → σ.2 0 j = 1) (by decide) (fun _ _ => rfl) (fillJ_spec (by decide) (fun σ _ _ h => h))) (va_cwS 2 hts (g_S kw_64 kw_65 kw_5 kw_66) rfl rfl rfl (by decide +kernel) ⟨(Nat.le_of_ble_eq_true rfl), (Nat.le_of_ble_eq_true rfl)⟩) (k_pre (wc := wW 1 (fun _ _ q => .inl (cL, 50, .inr (.inl q))) (fun _ => u13) (((fun _ _ => 0), (fun _ _ => 0)) : Mem) ++ [(a, .inr (0, [.ref u6, .ref u13])), (u6, .inl (cL, (50, .inr (.inl (fun _ => 0)))))]) C hP hD hS [2, 0, 1] rfl rfl (by decide)) rfl rfl hl.1 rfl (lv_room (Nat.le_of_ble_eq_true rfl)) d_F_init_23 ⟨(Nat.le_of_ble_eq_true rfl), (Nat.le_of_ble_eq_true rfl)⟩) (fun σ H locs hq hP hD hS => ?_)
  obtain ⟨g23, hg23⟩ : ∃ z, z = σ.2 0 := ⟨_, rfl⟩
  rw [← hg23] at hq
  have hP : va_P D cls [(a, .inr (0, [.ref u6, .ref u13])), (u6, .inl (cL, (50, .inr (.inl (fun _ => 0))))), (u13, .inl (cL, (50, .inr (.inl g23))))] H := by rw [hg23]; exact hP.sub [1, 2, 0] rfl
  have hD : va_D A [(a, .inr (0, [.ref u6, .ref u13])), (u6, .inl (cL, (50, .inr (.inl (fun _ => 0))))), (u13, .inl (cL, (50, .inr (.inl g23))))] := by rw [hg23]; exact hD.sub [1, 2, 0] (by decide) rfl
  exact W.vret hx hb hr (fun t ht hW => ⟨⟨(u6, u13, g23), rfl, hq, by rw [ht]; exact hP, va_K.moved hW.alike hK, hD⟩, hS.F ht⟩) hS.2.2 d_F_init_26 C.2.2.2.1
def rm_R_init : Room := { frames := 1, cells := 2, slots := 24, locals := 20 }
set_option maxHeartbeats 4000000 in
set_option maxRecDepth 100000 in
theorem m_R_init {l : Launch} {D : va_G} {cI cL cZ cS : ClassId} {a sz : Nat} : Met l y_R_init (Cond.code y_R_init c_R_init 1 none :: TB) rm_R_init (cPc D cls (tyl cI cL cZ cS) [(a, .inr (2, [.null, .null, .int 0, .int 0, .int 0]))] sz [.ref a]) (va_Qv (fun u : Nat × Nat => True) (fun u t => cB D cls (tyl cI cL cZ cS) (va_A [(a, .inr (2, [.null, .null, .int 0, .int 0, .int 0]))] sz) [(a, .inr (2, [.ref (u.1), .ref (u.2), .int 0, .int 0, .int 0])), ((u.1), .inl (cI, (12, .inl (fun _ => 0)))), ((u.2), .inl (cI, (12, .inl (fun _ => 0))))] t) (va_A [(a, .inr (2, [.null, .null, .int 0, .int 0, .int 0]))] sz)) 2 24 (va_A [(a, .inr (2, [.null, .null, .int 0, .int 0, .int 0]))] sz) := by
  refine Met.ofW (cc := c_R_init) (maxL := 1) (ret := none) (by decide) rfl ?_
  intro p e s m args below meth c s₁ B hml hv
  obtain ⟨rfl, hsz, hP, hK, hD0, hN⟩ := hv
  subst hsz
  have hD : va_D (va_A [(a, .inr (2, [.null, .null, .int 0, .int 0, .int 0]))] s.heap.size) [(a, .inr (2, [.null, .null, .int 0, .int 0, .int 0]))] := hD0.self (sz := s.heap.size)
  have hA : ∀ q : Nat, s.heap.size ≤ q → (va_A [(a, .inr (2, [.null, .null, .int 0, .int 0, .int 0]))] s.heap.size) q := fun q h => Or.inr h
  have hN : NX (va_A [(a, .inr (2, [.null, .null, .int 0, .int 0, .int 0]))] s.heap.size) s s.heap := hN
  generalize (va_A [(a, .inr (2, [.null, .null, .int 0, .int 0, .int 0]))] s.heap.size) = A at hD hA hN ⊢
  have C : wC TB "PreferenceCount$Roll" c_R_init 1 none D cls (tyl cI cL cZ cS) A p s m ([.ref a].toArray) meth c := ⟨B.exec, B.bytes, B.returns, B.notSynchronized, fun w hw => atoms_spec (ws := Cond.code y_R_init c_R_init 1 none :: TB) B.pre w (List.mem_cons_of_mem _ hw), findClass_of_methodNamed B.named, hml, hK, hN, hA⟩
  have hx := C.1
  have hb := C.2.1
  have hr := C.2.2.1
  have hts := C.2.2.2.2.1
  have hown := C.2.2.2.2.2.1
  have hin : meth.name = "<init>" := (name_of_methodNamed B.named B.method).1
  have hS : va_S A s.heap s.heap [] := va_S.rf
  have hl := lv_entry ([.ref a]) (n := 1) (Nat.le_of_ble_eq_true rfl)
  rw [lg_entry_eq]
  generalize (lg_sl ([.ref a]) ++ List.replicate (1 - (lg_sl ([.ref a])).length) Slot.unset).toArray = ls at hl ⊢
  have hl : lv_has ls 1 [(0, .ref a)] := hl
  refine lv_aload_n hx hb d_R_init_0 rfl (lv_at hl 0 rfl) ?_
  refine W.objInit hx hb hown (hts _ kw_29) (hts _ kw_22) (hts _ kw_23) rfl (by rw [hml]; exact hl.1) rfl d_R_init_1 (Nat.le_of_ble_eq_true rfl) (Nat.le_of_ble_eq_true rfl) ?_
  refine W.eq (g2 := F0 m 4 ls []) rfl ?_
  refine lv_aload_n hx hb d_R_init_4 rfl (lv_at hl 0 rfl) ?_
  refine lv_bipush (v := 12) hx hb d_R_init_5 (by decide) ?_
  refine k_newa (atype := .int) (ty := .int) (cA0 := cI) (N' := 12) (a0 := (12, .inl (fun _ => 0))) C kw_51 rfl 0 rfl (fun _ h => h) hP hD hS (fun _ => rfl) (by decide) (by decide) (by decide) (Nat.le_of_ble_eq_true rfl) (Nat.le_of_ble_eq_true rfl) d_R_init_7 (fun u7 H hP hD hS => ?_)
  have hP : va_P D cls [(a, .inr (2, [.null, .null, .int 0, .int 0, .int 0])), (u7, .inl (cI, (12, .inl (fun _ => 0))))] H := hP
  have hD : va_D A [(a, .inr (2, [.null, .null, .int 0, .int 0, .int 0])), (u7, .inl (cI, (12, .inl (fun _ => 0))))] := hD
  refine va_putF (D := D) (ci := 2) (v := .ref u7) (ty := (.array .int)) (C := "PreferenceCount$Roll") (T := T_R) (N := 5) hx hb hts ku_R ft_R fo_R fn_R hown hK hP hD hS 0 rfl rfl 0 (by decide) (hts _ kw_30) (fun _ h9 => h9) rfl hin rfl (by decide +kernel) rfl rfl (Nat.le_of_ble_eq_true rfl) d_R_init_9 (fun H locs hP hD hS => ?_)
  have hP : va_P D cls [(a, .inr (2, [.ref u7, .null, .int 0, .int 0, .int 0])), (u7, .inl (cI, (12, .inl (fun _ => 0))))] H := hP
  have hD : va_D A [(a, .inr (2, [.ref u7, .null, .int 0, .int 0, .int 0])), (u7, .inl (cI, (12, .inl (fun _ => 0))))] := hD
  refine lv_aload_n hx hb d_R_init_12 rfl (lv_at hl 0 rfl) ?_
  refine lv_bipush (v := 12) hx hb d_R_init_13 (by decide) ?_
  refine k_newa (atype := .int) (ty := .int) (cA0 := cI) (N' := 12) (a0 := (12, .inl (fun _ => 0))) C kw_51 rfl 0 rfl (fun _ h => h) hP hD hS (fun _ => rfl) (by decide) (by decide) (by decide) (Nat.le_of_ble_eq_true rfl) (Nat.le_of_ble_eq_true rfl) d_R_init_15 (fun u15 H hP hD hS => ?_)
  have hP : va_P D cls [(a, .inr (2, [.ref u7, .null, .int 0, .int 0, .int 0])), (u7, .inl (cI, (12, .inl (fun _ => 0)))), (u15, .inl (cI, (12, .inl (fun _ => 0))))] H := hP
  have hD : va_D A [(a, .inr (2, [.ref u7, .null, .int 0, .int 0, .int 0])), (u7, .inl (cI, (12, .inl (fun _ => 0)))), (u15, .inl (cI, (12, .inl (fun _ => 0))))] := hD
  refine va_putF (D := D) (ci := 2) (v := .ref u15) (ty := (.array .int)) (C := "PreferenceCount$Roll") (T := T_R) (N := 5) hx hb hts ku_R ft_R fo_R fn_R hown hK hP hD hS 0 rfl rfl 1 (by decide) (hts _ kw_32) (fun _ h9 => h9) rfl hin rfl (by decide +kernel) rfl rfl (Nat.le_of_ble_eq_true rfl) d_R_init_17 (fun H locs hP hD hS => ?_)
  have hP : va_P D cls [(a, .inr (2, [.ref u7, .ref u15, .int 0, .int 0, .int 0])), (u7, .inl (cI, (12, .inl (fun _ => 0)))), (u15, .inl (cI, (12, .inl (fun _ => 0))))] H := hP
  have hD : va_D A [(a, .inr (2, [.ref u7, .ref u15, .int 0, .int 0, .int 0])), (u7, .inl (cI, (12, .inl (fun _ => 0)))), (u15, .inl (cI, (12, .inl (fun _ => 0))))] := hD
  exact W.vret hx hb hr (fun t ht hW => ⟨⟨(u7, u15), rfl, trivial, by rw [ht]; exact hP, va_K.moved hW.alike hK, hD⟩, hS.F ht⟩) hS.2.2 d_R_init_20 C.2.2.2.1
def rm_P_init : Room := { frames := 2, cells := 6, slots := 252, locals := 45 }
set_option maxHeartbeats 4000000 in
set_option maxRecDepth 100000 in
theorem m_P_init {l : Launch} {D : va_G} {cI cL cZ cS : ClassId} {a sz : Nat} : Met l y_P_init (Cond.code y_P_init c_P_init 1 none :: TB) rm_P_init (cPc D cls (tyl cI cL cZ cS) [(a, .inr (1, [.null, .null, .null, .null, .int 0, .int 0]))] sz [.ref a]) (va_Qv (fun u : Nat × Nat × Nat × Nat × Nat × Nat × (Nat → Int64) => ∀ j, j < 50 → (u.2.2.2.2.2.2) j = 1) (fun u t => cB D cls (tyl cI cL cZ cS) (va_A [(a, .inr (1, [.null, .null, .null, .null, .int 0, .int 0]))] sz) [(a, .inr (1, [.ref (u.1), .ref (u.2.1), .ref (u.2.2.1), .ref (u.2.2.2.1), .int 0, .int 0])), ((u.1), .inl (cL, (50, .inr (.inl (fun _ => 0))))), ((u.2.1), .inl (cI, (50, .inl (fun _ => 0)))), ((u.2.2.1), .inl (cI, (50, .inl (fun _ => 0)))), ((u.2.2.2.1), .inr (0, [.ref (u.2.2.2.2.1), .ref (u.2.2.2.2.2.1)])), ((u.2.2.2.2.1), .inl (cL, (50, .inr (.inl (fun _ => 0))))), ((u.2.2.2.2.2.1), .inl (cL, (50, .inr (.inl (u.2.2.2.2.2.2)))))] t) (va_A [(a, .inr (1, [.null, .null, .null, .null, .int 0, .int 0]))] sz)) 6 252 (va_A [(a, .inr (1, [.null, .null, .null, .null, .int 0, .int 0]))] sz) := by
  refine Met.ofW (cc := c_P_init) (maxL := 1) (ret := none) (by decide) rfl ?_
  intro p e s m args below meth c s₁ B hml hv
  obtain ⟨rfl, hsz, hP, hK, hD0, hN⟩ := hv
  subst hsz
  have hD : va_D (va_A [(a, .inr (1, [.null, .null, .null, .null, .int 0, .int 0]))] s.heap.size) [(a, .inr (1, [.null, .null, .null, .null, .int 0, .int 0]))] := hD0.self (sz := s.heap.size)
  have hA : ∀ q : Nat, s.heap.size ≤ q → (va_A [(a, .inr (1, [.null, .null, .null, .null, .int 0, .int 0]))] s.heap.size) q := fun q h => Or.inr h
  have hN : NX (va_A [(a, .inr (1, [.null, .null, .null, .null, .int 0, .int 0]))] s.heap.size) s s.heap := hN
  generalize (va_A [(a, .inr (1, [.null, .null, .null, .null, .int 0, .int 0]))] s.heap.size) = A at hD hA hN ⊢
  have C : wC TB "PreferenceCount$Pile" c_P_init 1 none D cls (tyl cI cL cZ cS) A p s m ([.ref a].toArray) meth c := ⟨B.exec, B.bytes, B.returns, B.notSynchronized, fun w hw => atoms_spec (ws := Cond.code y_P_init c_P_init 1 none :: TB) B.pre w (List.mem_cons_of_mem _ hw), findClass_of_methodNamed B.named, hml, hK, hN, hA⟩
  have hx := C.1
  have hb := C.2.1
  have hr := C.2.2.1
  have hts := C.2.2.2.2.1
  have hown := C.2.2.2.2.2.1
  have hin : meth.name = "<init>" := (name_of_methodNamed B.named B.method).1
  have hS : va_S A s.heap s.heap [] := va_S.rf
  have hl := lv_entry ([.ref a]) (n := 1) (Nat.le_of_ble_eq_true rfl)
  rw [lg_entry_eq]
  generalize (lg_sl ([.ref a]) ++ List.replicate (1 - (lg_sl ([.ref a])).length) Slot.unset).toArray = ls at hl ⊢
  have hl : lv_has ls 1 [(0, .ref a)] := hl
  refine lv_aload_n hx hb d_P_init_0 rfl (lv_at hl 0 rfl) ?_
  refine W.objInit hx hb hown (hts _ kw_57) (hts _ kw_22) (hts _ kw_23) rfl (by rw [hml]; exact hl.1) rfl d_P_init_1 (Nat.le_of_ble_eq_true rfl) (Nat.le_of_ble_eq_true rfl) ?_
  refine W.eq (g2 := F0 m 4 ls []) rfl ?_
  refine lv_aload_n hx hb d_P_init_4 rfl (lv_at hl 0 rfl) ?_
  refine lv_bipush (v := 50) hx hb d_P_init_5 (by decide) ?_
  refine k_newa (atype := .long) (ty := .long) (cA0 := cL) (N' := 50) (a0 := (50, .inr (.inl (fun _ => 0)))) C kw_76 rfl 1 rfl (fun _ h => h) hP hD hS (fun _ => rfl) (by decide) (by decide) (by decide) (Nat.le_of_ble_eq_true rfl) (Nat.le_of_ble_eq_true rfl) d_P_init_7 (fun u7 H hP hD hS => ?_)
  have hP : va_P D cls [(a, .inr (1, [.null, .null, .null, .null, .int 0, .int 0])), (u7, .inl (cL, (50, .inr (.inl (fun _ => 0)))))] H := hP
  have hD : va_D A [(a, .inr (1, [.null, .null, .null, .null, .int 0, .int 0])), (u7, .inl (cL, (50, .inr (.inl (fun _ => 0)))))] := hD
  refine va_putF (D := D) (ci := 1) (v := .ref u7) (ty := (.array .long)) (C := "PreferenceCount$Pile") (T := T_P) (N := 6) hx hb hts ku_P ft_P fo_P fn_P hown hK hP hD hS 0 rfl rfl 0 (by decide) (hts _ kw_77) (fun _ h9 => h9) rfl hin rfl (by decide +kernel) rfl rfl (Nat.le_of_ble_eq_true rfl) d_P_init_9 (fun H locs hP hD hS => ?_)
  have hP : va_P D cls [(a, .inr (1, [.ref u7, .null, .null, .null, .int 0, .int 0])), (u7, .inl (cL, (50, .inr (.inl (fun _ => 0)))))] H := hP
  have hD : va_D A [(a, .inr (1, [.ref u7, .null, .null, .null, .int 0, .int 0])), (u7, .inl (cL, (50, .inr (.inl (fun _ => 0)))))] := hD
  refine lv_aload_n hx hb d_P_init_12 rfl (lv_at hl 0 rfl) ?_
  refine lv_bipush (v := 50) hx hb d_P_init_13 (by decide) ?_
  refine k_newa (atype := .int) (ty := .int) (cA0 := cI) (N' := 50) (a0 := (50, .inl (fun _ => 0))) C kw_51 rfl 0 rfl (fun _ h => h) hP hD hS (fun _ => rfl) (by decide) (by decide) (by decide) (Nat.le_of_ble_eq_true rfl) (Nat.le_of_ble_eq_true rfl) d_P_init_15 (fun u15 H hP hD hS => ?_)
  have hP : va_P D cls [(a, .inr (1, [.ref u7, .null, .null, .null, .int 0, .int 0])), (u7, .inl (cL, (50, .inr (.inl (fun _ => 0))))), (u15, .inl (cI, (50, .inl (fun _ => 0))))] H := hP
  have hD : va_D A [(a, .inr (1, [.ref u7, .null, .null, .null, .int 0, .int 0])), (u7, .inl (cL, (50, .inr (.inl (fun _ => 0))))), (u15, .inl (cI, (50, .inl (fun _ => 0))))] := hD
  refine va_putF (D := D) (ci := 1) (v := .ref u15) (ty := (.array .int)) (C := "PreferenceCount$Pile") (T := T_P) (N := 6) hx hb hts ku_P ft_P fo_P fn_P hown hK hP hD hS 0 rfl rfl 1 (by decide) (hts _ kw_79) (fun _ h9 => h9) rfl hin rfl (by decide +kernel) rfl rfl (Nat.le_of_ble_eq_true rfl) d_P_init_17 (fun H locs hP hD hS => ?_)
  have hP : va_P D cls [(a, .inr (1, [.ref u7, .ref u15, .null, .null, .int 0, .int 0])), (u7, .inl (cL, (50, .inr (.inl (fun _ => 0))))), (u15, .inl (cI, (50, .inl (fun _ => 0))))] H := hP
  have hD : va_D A [(a, .inr (1, [.ref u7, .ref u15, .null, .null, .int 0, .int 0])), (u7, .inl (cL, (50, .inr (.inl (fun _ => 0))))), (u15, .inl (cI, (50, .inl (fun _ => 0))))] := hD
  refine lv_aload_n hx hb d_P_init_20 rfl (lv_at hl 0 rfl) ?_
  refine lv_bipush (v := 50) hx hb d_P_init_21 (by decide) ?_
  refine k_newa (atype := .int) (ty := .int) (cA0 := cI) (N' := 50) (a0 := (50, .inl (fun _ => 0))) C kw_51 rfl 0 rfl (fun _ h => h) hP hD hS (fun _ => rfl) (by decide) (by decide) (by decide) (Nat.le_of_ble_eq_true rfl) (Nat.le_of_ble_eq_true rfl) d_P_init_23 (fun u23 H hP hD hS => ?_)
  have hP : va_P D cls [(a, .inr (1, [.ref u7, .ref u15, .null, .null, .int 0, .int 0])), (u7, .inl (cL, (50, .inr (.inl (fun _ => 0))))), (u15, .inl (cI, (50, .inl (fun _ => 0)))), (u23, .inl (cI, (50, .inl (fun _ => 0))))] H := hP
  have hD : va_D A [(a, .inr (1, [.ref u7, .ref u15, .null, .null, .int 0, .int 0])), (u7, .inl (cL, (50, .inr (.inl (fun _ => 0))))), (u15, .inl (cI, (50, .inl (fun _ => 0)))), (u23, .inl (cI, (50, .inl (fun _ => 0))))] := hD
  refine va_putF (D := D) (ci := 1) (v := .ref u23) (ty := (.array .int)) (C := "PreferenceCount$Pile") (T := T_P) (N := 6) hx hb hts ku_P ft_P fo_P fn_P hown hK hP hD hS 0 rfl rfl 2 (by decide) (hts _ kw_81) (fun _ h9 => h9) rfl hin rfl (by decide +kernel) rfl rfl (Nat.le_of_ble_eq_true rfl) d_P_init_25 (fun H locs hP hD hS => ?_)
  have hP : va_P D cls [(a, .inr (1, [.ref u7, .ref u15, .ref u23, .null, .int 0, .int 0])), (u7, .inl (cL, (50, .inr (.inl (fun _ => 0))))), (u15, .inl (cI, (50, .inl (fun _ => 0)))), (u23, .inl (cI, (50, .inl (fun _ => 0))))] H := hP
  have hD : va_D A [(a, .inr (1, [.ref u7, .ref u15, .ref u23, .null, .int 0, .int 0])), (u7, .inl (cL, (50, .inr (.inl (fun _ => 0))))), (u15, .inl (cI, (50, .inl (fun _ => 0)))), (u23, .inl (cI, (50, .inl (fun _ => 0))))] := hD
  refine lv_aload_n hx hb d_P_init_28 rfl (lv_at hl 0 rfl) ?_
  refine va_new (ci := 0) (fs := [.null, .null]) (C := "PreferenceCount$Fractions") (T := T_F) (N := 2) hx hb hts ku_F ft_F fo_F hown (hts _ kw_58) (hts _ kw_59) (hts _ kw_4) hK hP hD hS hA rfl dv_F (Nat.le_of_ble_eq_true rfl) (Nat.le_of_ble_eq_true rfl) d_P_init_29 (fun u29 H hP hD hS => ?_)
  have hP : va_P D cls [(a, .inr (1, [.ref u7, .ref u15, .ref u23, .null, .int 0, .int 0])), (u7, .inl (cL, (50, .inr (.inl (fun _ => 0))))), (u15, .inl (cI, (50, .inl (fun _ => 0)))), (u23, .inl (cI, (50, .inl (fun _ => 0)))), (u29, .inr (0, [.null, .null]))] H := hP
  have hD : va_D A [(a, .inr (1, [.ref u7, .ref u15, .ref u23, .null, .int 0, .int 0])), (u7, .inl (cL, (50, .inr (.inl (fun _ => 0))))), (u15, .inl (cI, (50, .inl (fun _ => 0)))), (u23, .inl (cI, (50, .inl (fun _ => 0)))), (u29, .inr (0, [.null, .null]))] := hD
  refine lv_dup hx hb d_P_init_32 rfl ?_
  refine lv_bipush (v := 50) hx hb d_P_init_33 (by decide) ?_
  refine k_call (wr := [(a, .inr (1, [.ref u7, .ref u15, .ref u23, .null, .int 0, .int 0])), (u7, .inl (cL, (50, .inr (.inl (fun _ => 0))))), (u15, .inl (cI, (50, .inl (fun _ => 0)))), (u23, .inl (cI, (50, .inl (fun _ => 0))))]) C hP hD hS [4] [0, 1, 2, 3] rfl rfl (by decide) (by decide) (va_runI (As := [.int 50]) (rest := [.ref u29, .ref a]) ⟨hx, hb, hml, hown, hts⟩ m_F_init50 (cwI 1 hts (g_C kw_62) rfl rfl rfl (hts _ kw_4) (hts _ kw_60) (hts _ kw_61) rfl (by decide +kernel) ⟨(Nat.le_of_ble_eq_true rfl), (Nat.le_of_ble_eq_true rfl)⟩) (k_pre C hP hD hS [4] rfl rfl (by decide)) rfl rfl hl.1 rfl (lv_room (Nat.le_of_ble_eq_true rfl)) d_P_init_35 ⟨(Nat.le_of_ble_eq_true rfl), (Nat.le_of_ble_eq_true rfl)⟩) (fun w35 H locs hq35 hP hD hS => ?_)
  obtain ⟨u6_35, u13_35, g23_35⟩ := w35
  have hP : va_P D cls [(a, .inr (1, [.ref u7, .ref u15, .ref u23, .null, .int 0, .int 0])), (u7, .inl (cL, (50, .inr (.inl (fun _ => 0))))), (u15, .inl (cI, (50, .inl (fun _ => 0)))), (u23, .inl (cI, (50, .inl (fun _ => 0)))), (u29, .inr (0, [.ref u6_35, .ref u13_35])), (u6_35, .inl (cL, (50, .inr (.inl (fun _ => 0))))), (u13_35, .inl (cL, (50, .inr (.inl g23_35))))] H := hP
  have hD : va_D A [(a, .inr (1, [.ref u7, .ref u15, .ref u23, .null, .int 0, .int 0])), (u7, .inl (cL, (50, .inr (.inl (fun _ => 0))))), (u15, .inl (cI, (50, .inl (fun _ => 0)))), (u23, .inl (cI, (50, .inl (fun _ => 0)))), (u29, .inr (0, [.ref u6_35, .ref u13_35])), (u6_35, .inl (cL, (50, .inr (.inl (fun _ => 0))))), (u13_35, .inl (cL, (50, .inr (.inl g23_35))))] := hD
  refine va_putF (D := D) (ci := 1) (v := .ref u29) (ty := (.object "PreferenceCount$Fractions")) (C := "PreferenceCount$Pile") (T := T_P) (N := 6) hx hb hts ku_P ft_P fo_P fn_P hown hK hP hD hS 0 rfl rfl 3 (by decide) (hts _ kw_83) (fun _ h9 => h9) rfl hin rfl (by decide +kernel) rfl rfl (Nat.le_of_ble_eq_true rfl) d_P_init_38 (fun H locs hP hD hS => ?_)
  have hP : va_P D cls [(a, .inr (1, [.ref u7, .ref u15, .ref u23, .ref u29, .int 0, .int 0])), (u7, .inl (cL, (50, .inr (.inl (fun _ => 0))))), (u15, .inl (cI, (50, .inl (fun _ => 0)))), (u23, .inl (cI, (50, .inl (fun _ => 0)))), (u29, .inr (0, [.ref u6_35, .ref u13_35])), (u6_35, .inl (cL, (50, .inr (.inl (fun _ => 0))))), (u13_35, .inl (cL, (50, .inr (.inl g23_35))))] H := hP
  have hD : va_D A [(a, .inr (1, [.ref u7, .ref u15, .ref u23, .ref u29, .int 0, .int 0])), (u7, .inl (cL, (50, .inr (.inl (fun _ => 0))))), (u15, .inl (cI, (50, .inl (fun _ => 0)))), (u23, .inl (cI, (50, .inl (fun _ => 0)))), (u29, .inr (0, [.ref u6_35, .ref u13_35])), (u6_35, .inl (cL, (50, .inr (.inl (fun _ => 0))))), (u13_35, .inl (cL, (50, .inr (.inl g23_35))))] := hD
  exact W.vret hx hb hr (fun t ht hW => ⟨⟨(u7, u15, u23, u29, u6_35, u13_35, g23_35), rfl, hq35, by rw [ht]; exact hP, va_K.moved hW.alike hK, hD⟩, hS.F ht⟩) hS.2.2 d_P_init_41 C.2.2.2.1
def rm_S_init : Room := { frames := 2, cells := 4, slots := 41, locals := 45 }
set_option maxHeartbeats 4000000 in
set_option maxRecDepth 100000 in
theorem m_S_init {l : Launch} {D : va_G} {cI cL cZ cS : ClassId} {a sz : Nat} : Met l y_S_init (Cond.code y_S_init c_S_init 1 none :: TB) rm_S_init (cPc D cls (tyl cI cL cZ cS) [(a, .inr (3, [.null, .null]))] sz [.ref a]) (va_Qv (fun u : Nat × Nat × Nat × (Nat → Int64) × Nat => ∀ j, j < 13 → (u.2.2.2.1) j = 1) (fun u t => cB D cls (tyl cI cL cZ cS) (va_A [(a, .inr (3, [.null, .null]))] sz) [(a, .inr (3, [.ref (u.1), .ref (u.2.2.2.2)])), ((u.1), .inr (0, [.ref (u.2.1), .ref (u.2.2.1)])), ((u.2.1), .inl (cL, (13, .inr (.inl (fun _ => 0))))), ((u.2.2.1), .inl (cL, (13, .inr (.inl (u.2.2.2.1))))), ((u.2.2.2.2), .inl (cI, (13, .inl (fun _ => 0))))] t) (va_A [(a, .inr (3, [.null, .null]))] sz)) 4 41 (va_A [(a, .inr (3, [.null, .null]))] sz) := by
  refine Met.ofW (cc := c_S_init) (maxL := 1) (ret := none) (by decide) rfl ?_
  intro p e s m args below meth c s₁ B hml hv
  obtain ⟨rfl, hsz, hP, hK, hD0, hN⟩ := hv
  subst hsz
  have hD : va_D (va_A [(a, .inr (3, [.null, .null]))] s.heap.size) [(a, .inr (3, [.null, .null]))] := hD0.self (sz := s.heap.size)
  have hA : ∀ q : Nat, s.heap.size ≤ q → (va_A [(a, .inr (3, [.null, .null]))] s.heap.size) q := fun q h => Or.inr h
  have hN : NX (va_A [(a, .inr (3, [.null, .null]))] s.heap.size) s s.heap := hN
  generalize (va_A [(a, .inr (3, [.null, .null]))] s.heap.size) = A at hD hA hN ⊢
  have C : wC TB "PreferenceCount$Stage" c_S_init 1 none D cls (tyl cI cL cZ cS) A p s m ([.ref a].toArray) meth c := ⟨B.exec, B.bytes, B.returns, B.notSynchronized, fun w hw => atoms_spec (ws := Cond.code y_S_init c_S_init 1 none :: TB) B.pre w (List.mem_cons_of_mem _ hw), findClass_of_methodNamed B.named, hml, hK, hN, hA⟩
  have hx := C.1
  have hb := C.2.1
  have hr := C.2.2.1
  have hts := C.2.2.2.2.1
  have hown := C.2.2.2.2.2.1
  have hin : meth.name = "<init>" := (name_of_methodNamed B.named B.method).1
  have hS : va_S A s.heap s.heap [] := va_S.rf
  have hl := lv_entry ([.ref a]) (n := 1) (Nat.le_of_ble_eq_true rfl)
  rw [lg_entry_eq]
  generalize (lg_sl ([.ref a]) ++ List.replicate (1 - (lg_sl ([.ref a])).length) Slot.unset).toArray = ls at hl ⊢
  have hl : lv_has ls 1 [(0, .ref a)] := hl
  refine lv_aload_n hx hb d_S_init_0 rfl (lv_at hl 0 rfl) ?_
  refine W.objInit hx hb hown (hts _ kw_108) (hts _ kw_22) (hts _ kw_23) rfl (by rw [hml]; exact hl.1) rfl d_S_init_1 (Nat.le_of_ble_eq_true rfl) (Nat.le_of_ble_eq_true rfl) ?_
  refine W.eq (g2 := F0 m 4 ls []) rfl ?_
  refine lv_aload_n hx hb d_S_init_4 rfl (lv_at hl 0 rfl) ?_
  refine va_new (ci := 0) (fs := [.null, .null]) (C := "PreferenceCount$Fractions") (T := T_F) (N := 2) hx hb hts ku_F ft_F fo_F hown (hts _ kw_109) (hts _ kw_59) (hts _ kw_4) hK hP hD hS hA rfl dv_F (Nat.le_of_ble_eq_true rfl) (Nat.le_of_ble_eq_true rfl) d_S_init_5 (fun u5 H hP hD hS => ?_)
  have hP : va_P D cls [(a, .inr (3, [.null, .null])), (u5, .inr (0, [.null, .null]))] H := hP
  have hD : va_D A [(a, .inr (3, [.null, .null])), (u5, .inr (0, [.null, .null]))] := hD
  refine lv_dup hx hb d_S_init_8 rfl ?_
  refine lv_bipush (v := 13) hx hb d_S_init_9 (by decide) ?_
  refine k_call (wr := [(a, .inr (3, [.null, .null]))]) C hP hD hS [1] [0] rfl rfl (by decide) (by decide) (va_runI (As := [.int 13]) (rest := [.ref u5, .ref a]) ⟨hx, hb, hml, hown, hts⟩ m_F_init13 (cwI 1 hts (g_C kw_62) rfl rfl rfl (hts _ kw_4) (hts _ kw_110) (hts _ kw_61) rfl (by decide +kernel) ⟨(Nat.le_of_ble_eq_true rfl), (Nat.le_of_ble_eq_true rfl)⟩) (k_pre C hP hD hS [1] rfl rfl (by decide)) rfl rfl hl.1 rfl (lv_room (Nat.le_of_ble_eq_true rfl)) d_S_init_11 ⟨(Nat.le_of_ble_eq_true rfl), (Nat.le_of_ble_eq_true rfl)⟩) (fun w11 H locs hq11 hP hD hS => ?_)
  obtain ⟨u6_11, u13_11, g23_11⟩ := w11
  have hP : va_P D cls [(a, .inr (3, [.null, .null])), (u5, .inr (0, [.ref u6_11, .ref u13_11])), (u6_11, .inl (cL, (13, .inr (.inl (fun _ => 0))))), (u13_11, .inl (cL, (13, .inr (.inl g23_11))))] H := hP
  have hD : va_D A [(a, .inr (3, [.null, .null])), (u5, .inr (0, [.ref u6_11, .ref u13_11])), (u6_11, .inl (cL, (13, .inr (.inl (fun _ => 0))))), (u13_11, .inl (cL, (13, .inr (.inl g23_11))))] := hD
  refine va_putF (D := D) (ci := 3) (v := .ref u5) (ty := (.object "PreferenceCount$Fractions")) (C := "PreferenceCount$Stage") (T := T_S) (N := 2) hx hb hts ku_S ft_S fo_S fn_S hown hK hP hD hS 0 rfl rfl 0 (by decide) (hts _ kw_111) (fun _ h9 => h9) rfl hin rfl (by decide +kernel) rfl rfl (Nat.le_of_ble_eq_true rfl) d_S_init_14 (fun H locs hP hD hS => ?_)
  have hP : va_P D cls [(a, .inr (3, [.ref u5, .null])), (u5, .inr (0, [.ref u6_11, .ref u13_11])), (u6_11, .inl (cL, (13, .inr (.inl (fun _ => 0))))), (u13_11, .inl (cL, (13, .inr (.inl g23_11))))] H := hP
  have hD : va_D A [(a, .inr (3, [.ref u5, .null])), (u5, .inr (0, [.ref u6_11, .ref u13_11])), (u6_11, .inl (cL, (13, .inr (.inl (fun _ => 0))))), (u13_11, .inl (cL, (13, .inr (.inl g23_11))))] := hD
  refine lv_aload_n hx hb d_S_init_17 rfl (lv_at hl 0 rfl) ?_
  refine lv_bipush (v := 13) hx hb d_S_init_18 (by decide) ?_
  refine k_newa (atype := .int) (ty := .int) (cA0 := cI) (N' := 13) (a0 := (13, .inl (fun _ => 0))) C kw_51 rfl 0 rfl (fun _ h => h) hP hD hS (fun _ => rfl) (by decide) (by decide) (by decide) (Nat.le_of_ble_eq_true rfl) (Nat.le_of_ble_eq_true rfl) d_S_init_20 (fun u20 H hP hD hS => ?_)
  have hP : va_P D cls [(a, .inr (3, [.ref u5, .null])), (u5, .inr (0, [.ref u6_11, .ref u13_11])), (u6_11, .inl (cL, (13, .inr (.inl (fun _ => 0))))), (u13_11, .inl (cL, (13, .inr (.inl g23_11)))), (u20, .inl (cI, (13, .inl (fun _ => 0))))] H := hP
  have hD : va_D A [(a, .inr (3, [.ref u5, .null])), (u5, .inr (0, [.ref u6_11, .ref u13_11])), (u6_11, .inl (cL, (13, .inr (.inl (fun _ => 0))))), (u13_11, .inl (cL, (13, .inr (.inl g23_11)))), (u20, .inl (cI, (13, .inl (fun _ => 0))))] := hD
  refine va_putF (D := D) (ci := 3) (v := .ref u20) (ty := (.array .int)) (C := "PreferenceCount$Stage") (T := T_S) (N := 2) hx hb hts ku_S ft_S fo_S fn_S hown hK hP hD hS 0 rfl rfl 1 (by decide) (hts _ kw_113) (fun _ h9 => h9) rfl hin rfl (by decide +kernel) rfl rfl (Nat.le_of_ble_eq_true rfl) d_S_init_22 (fun H locs hP hD hS => ?_)
  have hP : va_P D cls [(a, .inr (3, [.ref u5, .ref u20])), (u5, .inr (0, [.ref u6_11, .ref u13_11])), (u6_11, .inl (cL, (13, .inr (.inl (fun _ => 0))))), (u13_11, .inl (cL, (13, .inr (.inl g23_11)))), (u20, .inl (cI, (13, .inl (fun _ => 0))))] H := hP
  have hD : va_D A [(a, .inr (3, [.ref u5, .ref u20])), (u5, .inr (0, [.ref u6_11, .ref u13_11])), (u6_11, .inl (cL, (13, .inr (.inl (fun _ => 0))))), (u13_11, .inl (cL, (13, .inr (.inl g23_11)))), (u20, .inl (cI, (13, .inl (fun _ => 0))))] := hD
  exact W.vret hx hb hr (fun t ht hW => ⟨⟨(u5, u6_11, u13_11, g23_11, u20), rfl, hq11, by rw [ht]; exact hP, va_K.moved hW.alike hK, hD⟩, hS.F ht⟩) hS.2.2 d_S_init_25 C.2.2.2.1
