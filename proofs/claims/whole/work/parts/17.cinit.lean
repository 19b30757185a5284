def rm_C_init : Room := { frames := 3, cells := 76, slots := 859, locals := 65 }
set_option maxHeartbeats 4000000 in
set_option maxRecDepth 100000 in
theorem b_C_init_62 {p : Program} {l : Launch} {e : Env} {s : State} {m : MethodId} {args : Array Value} {below : List Frame} {meth : Method} {c : Code} {D : va_G} {cI cL cZ cS : ClassId} {A : Nat → Prop} {a : Nat} {Q : Mem → Prop} (C : wC TB "PreferenceCount" c_C_init 2 none D cls (tyl cI cL cZ cS) A p s m args meth c) (h : ∀ σ : Mem, wp_C_startAnew Q 2 1 σ) {ad : Nat → Nat} {σ : Mem} {H : Heap} {locs : List Loc} {ls : Array Slot} (ha : ad 0 = a) (hl : lv_has ls 2 [(0, .ref (ad 0))]) (hP : va_P D cls (wW 77 (fX cI cL cS ad) ad σ ++ []) H) (hD : va_D A (wW 77 (fX cI cL cS ad) ad σ ++ [])) (hS : va_S A s.heap H locs) : W p l e (headSpec (Cond.code y_C_init c_C_init 2 none :: TB) rm_C_init).room s m args below meth c H locs (76) (859) (MQ below (va_Qv (fun u : (Nat → Nat) × Mem => Q u.2 ∧ u.1 0 = a) (fun u t => cB D cls (tyl cI cL cZ cS) A (wW 77 (fX cI cL cS u.1) u.1 u.2 ++ []) t) A) args s 76 859 A) (F0 m 62 ls []) := by
  have hx := C.1
  have hb := C.2.1
  have hr := C.2.2.1
  have hts := C.2.2.2.2.1
  have hown := C.2.2.2.2.2.1
  have hml := C.2.2.2.2.2.2.1
  have hK := C.2.2.2.2.2.2.2.1
  have hA := C.2.2.2.2.2.2.2.2.2
  refine lv_aload_n hx hb d_C_init_62 rfl (lv_at hl 0 rfl) ?_
  refine lv_iconst (v := 2) hx hb d_C_init_63 (by decide) ?_
  refine lv_iconst (v := 1) hx hb d_C_init_64 (by decide) ?_
  refine r_callv C hD hS (va_runV (As := [.int 2, .int 1]) (rest := []) ⟨hx, hb, hml, hown, hts⟩ (m_C_startAnew (h σ)) (cwV 2 hts (g_V kw_120 kw_122 kp_0 kw_1 kw_123) rfl rfl rfl (by decide +kernel) ⟨(Nat.le_of_ble_eq_true rfl), (Nat.le_of_ble_eq_true rfl)⟩) (r_preV (o := 0) C hP hD hS (by decide) rfl rfl) rfl rfl hl.1 rfl (lv_room (Nat.le_of_ble_eq_true rfl)) d_C_init_65 ⟨(Nat.le_of_ble_eq_true rfl), (Nat.le_of_ble_eq_true rfl)⟩) (fun σ H locs h hP hD hS => ?_)
  exact W.vret hx hb hr (fun t ht hW => ⟨⟨(ad, σ), rfl, ⟨h, ha⟩, by rw [ht]; exact hP, va_K.moved hW.alike hK, hD⟩, hS.F ht⟩) hS.2.2 d_C_init_68 C.2.2.2.1
theorem cin_full {D : va_G} {cI cL cS : ClassId} {ad : Nat → Nat} {σ : Mem} {H : Heap} {A : Nat → Prop} (hP : va_P D cls (wW (12 + 5 * 13) (fXk 13 cI cL cS ad) ad σ ++ []) H) (hD : va_D A (wW (12 + 5 * 13) (fXk 13 cI cL cS ad) ad σ ++ [])) : va_P D cls (wW 77 (fX cI cL cS ad) ad σ ++ []) H ∧ va_D A (wW 77 (fX cI cL cS ad) ad σ ++ []) := by
  have hat : ∀ k (q : Nat × va_E), (wW 77 (fX cI cL cS ad) ad σ ++ [])[k]? = some q → k < 77 ∧ q = (ad k, fX cI cL cS ad k (σ.1 k) (σ.2 k)) := fun k q h => by
    rw [List.append_nil] at h
    have hk : k < 77 := by
      have := (List.getElem?_eq_some_iff.mp h).1
      simpa [wW] using this
    refine ⟨hk, ?_⟩
    simp [wW, hk] at h
    exact h.symm
  have hat' : ∀ k, k < 77 → (wW (12 + 5 * 13) (fXk 13 cI cL cS ad) ad σ ++ [])[k]? = some (ad k, fXk 13 cI cL cS ad k (σ.1 k) (σ.2 k)) := fun k hk => wW_at hk rfl
  constructor
  · intro k q hq
    obtain ⟨hk, rfl⟩ := hat k q hq
    have h1 := hP k _ (hat' k hk)
    by_cases h11 : k = 11
    · subst h11
      have h2 : H[ad 11]? = some (vp_cell cS (13, .inr (.inr (.inr (.inr (fun i => if i < 13 then some (ad (12 + 5 * i)) else none)))))) := h1
      show H[ad 11]? = some (vp_cell cS (13, .inr (.inr (.inr (.inr (fun i => some (ad (12 + 5 * i))))))))
      rw [h2, vp_cell_q, vp_cell_q]
      unfold arrV
      congr 3
      funext i
      show va_rf (if i.val < 13 then some (ad (12 + 5 * i.val)) else none) = va_rf (some (ad (12 + 5 * i.val)))
      rw [if_pos i.isLt]
    · rw [fXk_ne h11] at h1
      exact h1
  · refine ⟨fun i j a b hi hj e0 => ?_, fun k q hq => ?_⟩
    · obtain ⟨h1, rfl⟩ := hat i a hi
      obtain ⟨h2, rfl⟩ := hat j b hj
      exact hD.1 i j _ _ (hat' i h1) (hat' j h2) e0
    · obtain ⟨h1, rfl⟩ := hat k q hq
      have h2 := hD.2 k _ (hat' k h1)
      exact h2
set_option maxHeartbeats 4000000 in
set_option maxRecDepth 100000 in
theorem b_C_init_37 {p : Program} {l : Launch} {e : Env} {s : State} {m : MethodId} {args : Array Value} {below : List Frame} {meth : Method} {c : Code} {D : va_G} {cI cL cZ cS : ClassId} {A : Nat → Prop} {a : Nat} {Q : Mem → Prop} (C : wC TB "PreferenceCount" c_C_init 2 none D cls (tyl cI cL cZ cS) A p s m args meth c) (h : ∀ σ : Mem, wp_C_startAnew Q 2 1 σ) : ∀ (n k : Nat) {ad : Nat → Nat} {σ : Mem} {H : Heap} {locs : List Loc} {ls : Array Slot}, n + k = 13 → ad 0 = a → (∀ j, σ.1 j = fun _ => 0) → (∀ j, 12 + 5 * k ≤ j → σ.2 j = fun _ => 0) → lv_has ls 2 [(0, .ref (ad 0)), (1, .int (nI k))] → va_P D cls (wW (12 + 5 * k) (fXk k cI cL cS ad) ad σ ++ []) H → va_D A (wW (12 + 5 * k) (fXk k cI cL cS ad) ad σ ++ []) → va_S A s.heap H locs → W p l e (headSpec (Cond.code y_C_init c_C_init 2 none :: TB) rm_C_init).room s m args below meth c H locs (11 + 5 * k) (300 + 43 * k) (MQ below (va_Qv (fun u : (Nat → Nat) × Mem => Q u.2 ∧ u.1 0 = a) (fun u t => cB D cls (tyl cI cL cZ cS) A (wW 77 (fX cI cL cS u.1) u.1 u.2 ++ []) t) A) args s 76 859 A) (F0 m 37 ls []) := by
  have hx := C.1
  have hb := C.2.1
  have hr := C.2.2.1
  have hts := C.2.2.2.2.1
  have hown := C.2.2.2.2.2.1
  have hml := C.2.2.2.2.2.2.1
  have hK := C.2.2.2.2.2.2.2.1
  have hA := C.2.2.2.2.2.2.2.2.2
  intro n
  induction n with
  | zero =>
    intro k ad σ H locs ls hnk ha h1 h2 hl hP hD hS
    have hk : k = 13 := by omega
    subst hk
    refine lv_iload_n hx hb d_C_init_37 rfl (lv_at hl 1 rfl) ?_
    refine lv_bipush (v := 13) hx hb d_C_init_38 (by decide) ?_
    refine lv_icmp_ge hx hb d_C_init_40 rfl (fun hc => ?_) (fun hc => absurd (by decide) hc)
    obtain ⟨hP, hD⟩ := cin_full hP hD
    exact b_C_init_62 C h ha (lv_sub hl [0] rfl) hP hD hS
  | succ n ih =>
    intro k ad σ H locs ls hnk ha h1 h2 hl hP hD hS
    have hk : k < 13 := by omega
    refine lv_iload_n hx hb d_C_init_37 rfl (lv_at hl 1 rfl) ?_
    refine lv_bipush (v := 13) hx hb d_C_init_38 (by decide) ?_
    refine lv_icmp_ge hx hb d_C_init_40 rfl (fun hc => absurd hc (nI_ge (a := k) (b := 13) hk (by decide))) (fun hc => ?_)
    refine lv_aload_n hx hb d_C_init_43 rfl (lv_at hl 0 rfl) ?_
    refine r_get C ku_C hP (by omega) rfl rfl 2 (by decide) kw_134 rfl d_C_init_44 ?_
    refine lv_iload_n hx hb d_C_init_47 rfl (lv_at hl 1 rfl) ?_
    refine va_new (ci := 3) (fs := [.null, .null]) (C := "PreferenceCount$Stage") (T := T_S) (N := 2) hx hb hts ku_S ft_S fo_S hown (hts _ kw_102) (hts _ kw_104) (hts _ kw_6) hK hP hD hS hA rfl dv_S (by show 11 + 5 * k + 1 ≤ 76; omega) (by show 300 + 43 * k + 2 ≤ 859; omega) d_C_init_48 (fun q H hP hD hS => ?_)
    refine lv_dup hx hb d_C_init_51 rfl ?_
    have hlen : (wW (12 + 5 * k) (fXk k cI cL cS ad) ad σ ++ []).length = 12 + 5 * k := by simp [wW]
    have hix : ((wW (12 + 5 * k) (fXk k cI cL cS ad) ad σ ++ []) ++ [(q, (.inr (3, [.null, .null]) : va_E))])[12 + 5 * k]? = some (q, .inr (3, [.null, .null])) := by rw [List.getElem?_append_right (by rw [hlen]; omega), hlen]; simp
    have hpre : PreS s H (cPc D cls (tyl cI cL cZ cS) [(q, .inr (3, [.null, .null]))] H.size [.ref q]) [.ref q] := k_pre C hP hD hS [12 + 5 * k] (by rw [List.map_cons, hix]; rfl) (by rw [List.filterMap_cons, hix]; rfl) (by simp [va_nd])
    refine k_callA (wc := [(q, .inr (3, [.null, .null]))]) C hP hD hS (va_runIN (As := []) (rest := [.ref q, .int (nI k), .ref (ad 11)]) ⟨hx, hb, hml, hown, hts⟩ m_S_init ⟨va_cnB 0 hts (g_C kw_107) rfl rfl rfl C.2.2.2.2.2.2.2.2.1.1.2.2.2 (hts _ kw_6) (by decide +kernel) ⟨(Nat.le_of_ble_eq_true rfl), (Nat.le_of_ble_eq_true rfl)⟩, rfl, hts _ kw_106⟩ hpre rfl rfl hl.1 rfl (lv_room (Nat.le_of_ble_eq_true rfl)) d_C_init_52 ⟨by show 11 + 5 * k + 1 + 4 ≤ 76; omega, by show 300 + 43 * k + 2 + 41 ≤ 859; omega⟩) (fun w H locs hq hP hD hS => ?_)
    obtain ⟨u5, u6_11, u13_11, g23_11, u20⟩ := w
    have hP : va_P D cls ((wW (12 + 5 * k) (fXk k cI cL cS ad) ad σ ++ []) ++ ([(q, .inr (3, [.ref u5, .ref u20])), (u5, .inr (0, [.ref u6_11, .ref u13_11])), (u6_11, .inl (cL, (13, .inr (.inl (fun _ => 0))))), (u13_11, .inl (cL, (13, .inr (.inl g23_11)))), (u20, .inl (cI, (13, .inl (fun _ => 0))))] : va_W)) H := hP
    have hD : va_D A ((wW (12 + 5 * k) (fXk k cI cL cS ad) ad σ ++ []) ++ ([(q, .inr (3, [.ref u5, .ref u20])), (u5, .inr (0, [.ref u6_11, .ref u13_11])), (u6_11, .inl (cL, (13, .inr (.inl (fun _ => 0))))), (u13_11, .inl (cL, (13, .inr (.inl g23_11)))), (u20, .inl (cI, (13, .inl (fun _ => 0))))] : va_W)) := hD
    have h11 : ((wW (12 + 5 * k) (fXk k cI cL cS ad) ad σ ++ []) ++ ([(q, .inr (3, [.ref u5, .ref u20])), (u5, .inr (0, [.ref u6_11, .ref u13_11])), (u6_11, .inl (cL, (13, .inr (.inl (fun _ => 0))))), (u13_11, .inl (cL, (13, .inr (.inl g23_11)))), (u20, .inl (cI, (13, .inl (fun _ => 0))))] : va_W))[11]? = some (ad 11, .inl (cS, 13, .inr (.inr (.inr (.inr (fun i => if i < k then some (ad (12 + 5 * i)) else none)))))) := by rw [List.getElem?_append_left (by rw [hlen]; omega)]; exact wW_at (by omega) rfl
    have hst : ((wW (12 + 5 * k) (fXk k cI cL cS ad) ad σ ++ []) ++ ([(q, .inr (3, [.ref u5, .ref u20])), (u5, .inr (0, [.ref u6_11, .ref u13_11])), (u6_11, .inl (cL, (13, .inr (.inl (fun _ => 0))))), (u13_11, .inl (cL, (13, .inr (.inl g23_11)))), (u20, .inl (cI, (13, .inl (fun _ => 0))))] : va_W))[12 + 5 * k]? = some (q, .inr (3, [.ref u5, .ref u20])) := by rw [List.getElem?_append_right (by rw [hlen]; omega), hlen]; simp
    refine va_astq hx hb hK hP hD hS 11 3 (12 + 5 * k) 3 (r := ("PreferenceCount$Stage", T_S, 2)) h11 rfl hst rfl (vp_in_nI hk (by decide)) d_C_init_55 (fun H locs hP hD hS => ?_)
    rw [nI_clamp (by omega), cin_grow hk h1 h2] at hP hD
    refine lv_iinc (k := 1) (v := nI (k + 1)) (lv' := [(1, .int (nI (k + 1))), (0, .ref (ad 0))]) hx hb d_C_init_56 hl rfl (nI_1 k) (by decide) rfl (fun ls hl => ?_)
    refine lv_goto hx hb d_C_init_59 rfl ?_
    have hl : lv_has ls 2 [(0, .ref (adk k ad q u5 u6_11 u13_11 u20 0)), (1, .int (nI (k + 1)))] := by rw [show adk k ad q u5 u6_11 u13_11 u20 0 = ad 0 from if_pos (by omega)]; exact lv_sub hl [1, 0] rfl
    have key := ih (k + 1) (σ := sgk k σ g23_11) (by omega) (show adk k ad q u5 u6_11 u13_11 u20 0 = a by rw [show adk k ad q u5 u6_11 u13_11 u20 0 = ad 0 from if_pos (by omega)]; exact ha) (fun j => h1 j) (fun j hj => by show (if j = 15 + 5 * k then _ else σ.2 j) = _; rw [if_neg (by omega)]; exact h2 j (by omega)) hl hP hD hS
    have e1 : 11 + 5 * (k + 1) = 11 + 5 * k + 1 + 4 := by omega
    have e2 : 300 + 43 * (k + 1) = 300 + 43 * k + 2 + 41 := by omega
    rw [e1, e2] at key
    exact key
set_option maxHeartbeats 4000000 in
set_option maxRecDepth 100000 in
theorem m_C_init {l : Launch} {D : va_G} {cI cL cZ cS : ClassId} {a sz : Nat} {Q : Mem → Prop} (h : ∀ σ : Mem, wp_C_startAnew Q 2 1 σ) : Met l y_C_init (Cond.code y_C_init c_C_init 2 none :: TB) rm_C_init (cPc D cls (tyl cI cL cZ cS) [(a, .inr (4, [.null, .null, .null, .int 0, .int 0, .int 0, .long 0, .long 0]))] sz [.ref a]) (va_Qv (fun u : (Nat → Nat) × Mem => Q u.2 ∧ u.1 0 = a) (fun u t => cB D cls (tyl cI cL cZ cS) (va_A [(a, .inr (4, [.null, .null, .null, .int 0, .int 0, .int 0, .long 0, .long 0]))] sz) (wW 77 (fX cI cL cS u.1) u.1 u.2 ++ []) t) (va_A [(a, .inr (4, [.null, .null, .null, .int 0, .int 0, .int 0, .long 0, .long 0]))] sz)) 76 859 (va_A [(a, .inr (4, [.null, .null, .null, .int 0, .int 0, .int 0, .long 0, .long 0]))] sz) := by
  refine Met.ofW (cc := c_C_init) (maxL := 2) (ret := none) (by decide) rfl ?_
  intro p e s m args below meth c s₁ B hml hv
  obtain ⟨rfl, hsz, hP, hK, hD0, hN⟩ := hv
  subst hsz
  have hD : va_D (va_A [(a, .inr (4, [.null, .null, .null, .int 0, .int 0, .int 0, .long 0, .long 0]))] s.heap.size) [(a, .inr (4, [.null, .null, .null, .int 0, .int 0, .int 0, .long 0, .long 0]))] := hD0.self (sz := s.heap.size)
  have hA : ∀ q : Nat, s.heap.size ≤ q → (va_A [(a, .inr (4, [.null, .null, .null, .int 0, .int 0, .int 0, .long 0, .long 0]))] s.heap.size) q := fun q h => Or.inr h
  have hN : NX (va_A [(a, .inr (4, [.null, .null, .null, .int 0, .int 0, .int 0, .long 0, .long 0]))] s.heap.size) s s.heap := hN
  generalize (va_A [(a, .inr (4, [.null, .null, .null, .int 0, .int 0, .int 0, .long 0, .long 0]))] s.heap.size) = A at hD hA hN ⊢
  have C : wC TB "PreferenceCount" c_C_init 2 none D cls (tyl cI cL cZ cS) A p s m ([.ref a].toArray) meth c := ⟨B.exec, B.bytes, B.returns, B.notSynchronized, fun w hw => atoms_spec (ws := Cond.code y_C_init c_C_init 2 none :: TB) B.pre w (List.mem_cons_of_mem _ hw), findClass_of_methodNamed B.named, hml, hK, hN, hA⟩
  have hx := C.1
  have hb := C.2.1
  have hr := C.2.2.1
  have hts := C.2.2.2.2.1
  have hown := C.2.2.2.2.2.1
  have hin : meth.name = "<init>" := (name_of_methodNamed B.named B.method).1
  have hS : va_S A s.heap s.heap [] := va_S.rf
  have hl := lv_entry ([.ref a]) (n := 2) (Nat.le_of_ble_eq_true rfl)
  rw [lg_entry_eq]
  generalize (lg_sl ([.ref a]) ++ List.replicate (2 - (lg_sl ([.ref a])).length) Slot.unset).toArray = ls at hl ⊢
  have hl : lv_has ls 2 [(0, .ref a)] := hl
  refine lv_aload_n hx hb d_C_init_0 rfl (lv_at hl 0 rfl) ?_
  refine W.objInit hx hb hown (hts _ kw_21) (hts _ kw_22) (hts _ kw_23) rfl (by rw [hml]; exact hl.1) rfl d_C_init_1 (Nat.le_of_ble_eq_true rfl) (Nat.le_of_ble_eq_true rfl) ?_
  refine W.eq (g2 := F0 m 4 ls []) rfl ?_
  refine lv_aload_n hx hb d_C_init_4 rfl (lv_at hl 0 rfl) ?_
  refine va_new (ci := 2) (fs := [.null, .null, .int 0, .int 0, .int 0]) (C := "PreferenceCount$Roll") (T := T_R) (N := 5) hx hb hts ku_R ft_R fo_R hown (hts _ kw_24) (hts _ kw_25) (hts _ kw_2) hK hP hD hS hA rfl dv_R (Nat.le_of_ble_eq_true rfl) (Nat.le_of_ble_eq_true rfl) d_C_init_5 (fun u5 H hP hD hS => ?_)
  have hP : va_P D cls [(a, .inr (4, [.null, .null, .null, .int 0, .int 0, .int 0, .long 0, .long 0])), (u5, .inr (2, [.null, .null, .int 0, .int 0, .int 0]))] H := hP
  have hD : va_D A [(a, .inr (4, [.null, .null, .null, .int 0, .int 0, .int 0, .long 0, .long 0])), (u5, .inr (2, [.null, .null, .int 0, .int 0, .int 0]))] := hD
  refine lv_dup hx hb d_C_init_8 rfl ?_
  refine k_call (wr := [(a, .inr (4, [.null, .null, .null, .int 0, .int 0, .int 0, .long 0, .long 0]))]) C hP hD hS [1] [0] rfl rfl (by decide) (by decide) (va_runIN (As := []) (rest := [.ref u5, .ref a]) ⟨hx, hb, hml, hown, hts⟩ m_R_init ⟨va_cnB 0 hts (g_C kw_28) rfl rfl rfl C.2.2.2.2.2.2.2.2.1.1.2.1 (hts _ kw_2) (by decide +kernel) ⟨(Nat.le_of_ble_eq_true rfl), (Nat.le_of_ble_eq_true rfl)⟩, rfl, hts _ kw_27⟩ (k_pre C hP hD hS [1] rfl rfl (by decide)) rfl rfl hl.1 rfl (lv_room (Nat.le_of_ble_eq_true rfl)) d_C_init_9 ⟨(Nat.le_of_ble_eq_true rfl), (Nat.le_of_ble_eq_true rfl)⟩) (fun w9 H locs hq9 hP hD hS => ?_)
  obtain ⟨u7_9, u15_9⟩ := w9
  have hP : va_P D cls [(a, .inr (4, [.null, .null, .null, .int 0, .int 0, .int 0, .long 0, .long 0])), (u5, .inr (2, [.ref u7_9, .ref u15_9, .int 0, .int 0, .int 0])), (u7_9, .inl (cI, (12, .inl (fun _ => 0)))), (u15_9, .inl (cI, (12, .inl (fun _ => 0))))] H := hP
  have hD : va_D A [(a, .inr (4, [.null, .null, .null, .int 0, .int 0, .int 0, .long 0, .long 0])), (u5, .inr (2, [.ref u7_9, .ref u15_9, .int 0, .int 0, .int 0])), (u7_9, .inl (cI, (12, .inl (fun _ => 0)))), (u15_9, .inl (cI, (12, .inl (fun _ => 0))))] := hD
  refine va_putF (D := D) (ci := 4) (v := .ref u5) (ty := (.object "PreferenceCount$Roll")) (C := "PreferenceCount") (T := T_C) (N := 8) hx hb hts ku_C ft_C fo_C fn_C hown hK hP hD hS 0 rfl rfl 0 (by decide) (hts _ kw_132) (fun _ h9 => h9) rfl hin rfl (by decide +kernel) rfl rfl (Nat.le_of_ble_eq_true rfl) d_C_init_12 (fun H locs hP hD hS => ?_)
  have hP : va_P D cls [(a, .inr (4, [.ref u5, .null, .null, .int 0, .int 0, .int 0, .long 0, .long 0])), (u5, .inr (2, [.ref u7_9, .ref u15_9, .int 0, .int 0, .int 0])), (u7_9, .inl (cI, (12, .inl (fun _ => 0)))), (u15_9, .inl (cI, (12, .inl (fun _ => 0))))] H := hP
  have hD : va_D A [(a, .inr (4, [.ref u5, .null, .null, .int 0, .int 0, .int 0, .long 0, .long 0])), (u5, .inr (2, [.ref u7_9, .ref u15_9, .int 0, .int 0, .int 0])), (u7_9, .inl (cI, (12, .inl (fun _ => 0)))), (u15_9, .inl (cI, (12, .inl (fun _ => 0))))] := hD
  refine lv_aload_n hx hb d_C_init_15 rfl (lv_at hl 0 rfl) ?_
  refine va_new (ci := 1) (fs := [.null, .null, .null, .null, .int 0, .int 0]) (C := "PreferenceCount$Pile") (T := T_P) (N := 6) hx hb hts ku_P ft_P fo_P hown (hts _ kw_52) (hts _ kw_53) (hts _ kw_3) hK hP hD hS hA rfl dv_P (Nat.le_of_ble_eq_true rfl) (Nat.le_of_ble_eq_true rfl) d_C_init_16 (fun u16 H hP hD hS => ?_)
  have hP : va_P D cls [(a, .inr (4, [.ref u5, .null, .null, .int 0, .int 0, .int 0, .long 0, .long 0])), (u5, .inr (2, [.ref u7_9, .ref u15_9, .int 0, .int 0, .int 0])), (u7_9, .inl (cI, (12, .inl (fun _ => 0)))), (u15_9, .inl (cI, (12, .inl (fun _ => 0)))), (u16, .inr (1, [.null, .null, .null, .null, .int 0, .int 0]))] H := hP
  have hD : va_D A [(a, .inr (4, [.ref u5, .null, .null, .int 0, .int 0, .int 0, .long 0, .long 0])), (u5, .inr (2, [.ref u7_9, .ref u15_9, .int 0, .int 0, .int 0])), (u7_9, .inl (cI, (12, .inl (fun _ => 0)))), (u15_9, .inl (cI, (12, .inl (fun _ => 0)))), (u16, .inr (1, [.null, .null, .null, .null, .int 0, .int 0]))] := hD
  refine lv_dup hx hb d_C_init_19 rfl ?_
  refine k_call (wr := [(a, .inr (4, [.ref u5, .null, .null, .int 0, .int 0, .int 0, .long 0, .long 0])), (u5, .inr (2, [.ref u7_9, .ref u15_9, .int 0, .int 0, .int 0])), (u7_9, .inl (cI, (12, .inl (fun _ => 0)))), (u15_9, .inl (cI, (12, .inl (fun _ => 0))))]) C hP hD hS [4] [0, 1, 2, 3] rfl rfl (by decide) (by decide) (va_runIN (As := []) (rest := [.ref u16, .ref a]) ⟨hx, hb, hml, hown, hts⟩ m_P_init ⟨va_cnB 0 hts (g_C kw_56) rfl rfl rfl C.2.2.2.2.2.2.2.2.1.1.2.2.1 (hts _ kw_3) (by decide +kernel) ⟨(Nat.le_of_ble_eq_true rfl), (Nat.le_of_ble_eq_true rfl)⟩, rfl, hts _ kw_55⟩ (k_pre C hP hD hS [4] rfl rfl (by decide)) rfl rfl hl.1 rfl (lv_room (Nat.le_of_ble_eq_true rfl)) d_C_init_20 ⟨(Nat.le_of_ble_eq_true rfl), (Nat.le_of_ble_eq_true rfl)⟩) (fun w20 H locs hq20 hP hD hS => ?_)
  obtain ⟨u7_20, u15_20, u23_20, u29_20, u6_35_20, u13_35_20, g23_35_20⟩ := w20
  have hP : va_P D cls [(a, .inr (4, [.ref u5, .null, .null, .int 0, .int 0, .int 0, .long 0, .long 0])), (u5, .inr (2, [.ref u7_9, .ref u15_9, .int 0, .int 0, .int 0])), (u7_9, .inl (cI, (12, .inl (fun _ => 0)))), (u15_9, .inl (cI, (12, .inl (fun _ => 0)))), (u16, .inr (1, [.ref u7_20, .ref u15_20, .ref u23_20, .ref u29_20, .int 0, .int 0])), (u7_20, .inl (cL, (50, .inr (.inl (fun _ => 0))))), (u15_20, .inl (cI, (50, .inl (fun _ => 0)))), (u23_20, .inl (cI, (50, .inl (fun _ => 0)))), (u29_20, .inr (0, [.ref u6_35_20, .ref u13_35_20])), (u6_35_20, .inl (cL, (50, .inr (.inl (fun _ => 0))))), (u13_35_20, .inl (cL, (50, .inr (.inl g23_35_20))))] H := hP
  have hD : va_D A [(a, .inr (4, [.ref u5, .null, .null, .int 0, .int 0, .int 0, .long 0, .long 0])), (u5, .inr (2, [.ref u7_9, .ref u15_9, .int 0, .int 0, .int 0])), (u7_9, .inl (cI, (12, .inl (fun _ => 0)))), (u15_9, .inl (cI, (12, .inl (fun _ => 0)))), (u16, .inr (1, [.ref u7_20, .ref u15_20, .ref u23_20, .ref u29_20, .int 0, .int 0])), (u7_20, .inl (cL, (50, .inr (.inl (fun _ => 0))))), (u15_20, .inl (cI, (50, .inl (fun _ => 0)))), (u23_20, .inl (cI, (50, .inl (fun _ => 0)))), (u29_20, .inr (0, [.ref u6_35_20, .ref u13_35_20])), (u6_35_20, .inl (cL, (50, .inr (.inl (fun _ => 0))))), (u13_35_20, .inl (cL, (50, .inr (.inl g23_35_20))))] := hD
  refine va_putF (D := D) (ci := 4) (v := .ref u16) (ty := (.object "PreferenceCount$Pile")) (C := "PreferenceCount") (T := T_C) (N := 8) hx hb hts ku_C ft_C fo_C fn_C hown hK hP hD hS 0 rfl rfl 1 (by decide) (hts _ kw_133) (fun _ h9 => h9) rfl hin rfl (by decide +kernel) rfl rfl (Nat.le_of_ble_eq_true rfl) d_C_init_23 (fun H locs hP hD hS => ?_)
  have hP : va_P D cls [(a, .inr (4, [.ref u5, .ref u16, .null, .int 0, .int 0, .int 0, .long 0, .long 0])), (u5, .inr (2, [.ref u7_9, .ref u15_9, .int 0, .int 0, .int 0])), (u7_9, .inl (cI, (12, .inl (fun _ => 0)))), (u15_9, .inl (cI, (12, .inl (fun _ => 0)))), (u16, .inr (1, [.ref u7_20, .ref u15_20, .ref u23_20, .ref u29_20, .int 0, .int 0])), (u7_20, .inl (cL, (50, .inr (.inl (fun _ => 0))))), (u15_20, .inl (cI, (50, .inl (fun _ => 0)))), (u23_20, .inl (cI, (50, .inl (fun _ => 0)))), (u29_20, .inr (0, [.ref u6_35_20, .ref u13_35_20])), (u6_35_20, .inl (cL, (50, .inr (.inl (fun _ => 0))))), (u13_35_20, .inl (cL, (50, .inr (.inl g23_35_20))))] H := hP
  have hD : va_D A [(a, .inr (4, [.ref u5, .ref u16, .null, .int 0, .int 0, .int 0, .long 0, .long 0])), (u5, .inr (2, [.ref u7_9, .ref u15_9, .int 0, .int 0, .int 0])), (u7_9, .inl (cI, (12, .inl (fun _ => 0)))), (u15_9, .inl (cI, (12, .inl (fun _ => 0)))), (u16, .inr (1, [.ref u7_20, .ref u15_20, .ref u23_20, .ref u29_20, .int 0, .int 0])), (u7_20, .inl (cL, (50, .inr (.inl (fun _ => 0))))), (u15_20, .inl (cI, (50, .inl (fun _ => 0)))), (u23_20, .inl (cI, (50, .inl (fun _ => 0)))), (u29_20, .inr (0, [.ref u6_35_20, .ref u13_35_20])), (u6_35_20, .inl (cL, (50, .inr (.inl (fun _ => 0))))), (u13_35_20, .inl (cL, (50, .inr (.inl g23_35_20))))] := hD
  refine lv_aload_n hx hb d_C_init_26 rfl (lv_at hl 0 rfl) ?_
  refine lv_bipush (v := 13) hx hb d_C_init_27 (by decide) ?_
  refine k_newq (cA0 := cS) (N' := 13) C kw_102 C.2.2.2.2.2.2.2.2.1.2.2.2.2.2.2 3 rfl hP hD hS (by decide) (by decide) (by decide) (Nat.le_of_ble_eq_true rfl) (Nat.le_of_ble_eq_true rfl) d_C_init_29 (fun u29 H hP hD hS => ?_)
  have hP : va_P D cls [(a, .inr (4, [.ref u5, .ref u16, .null, .int 0, .int 0, .int 0, .long 0, .long 0])), (u5, .inr (2, [.ref u7_9, .ref u15_9, .int 0, .int 0, .int 0])), (u7_9, .inl (cI, (12, .inl (fun _ => 0)))), (u15_9, .inl (cI, (12, .inl (fun _ => 0)))), (u16, .inr (1, [.ref u7_20, .ref u15_20, .ref u23_20, .ref u29_20, .int 0, .int 0])), (u7_20, .inl (cL, (50, .inr (.inl (fun _ => 0))))), (u15_20, .inl (cI, (50, .inl (fun _ => 0)))), (u23_20, .inl (cI, (50, .inl (fun _ => 0)))), (u29_20, .inr (0, [.ref u6_35_20, .ref u13_35_20])), (u6_35_20, .inl (cL, (50, .inr (.inl (fun _ => 0))))), (u13_35_20, .inl (cL, (50, .inr (.inl g23_35_20)))), (u29, .inl (cS, (13, .inr (.inr (.inr (.inr (fun _ => none)))))))] H := hP
  have hD : va_D A [(a, .inr (4, [.ref u5, .ref u16, .null, .int 0, .int 0, .int 0, .long 0, .long 0])), (u5, .inr (2, [.ref u7_9, .ref u15_9, .int 0, .int 0, .int 0])), (u7_9, .inl (cI, (12, .inl (fun _ => 0)))), (u15_9, .inl (cI, (12, .inl (fun _ => 0)))), (u16, .inr (1, [.ref u7_20, .ref u15_20, .ref u23_20, .ref u29_20, .int 0, .int 0])), (u7_20, .inl (cL, (50, .inr (.inl (fun _ => 0))))), (u15_20, .inl (cI, (50, .inl (fun _ => 0)))), (u23_20, .inl (cI, (50, .inl (fun _ => 0)))), (u29_20, .inr (0, [.ref u6_35_20, .ref u13_35_20])), (u6_35_20, .inl (cL, (50, .inr (.inl (fun _ => 0))))), (u13_35_20, .inl (cL, (50, .inr (.inl g23_35_20)))), (u29, .inl (cS, (13, .inr (.inr (.inr (.inr (fun _ => none)))))))] := hD
  refine va_putF (D := D) (ci := 4) (v := .ref u29) (ty := (.array (.object "PreferenceCount$Stage"))) (C := "PreferenceCount") (T := T_C) (N := 8) hx hb hts ku_C ft_C fo_C fn_C hown hK hP hD hS 0 rfl rfl 2 (by decide) (hts _ kw_134) (fun _ h9 => h9) rfl hin rfl (by decide +kernel) rfl rfl (Nat.le_of_ble_eq_true rfl) d_C_init_32 (fun H locs hP hD hS => ?_)
  have hP : va_P D cls [(a, .inr (4, [.ref u5, .ref u16, .ref u29, .int 0, .int 0, .int 0, .long 0, .long 0])), (u5, .inr (2, [.ref u7_9, .ref u15_9, .int 0, .int 0, .int 0])), (u7_9, .inl (cI, (12, .inl (fun _ => 0)))), (u15_9, .inl (cI, (12, .inl (fun _ => 0)))), (u16, .inr (1, [.ref u7_20, .ref u15_20, .ref u23_20, .ref u29_20, .int 0, .int 0])), (u7_20, .inl (cL, (50, .inr (.inl (fun _ => 0))))), (u15_20, .inl (cI, (50, .inl (fun _ => 0)))), (u23_20, .inl (cI, (50, .inl (fun _ => 0)))), (u29_20, .inr (0, [.ref u6_35_20, .ref u13_35_20])), (u6_35_20, .inl (cL, (50, .inr (.inl (fun _ => 0))))), (u13_35_20, .inl (cL, (50, .inr (.inl g23_35_20)))), (u29, .inl (cS, (13, .inr (.inr (.inr (.inr (fun _ => none)))))))] H := hP
  have hD : va_D A [(a, .inr (4, [.ref u5, .ref u16, .ref u29, .int 0, .int 0, .int 0, .long 0, .long 0])), (u5, .inr (2, [.ref u7_9, .ref u15_9, .int 0, .int 0, .int 0])), (u7_9, .inl (cI, (12, .inl (fun _ => 0)))), (u15_9, .inl (cI, (12, .inl (fun _ => 0)))), (u16, .inr (1, [.ref u7_20, .ref u15_20, .ref u23_20, .ref u29_20, .int 0, .int 0])), (u7_20, .inl (cL, (50, .inr (.inl (fun _ => 0))))), (u15_20, .inl (cI, (50, .inl (fun _ => 0)))), (u23_20, .inl (cI, (50, .inl (fun _ => 0)))), (u29_20, .inr (0, [.ref u6_35_20, .ref u13_35_20])), (u6_35_20, .inl (cL, (50, .inr (.inl (fun _ => 0))))), (u13_35_20, .inl (cL, (50, .inr (.inl g23_35_20)))), (u29, .inl (cS, (13, .inr (.inr (.inr (.inr (fun _ => none)))))))] := hD
  refine lv_iconst (v := 0) hx hb d_C_init_35 (by decide) ?_
  refine lv_istore_n (lv' := [(1, .int 0), (0, .ref a)]) hx hb d_C_init_36 rfl hl (by decide) rfl (fun ls hl => ?_)
  obtain ⟨ad, had⟩ : ∃ z : Nat → Nat, z = (fun k => ([a, u5, u7_9, u15_9, u16, u7_20, u15_20, u23_20, u29_20, u6_35_20, u13_35_20, u29] : List Nat).getD k 0) := ⟨_, rfl⟩
  obtain ⟨σ, hσ⟩ : ∃ z : Mem, z = ((fun _ _ => 0, fun j => if j = 10 then g23_35_20 else fun _ => 0) : Mem) := ⟨_, rfl⟩
  have hP : va_P D cls (wW (12 + 5 * 0) (fXk 0 cI cL cS ad) ad σ ++ []) H := by rw [had, hσ]; exact hP
  have hD : va_D A (wW (12 + 5 * 0) (fXk 0 cI cL cS ad) ad σ ++ []) := by rw [had, hσ]; exact hD
  have ha : ad 0 = a := by rw [had]; rfl
  have hl : lv_has ls 2 [(0, .ref (ad 0)), (1, .int (nI 0))] := by rw [ha]; exact lv_sub hl [1, 0] rfl
  exact b_C_init_37 C h 13 0 (by omega) ha (fun j => by rw [hσ]) (fun j hj => by rw [hσ]; show (if j = 10 then _ else _) = _; rw [if_neg (by omega)]) hl hP hD hS
