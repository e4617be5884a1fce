/-! the model's constructor -/
def t_X11_init : List ZE := [(0, .aload_n 0, zN, 0), (1, .invokespecial 1, (0, 6006, 1027, 1028, 0, 0), 0), (4, .aload_n 0, zN, 0), (5, .lconst 1, zN, 1), (6, .putfield 7, (11, 3, 1, 0, 0, 0), 6014), (9, .aload_n 0, zN, 0), (10, .iconst 4, zN, 4), (11, .newarray .int, (0, 2016, 0, 0, 0, 0), 0), (13, .putfield 13, (11, 4, 2, 0, 0, 0), 6015), (16, .aload_n 0, zN, 0), (17, .iconst 4, zN, 4), (18, .newarray .int, (0, 2016, 0, 0, 0, 0), 0), (20, .putfield 17, (11, 5, 2, 0, 0, 0), 6016), (23, .aload_n 0, zN, 0), (24, .sipush 240, zN, 240), (27, .newarray .long, (1, 1138, 0, 0, 0, 0), 0), (29, .putfield 20, (11, 6, 2, 0, 0, 0), 6017), (32, .aload_n 0, zN, 0), (33, .sipush 900, zN, 900), (36, .newarray .byte, (2, 1137, 0, 0, 0, 0), 0), (38, .putfield 24, (11, 7, 2, 0, 0, 0), 6018), (41, .aload_n 0, zN, 0), (42, .iconst (-1), zN, (-1)), (43, .putfield 28, (11, 10, 0, 0, 0, 0), 6021), (46, .aload_n 0, zN, 0), (47, .iconst (-1), zN, (-1)), (48, .putfield 32, (11, 11, 0, 0, 0, 0), 6022), (51, .aload_n 0, zN, 0), (52, .sipush 1775, zN, 1775), (55, .newarray .int, (0, 2016, 0, 0, 0, 0), 0), (57, .putfield 35, (11, 20, 2, 0, 0, 0), 6031), (60, .aload_n 0, zN, 0), (61, .bipush 83, zN, 83), (63, .newarray .int, (0, 2016, 0, 0, 0, 0), 0), (65, .putfield 38, (11, 21, 2, 0, 0, 0), 6032), (68, .aload_n 0, zN, 0), (69, .bipush 83, zN, 83), (71, .newarray .int, (0, 2016, 0, 0, 0, 0), 0), (73, .putfield 41, (11, 22, 2, 0, 0, 0), 6033), (76, .aload_n 0, zN, 0), (77, .bipush 120, zN, 120), (79, .newarray .long, (1, 1138, 0, 0, 0, 0), 0), (81, .putfield 44, (11, 23, 2, 0, 0, 0), 6034), (84, .aload_n 0, zN, 0), (85, .bipush 64, zN, 64), (87, .newarray .int, (0, 2016, 0, 0, 0, 0), 0), (89, .putfield 47, (11, 27, 2, 0, 0, 0), 6038), (92, .aload_n 0, zN, 0), (93, .bipush 6, zN, 6), (95, .newarray .int, (0, 2016, 0, 0, 0, 0), 0), (97, .putfield 50, (11, 28, 2, 0, 0, 0), 6039), (100, .aload_n 0, zN, 0), (101, .bipush 6, zN, 6), (103, .newarray .int, (0, 2016, 0, 0, 0, 0), 0), (105, .putfield 53, (11, 29, 2, 0, 0, 0), 6040), (108, .aload_n 0, zN, 0), (109, .bipush 6, zN, 6), (111, .newarray .int, (0, 2016, 0, 0, 0, 0), 0), (113, .putfield 56, (11, 30, 2, 0, 0, 0), 6041), (116, .aload_n 0, zN, 0), (117, .bipush 6, zN, 6), (119, .newarray .int, (0, 2016, 0, 0, 0, 0), 0), (121, .putfield 59, (11, 31, 2, 0, 0, 0), 6042), (124, .aload_n 0, zN, 0), (125, .iconst 5, zN, 5), (126, .newarray .int, (0, 2016, 0, 0, 0, 0), 0), (128, .putfield 62, (11, 33, 2, 0, 0, 0), 6044), (131, .iconst 0, zN, 0), (132, .istore_n 1, zN, 0), (133, .iload_n 1, zN, 0), (134, .iconst 4, zN, 4), (135, .if_icmp .ge 16, (151, 0, 0, 0, 0, 0), 0), (138, .aload_n 0, zN, 0), (139, .getfield 17, (11, 5, 2, 0, 0, 0), 6016), (142, .iload_n 1, zN, 0), (143, .iconst (-1), zN, (-1)), (144, .iastore, zN, 0), (145, .iinc 1 1, zN, 1), (148, .goto (-15), (133, 0, 0, 0, 0, 0), 0), (151, .aload_n 0, zN, 0), (152, .iconst 0, zN, 0), (153, .invokevirtual 65, (3, 6007, 0, 0, 0, 0), 0), (156, .return_, zN, 0)]
def m_X11_init : Zm := (yX11_init, cX11_init, 2, none, false, 0, t_X11_init)
theorem k_X11_init : kMo m_X11_init := ⟨(6005, 1014, 6004), by decide +kernel⟩
theorem kt_X11_init : ktab kini (zy m_X11_init).cls (zc m_X11_init) (zn m_X11_init) (zt m_X11_init) = true := by decide +kernel
theorem kc_m0 {l : Launch} (hE : kEmp l) : KM l m_X11_init 7 14 3302 11 0 (kWm mM1) := KM_by (G := kG0) (fin := kfin) (mc := kmc) (ms := kms) (kini := kini) (kd := kdp) [1, 2, 3, 4, 5, 6, 7, 8, 9, 10, 11, 12, 13, 14] 115 k_X11_init kt_X11_init (by decide) kno_G kno_k (by decide) (fun h => absurd h (by decide +kernel)) (fun _ => ⟨hE, by decide⟩) (by decide +kernel)
/-- empties(0), out of the decompiled method -/
theorem kWm_zw {mm : Nat → List Int} {ad : Nat → Nat} {dA : Nat → ClassId} : kw ad dA (kWm mm) = zw (zY.take 15) ad dA (kaM mm) := by
  apply List.ext_getElem?
  intro i
  unfold kw kWm zw
  rw [List.getElem?_map, List.getElem?_map, List.getElem?_mapIdx]
  by_cases hi : i < 15
  · rw [List.getElem?_range hi, List.getElem?_take, if_pos hi]
    have hl : i < zY.length := Nat.lt_of_lt_of_le hi (by decide +kernel)
    rw [List.getElem?_eq_getElem hl]
    show some (ad i, kce ad dA i (kzg mm i (zY.getD i (0, 0)))) = some (ad i, ze ad dA i zY[i] (kaM mm i))
    have e : zY.getD i (0, 0) = zY[i] := by simp [List.getD_eq_getElem?_getD, List.getElem?_eq_getElem hl]
    rw [e, kzg_ze]
    have h : ∀ j : Nat, j < 15 → (zY.getD j (0, 0)).1 < 3 ∨ 10 ≤ (zY.getD j (0, 0)).1 := by decide +kernel
    rw [← e]
    exact h i hi
  · rw [List.getElem?_eq_none (by simp; omega), List.getElem?_take, if_neg hi]
    rfl
theorem zReg_15 : zReg (zY.take 15) := by
  have h : ((zY.take 15).mapIdx (fun q t => zRb (zY.take 15) q t)).all id = true := by decide +kernel
  intro q t hq
  have h2 : ((zY.take 15).mapIdx (fun q t => zRb (zY.take 15) q t))[q]? = some (zRb (zY.take 15) q t) := by simp only [List.getElem?_mapIdx, hq]; rfl
  exact List.all_eq_true.mp h _ (List.mem_of_getElem? h2)
theorem zYs_15 : zYs (zY.take 15) := by
  have h : (zY.take 15).all (fun t => decide (t.2 < 2147483648)) = true := by decide +kernel
  intro q k l0 hq
  have := List.all_eq_true.mp h _ (List.mem_of_getElem? hq)
  simpa using this
theorem mM_emp : f_X11_empties 0 (kaM mM0) = some (kaM mM1) := by
  have h := m_empties (b := 0) (B := kaM mM0) (by decide)
  rw [show ((0 : Nat) : Int) = 0 from rfl] at h
  rw [h]
  refine congrArg some ?_
  funext q j
  by_cases hq : q = 5
  · subst hq
    show am_upd (am_upd (am_row (kaM mM0) 5 _) 5 3 8) 5 4 2 5 j = ([0, 0, 0, 8, 2] : List Int).getD j 0
    simp only [am_upd, am_row, if_true]
    match j with
    | 0 => rfl
    | 1 => rfl
    | 2 => rfl
    | 3 => rfl
    | 4 => rfl
    | j + 5 =>
      have e : kaM mM0 5 (j + 5) = 0 := by simp [kaM, mM0]
      rw [if_neg (by omega), if_neg (by omega), e]
      simp
  · simp only [am_upd, am_row, if_neg hq]
    show (mM0 q).getD j 0 = (mM1 q).getD j 0
    have e : mM1 q = mM0 q := by
      unfold mM1
      split
      · exact absurd rfl hq
      · rfl
    rw [e]
theorem mM_g : ∀ mm : Nat → List Int, (∀ q, (mm q).all (fun x => zgC x) = true) → zgM (zY.take 15) (kaM mm) := by
  intro mm h q k n hq j
  have hg : g32 (kaM mm q j) := by
    unfold kaM
    rw [List.getD_eq_getElem?_getD]
    cases e : (mm q)[j]? with
    | none => exact g32_0
    | some x => exact z_rg (List.all_eq_true.mp (h q) x (List.mem_of_getElem? e))
  have hg6 : g64 (kaM mm q j) := by
    have := (g32_iff _).mp hg
    exact (g64_iff _).mpr (by omega)
  unfold zgj
  split
  · exact hg6
  · split
    · exact hg
    · split
      · trivial
      · split
        · exact hg6
        · trivial
        · exact hg
theorem kMet_post {l : Launch} {y : MethodName} {ws : List Cond} {rm : Room} {Pc : Array Value → State → Prop} {Qc Qc' : Array Value → State → Outcome → State → Prop} {mc ms : Nat} {free : Addr → Prop} (h : Met l y ws rm Pc Qc mc ms free) (hq : ∀ a st o t, Qc a st o t → Qc' a st o t) : Met l y ws rm Pc Qc' mc ms free := by
  intro p e ha hc hk s m args below h1 h2 h3 h4
  obtain ⟨n, o, a1, a2, a3, a4, a5⟩ := h p e ha hc hk s m args below h1 h2 h3 h4
  exact ⟨n, o, a1, a2, a3, hq _ _ _ _ a4, a5⟩
theorem kemp_ok {l : Launch} : kEmp l := by
  intro D tys ad dA sz hT
  rw [kWm_zw, kWm_zw]
  have hT2 : ∀ (q k n : Nat), (zY.take 15)[q]? = some (k, n) → k < 10 → ∃ t0 : Nat, tys[t0]? = some (dA q, zet k) := by
    intro q k n hq hk
    have hq15 : q < 15 := by
      have := (List.getElem?_eq_some_iff.mp hq).1
      have h2 : (zY.take 15).length = 15 := by decide +kernel
      omega
    have hz : zY[q]? = some (k, n) := by
      rw [List.getElem?_take, if_pos hq15] at hq
      exact hq
    have e : zY.getD q (0, 0) = (k, n) := by simp [List.getD_eq_getElem?_getD, hz]
    have hk3 : k < 3 := by
      have h : ∀ j : Nat, j < 15 → (zY.getD j (0, 0)).1 < 3 ∨ 10 ≤ (zY.getD j (0, 0)).1 := by decide +kernel
      have := h q hq15
      rw [e] at this
      dsimp only at this
      omega
    refine hT q q k n (mM0 q) ?_
    unfold kWm
    rw [List.getElem?_map, List.getElem?_range hq15]
    show some (q, kzg mM0 q (zY.getD q (0, 0))) = _
    rw [e]
    unfold kzg
    rw [if_pos hk3]
  have hM := Ev_Met (Y := zY.take 15) (d := 0) k_X11_empties (vs := [vR 0 21 0, vI 0]) (v := none) (e_X11_empties 0 0 (kaM mM0) (kaM mM1) mM_emp) (by decide) (by
    intro w hw
    rcases List.mem_cons.mp hw with h | h
    · rw [h]; exact Or.inr (by decide +kernel)
    · rw [List.mem_singleton.mp h]; exact g32_0) (mM_g mM0 (fun q => by
    unfold mM0
    split <;> decide +kernel)) zReg_15 zYs_15 l D tys ad dA hT2 sz
  exact kMet_post hM (fun _ _ _ _ h => ⟨⟨h.1.1, h.1.2.1⟩, h.2⟩)
theorem kc_m {l : Launch} : KM l m_X11_init 7 14 3302 11 0 (kWm mM1) := kc_m0 kemp_ok
