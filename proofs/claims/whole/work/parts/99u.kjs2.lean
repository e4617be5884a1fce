theorem kj_isL {l : Launch} : kMg l yJ0_isLatin1_aae02 cJ0_isLatin1_aae02 1 (some .boolean) 0 (fun sk => [.ref (sk.1 0)]) (some (.int 1)) := by
  refine kMg_of (by decide +kernel) (fun _ => Nat.le_refl 1) ?_
  intro sk p e R s m below meth c ls C hl
  obtain ⟨hx, hb, hml, hown, hts, hSx, hret, hlocks, hfr, hlo⟩ := C
  have hS : va_S nA s.heap s.heap [] := va_S.rf
  have hl : lv_has ls 1 [(0, .ref (sk.1 0))] := hl
  refine va_gets hx hb hSx.2.1 hS hown (index := 38) (ref := "java/lang/String") (hts _ (zhas_mem (i := 1046) (by decide +kernel))) (fun _ h => h) (by decide +kernel) ?_
  refine lv_if_eq hx hb (off := 14) (tgt := 17) (by decide +kernel) rfl (fun h => absurd h (by decide)) (fun _ => ?_)
  refine lv_aload_n hx hb (k := 0) (by decide +kernel) rfl (lv_at hl 0 rfl) ?_
  refine vk_getf hx hb (hSx.1.1 0 (by decide)).2.1 hS hown (index := 15) (ref := "java/lang/String") (hts _ (zhas_mem (i := 9046) (by decide +kernel))) (fun _ h => h) (by decide +kernel) ?_
  refine lv_if_ne hx hb (off := 7) (tgt := 17) (by decide +kernel) rfl (fun h => absurd rfl h) (fun _ => ?_)
  refine lv_iconst hx hb (n := 1) (v := 1) (by decide +kernel) rfl ?_
  refine lv_goto hx hb (off := 4) (tgt := 18) (by decide +kernel) rfl ?_
  exact W.zret (ty := .boolean) hx hb hret rfl (fun t ht _ => ⟨⟨rfl, ht⟩, hS.F ht⟩) hS.2.2 (by decide +kernel)
theorem kj_length {l : Launch} : kMg l yJ0_length_8abf5 cJ0_length_8abf5 1 (some .int) 3 (fun sk => [.ref (sk.1 0)]) (some (.int (Int32.ofInt (kSc.length : Int)))) := by
  refine kMg_of (by decide +kernel) (fun _ => Nat.le_refl 1) ?_
  intro sk p e R s m below meth c ls C hl
  have C0 := C
  obtain ⟨hx, hb, hml, hown, hts, hSx, hret, hlocks, hfr, hlo⟩ := C0
  have C1 : kC9 sk RJ0 cJ0_length_8abf5 1 (0 + 1) (some .int) p R s m #[.ref (sk.1 0)] meth c := ⟨hx, hb, hml, hown, hts, hSx, hret, hlocks, by omega, by omega⟩
  have hS : va_S nA s.heap s.heap [] := va_S.rf
  have hl : lv_has ls 1 [(0, .ref (sk.1 0))] := hl
  refine lv_aload_n hx hb (k := 0) (by decide +kernel) rfl (lv_at hl 0 rfl) ?_
  refine vk_getf hx hb (hSx.1.1 0 (by decide)).2.2.1 hS hown (index := 9) (ref := "java/lang/String") (hts _ (zhas_mem (i := 9045) (by decide +kernel))) (fun _ h => h) (by decide +kernel) ?_
  refine va_tlen hx hb (hSx.1.1 0 (by decide)).2.2.2 hS (v := Int32.ofInt (kSc.length : Int)) (by decide +kernel) (by decide +kernel) ?_
  refine lv_aload_n hx hb (k := 0) (by decide +kernel) rfl (lv_at hl 0 rfl) ?_
  refine kj_V (rest := [.int (Int32.ofInt (kSc.length : Int))]) C1 kj_coder ⟨zhas_mem (i := 1045) (by decide +kernel), zhas_mem (i := 1003) (by decide +kernel), zhas_mem (i := 1043) (by decide +kernel), zhas_mem (i := 1044) (by decide +kernel)⟩ (idx := 335) (zhas_mem (i := 1042) (by decide +kernel)) rfl (by decide +kernel) (by decide) (by decide +kernel) hl.1 (by decide +kernel) hS (fun locs1 hS1 => ?_)
  refine lv_ishr hx hb (by decide +kernel) ?_
  exact W.iret hx hb hret (fun t ht _ => ⟨⟨by decide +kernel, ht⟩, hS1.F ht⟩) hS1.2.2 (by decide +kernel)
theorem kj_in {j : Nat} (h : j < kSc.length) : vp_in (Int32.ofInt (j : Int)) kSc.length ∧ (Int32.ofInt (j : Int)).toNatClampNeg = j ∧ ¬ Int32.ofInt (j : Int) < 0 ∧ Int32.ofInt (j : Int) < Int32.ofInt (kSc.length : Int) := by
  have h1 : kSc.length = 111 := by decide +kernel
  have hg : g32 (j : Int) := (g32_iff _).mpr (by omega)
  have h2 := k_inN (n0 := kSc.length) hg (by omega) (by omega)
  refine ⟨h2.1, by rw [h2.2]; rfl, ?_, ?_⟩
  · rw [← z0, i32_lt hg g32_0]
    omega
  · rw [i32_lt hg ((g32_iff _).mpr (by omega))]
    omega
theorem kj_chk3 {l : Launch} {j : Nat} (hj : j < kSc.length) (f : SK → Value) (hf : ∀ sk, (f sk).category = 1) : kMg l yJ3_checkIndex_8e157 cJ3_checkIndex_8e157 3 (some .int) 0 (fun sk => [.int (Int32.ofInt (j : Int)), .int (Int32.ofInt (kSc.length : Int)), f sk]) (some (.int (Int32.ofInt (j : Int)))) := by
  refine kMg_of (by decide +kernel) (fun sk => ?_) ?_
  · have h9 := hf sk
    generalize f sk = w at h9
    cases w <;> first | exact Nat.le_refl 3 | exact absurd (show (2 : Nat) = 1 from h9) (by decide)
  intro sk p e R s m below meth c ls C hl
  obtain ⟨hx, hb, hml, hown, hts, hSx, hret, hlocks, hfr, hlo⟩ := C
  have hS : va_S nA s.heap s.heap [] := va_S.rf
  have hl : lv_has ls 3 [(0, .int (Int32.ofInt (j : Int))), (1, .int (Int32.ofInt (kSc.length : Int))), (2, f sk)] := hl
  obtain ⟨h1, h2, h3, h4⟩ := kj_in hj
  refine lv_iload_n hx hb (k := 0) (by decide +kernel) rfl (lv_at hl 0 rfl) ?_
  refine lv_if_lt hx hb (off := 8) (tgt := 9) (by decide +kernel) rfl (fun h => absurd h h3) (fun _ => ?_)
  refine lv_iload_n hx hb (k := 0) (by decide +kernel) rfl (lv_at hl 0 rfl) ?_
  refine lv_iload_n hx hb (k := 1) (by decide +kernel) rfl (lv_at hl 1 rfl) ?_
  refine lv_icmp_lt hx hb (off := 10) (tgt := 16) (by decide +kernel) rfl (fun _ => ?_) (fun h => absurd h4 h)
  refine lv_iload_n hx hb (k := 0) (by decide +kernel) rfl (lv_at hl 0 rfl) ?_
  exact W.iret hx hb hret (fun t ht _ => ⟨⟨rfl, ht⟩, hS.F ht⟩) hS.2.2 (by decide +kernel)
theorem kj_chk0 {l : Launch} {j : Nat} (hj : j < kSc.length) : kMg l yJ0_checkIndex_df160 cJ0_checkIndex_df160 2 none 1 (fun _ => [.int (Int32.ofInt (j : Int)), .int (Int32.ofInt (kSc.length : Int))]) none := by
  refine kMg_of (by decide +kernel) (fun sk => Nat.le_refl 2) ?_
  intro sk p e R s m below meth c ls C hl
  have C0 := C
  obtain ⟨hx, hb, hml, hown, hts, hSx, hret, hlocks, hfr, hlo⟩ := C0
  have hS : va_S nA s.heap s.heap [] := va_S.rf
  have hl : lv_has ls 2 [(0, .int (Int32.ofInt (j : Int))), (1, .int (Int32.ofInt (kSc.length : Int)))] := hl
  have go : ∀ v : Value, v.category = 1 → W p l e R s m #[.int (Int32.ofInt (j : Int)), .int (Int32.ofInt (kSc.length : Int))] below meth c s.heap [] 0 0 (MQ below (zQ none (fun t => t.heap = s.heap) nA) #[.int (Int32.ofInt (j : Int)), .int (Int32.ofInt (kSc.length : Int))] s 0 0 nA) (F0 m 5 ls [v, .int (Int32.ofInt (kSc.length : Int)), .int (Int32.ofInt (j : Int))]) := by
    intro v hv
    refine kj_S (vs := fun _ => [.int (Int32.ofInt (j : Int)), .int (Int32.ofInt (kSc.length : Int)), v]) (rest := []) C (kj_chk3 hj (fun _ => v) (fun _ => hv)) ⟨zhas_mem (i := 1066) (by decide +kernel), zhas_mem (i := 1005) (by decide +kernel), zhas_mem (i := 1065) (by decide +kernel)⟩ (idx := 1059) (zhas_mem (i := 1064) (by decide +kernel)) ⟨by decide +kernel, by decide +kernel⟩ ?_ (by decide) (by decide +kernel) hl.1 (by decide +kernel) hS (fun locs1 hS1 => ?_)
    · show _ = some 3
      decide +kernel
    · refine lv_pop hx hb (by decide +kernel) rfl ?_
      exact W.vret hx hb hret (fun t ht _ => ⟨⟨rfl, ht⟩, hS1.F ht⟩) hS1.2.2 (by decide +kernel)
  refine lv_iload_n hx hb (k := 0) (by decide +kernel) rfl (lv_at hl 0 rfl) ?_
  refine lv_iload_n hx hb (k := 1) (by decide +kernel) rfl (lv_at hl 1 rfl) ?_
  rcases hSx.2.2.1 with hZ | ⟨t, hZ⟩
  · exact va_gets hx hb hZ hS hown (index := 1053) (ref := "jdk/internal/util/Preconditions") (hts _ (zhas_mem (i := 1062) (by decide +kernel))) (fun _ h => h) (by decide +kernel) (go .null rfl)
  · exact va_gets hx hb hZ hS hown (index := 1053) (ref := "jdk/internal/util/Preconditions") (hts _ (zhas_mem (i := 1062) (by decide +kernel))) (fun _ h => h) (by decide +kernel) (go (.ref t) rfl)
theorem kj_ch : ∀ j : Nat, j < kSc.length → (((kSc.map Int32.ofInt).getD j 0 &&& 255).toUInt32 % 65536).toInt32 = Int32.ofInt (kSc.getD j 0) ∧ narrow .char (.int (Int32.ofInt (kSc.getD j 0))) = .int (Int32.ofInt (kSc.getD j 0)) := by decide +kernel
theorem kj_chr1 {l : Launch} {j : Nat} (hj : j < kSc.length) : kMg l yJ1_charAt_3b067 cJ1_charAt_3b067 2 (some .char) 2 (fun sk => [.ref (sk.2 0), .int (Int32.ofInt (j : Int))]) (some (.int (Int32.ofInt (kSc.getD j 0)))) := by
  refine kMg_of (by decide +kernel) (fun sk => Nat.le_refl 2) ?_
  intro sk p e R s m below meth c ls C hl
  have C0 := C
  obtain ⟨hx, hb, hml, hown, hts, hSx, hret, hlocks, hfr, hlo⟩ := C0
  have hS : va_S nA s.heap s.heap [] := va_S.rf
  have hl : lv_has ls 2 [(0, .ref (sk.2 0)), (1, .int (Int32.ofInt (j : Int)))] := hl
  obtain ⟨h1, h2, h3, h4⟩ := kj_in hj
  refine lv_iload_n hx hb (k := 1) (by decide +kernel) rfl (lv_at hl 1 rfl) ?_
  refine lv_aload_n hx hb (k := 0) (by decide +kernel) rfl (lv_at hl 0 rfl) ?_
  refine va_tlen hx hb (hSx.1.1 0 (by decide)).2.2.2 hS (v := Int32.ofInt (kSc.length : Int)) (by decide +kernel) (by decide +kernel) ?_
  refine kj_S (vs := fun _ => [.int (Int32.ofInt (j : Int)), .int (Int32.ofInt (kSc.length : Int))]) (rest := []) C (kj_chk0 hj) ⟨zhas_mem (i := 1061) (by decide +kernel), zhas_mem (i := 1003) (by decide +kernel), zhas_mem (i := 1060) (by decide +kernel)⟩ (idx := 9) (zhas_mem (i := 1059) (by decide +kernel)) ⟨by decide +kernel, by decide +kernel⟩ ?_ (by decide) (by decide +kernel) hl.1 (by decide +kernel) hS (fun locs1 hS1 => ?_)
  · show _ = some 2
    decide +kernel
  refine lv_aload_n hx hb (k := 0) (by decide +kernel) rfl (lv_at hl 0 rfl) ?_
  refine lv_iload_n hx hb (k := 1) (by decide +kernel) rfl (lv_at hl 1 rfl) ?_
  refine va_tb hx hb (hSx.1.1 0 (by decide)).2.2.2 hS1 h1 (v := .int ((kSc.map Int32.ofInt).getD j 0)) (by rw [h2]; rfl) (by decide +kernel) ?_
  refine lv_sipush hx hb (n := 255) (v := 255) (by decide +kernel) (by decide +kernel) ?_
  refine lv_iand hx hb (by decide +kernel) ?_
  refine lv_i2c hx hb (by decide +kernel) (kj_ch j hj).1 ?_
  exact W.zret (ty := .char) hx hb hret (kj_ch j hj).2 (fun t ht _ => ⟨⟨rfl, ht⟩, hS1.F ht⟩) hS1.2.2 (by decide +kernel)
theorem kj_charAt {l : Launch} {j : Nat} (hj : j < kSc.length) : kMg l yJ0_charAt_5068e cJ0_charAt_5068e 2 (some .char) 3 (fun sk => [.ref (sk.1 0), .int (Int32.ofInt (j : Int))]) (some (.int (Int32.ofInt (kSc.getD j 0)))) := by
  refine kMg_of (by decide +kernel) (fun sk => Nat.le_refl 2) ?_
  intro sk p e R s m below meth c ls C hl
  have C0 := C
  obtain ⟨hx, hb, hml, hown, hts, hSx, hret, hlocks, hfr, hlo⟩ := C0
  have C1 : kC9 sk RJ0 cJ0_charAt_5068e 2 (0 + 1) (some .char) p R s m #[.ref (sk.1 0), .int (Int32.ofInt (j : Int))] meth c := ⟨hx, hb, hml, hown, hts, hSx, hret, hlocks, by omega, by omega⟩
  have hS : va_S nA s.heap s.heap [] := va_S.rf
  have hl : lv_has ls 2 [(0, .ref (sk.1 0)), (1, .int (Int32.ofInt (j : Int)))] := hl
  refine lv_aload_n hx hb (k := 0) (by decide +kernel) rfl (lv_at hl 0 rfl) ?_
  refine kj_V (rest := []) C1 kj_isL ⟨zhas_mem (i := 1055) (by decide +kernel), zhas_mem (i := 1003) (by decide +kernel), zhas_mem (i := 1053) (by decide +kernel), zhas_mem (i := 1054) (by decide +kernel)⟩ (idx := 492) (zhas_mem (i := 1052) (by decide +kernel)) rfl (by decide +kernel) (by decide) (by decide +kernel) hl.1 (by decide +kernel) hS (fun locs1 hS1 => ?_)
  refine lv_if_eq hx hb (off := 12) (tgt := 16) (by decide +kernel) rfl (fun h => absurd h (by decide)) (fun _ => ?_)
  refine lv_aload_n hx hb (k := 0) (by decide +kernel) rfl (lv_at hl 0 rfl) ?_
  refine vk_getf hx hb (hSx.1.1 0 (by decide)).2.2.1 hS1 hown (index := 9) (ref := "java/lang/String") (hts _ (zhas_mem (i := 9045) (by decide +kernel))) (fun _ h => h) (by decide +kernel) ?_
  refine lv_iload_n hx hb (k := 1) (by decide +kernel) rfl (lv_at hl 1 rfl) ?_
  refine kj_S (vs := fun sk => [.ref (sk.2 0), .int (Int32.ofInt (j : Int))]) (rest := []) C (kj_chr1 hj) ⟨zhas_mem (i := 1058) (by decide +kernel), zhas_mem (i := 1004) (by decide +kernel), zhas_mem (i := 1057) (by decide +kernel)⟩ (idx := 495) (zhas_mem (i := 1056) (by decide +kernel)) ⟨by decide +kernel, by decide +kernel⟩ ?_ (by decide) (by decide +kernel) hl.1 (by decide +kernel) hS1 (fun locs2 hS2 => ?_)
  · show _ = some 2
    decide +kernel
  exact W.zret (ty := .char) hx hb hret (kj_ch j hj).2 (fun t ht _ => ⟨⟨rfl, ht⟩, hS2.F ht⟩) hS2.2.2 (by decide +kernel)
theorem kstr_ok {l : Launch} : kStr l := ⟨fun sk H0 => kj_length sk H0, fun j hj sk H0 => kj_charAt hj sk H0⟩
/-- BellPullHouse() -/
theorem kc_x {l : Launch} : KM l m_X10_init 7 123 4033 10 15 (kxo.map kzc) := kc_10 (kc_5_20 kstr_ok)
