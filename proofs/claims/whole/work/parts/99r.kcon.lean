/-! the contracts of the constructors (but Tokens and the model) -/
theorem kc_1_23 {l : Launch} : KM l m_X1_init 0 10 148 1 23 (kfin 1 23) := KM_by (G := kG0) (fin := kfin) (mc := kmc) (ms := kms) (kini := kini) (kd := kdp) [24, 25, 26, 27, 28, 29, 30, 31, 32, 33] 72 k_X1_init kt_X1_init (by decide) kno_G kno_k (by decide) (fun h => absurd h (by decide +kernel)) (fun h => absurd h (by decide +kernel)) (by decide +kernel)
theorem kc_1_34 {l : Launch} : KM l m_X1_init 0 10 148 1 34 (kfin 1 34) := KM_by (G := kG0) (fin := kfin) (mc := kmc) (ms := kms) (kini := kini) (kd := kdp) [35, 36, 37, 38, 39, 40, 41, 42, 43, 44] 72 k_X1_init kt_X1_init (by decide) kno_G kno_k (by decide) (fun h => absurd h (by decide +kernel)) (fun h => absurd h (by decide +kernel)) (by decide +kernel)
theorem kc_1_82 {l : Launch} : KM l m_X1_init 0 10 148 1 82 (kfin 1 82) := KM_by (G := kG0) (fin := kfin) (mc := kmc) (ms := kms) (kini := kini) (kd := kdp) [83, 84, 85, 86, 87, 88, 89, 90, 91, 92] 72 k_X1_init kt_X1_init (by decide) kno_G kno_k (by decide) (fun h => absurd h (by decide +kernel)) (fun h => absurd h (by decide +kernel)) (by decide +kernel)
theorem kc_1_101 {l : Launch} : KM l m_X1_init 0 10 148 1 101 (kfin 1 101) := KM_by (G := kG0) (fin := kfin) (mc := kmc) (ms := kms) (kini := kini) (kd := kdp) [102, 103, 104, 105, 106, 107, 108, 109, 110, 111] 72 k_X1_init kt_X1_init (by decide) kno_G kno_k (by decide) (fun h => absurd h (by decide +kernel)) (fun h => absurd h (by decide +kernel)) (by decide +kernel)
theorem kc_1_120 {l : Launch} : KM l m_X1_init 0 10 148 1 120 (kfin 1 120) := KM_by (G := kG0) (fin := kfin) (mc := kmc) (ms := kms) (kini := kini) (kd := kdp) [121, 122, 123, 124, 125, 126, 127, 128, 129, 130] 72 k_X1_init kt_X1_init (by decide) kno_G kno_k (by decide) (fun h => absurd h (by decide +kernel)) (fun h => absurd h (by decide +kernel)) (by decide +kernel)
theorem kc_4_65 {l : Launch} : KM l m_X4_init 0 3 18 4 65 (kfin 4 65) := KM_by (G := kG0) (fin := kfin) (mc := kmc) (ms := kms) (kini := kini) (kd := kdp) [66, 67, 68] 14 k_X4_init kt_X4_init (by decide) kno_G kno_k (by decide) (fun h => absurd h (by decide +kernel)) (fun h => absurd h (by decide +kernel)) (by decide +kernel)
theorem kc_6_74 {l : Launch} : KM l m_X6_init 0 1 60 6 74 (kfin 6 74) := KM_by (G := kG0) (fin := kfin) (mc := kmc) (ms := kms) (kini := kini) (kd := kdp) [75] 15 k_X6_init kt_X6_init (by decide) kno_G kno_k (by decide) (fun h => absurd h (by decide +kernel)) (fun h => absurd h (by decide +kernel)) (by decide +kernel)
theorem kc_6_76 {l : Launch} : KM l m_X6_init 0 1 60 6 76 (kfin 6 76) := KM_by (G := kG0) (fin := kfin) (mc := kmc) (ms := kms) (kini := kini) (kd := kdp) [77] 15 k_X6_init kt_X6_init (by decide) kno_G kno_k (by decide) (fun h => absurd h (by decide +kernel)) (fun h => absurd h (by decide +kernel)) (by decide +kernel)
theorem kc_6_78 {l : Launch} : KM l m_X6_init 0 1 60 6 78 (kfin 6 78) := KM_by (G := kG0) (fin := kfin) (mc := kmc) (ms := kms) (kini := kini) (kd := kdp) [79] 15 k_X6_init kt_X6_init (by decide) kno_G kno_k (by decide) (fun h => absurd h (by decide +kernel)) (fun h => absurd h (by decide +kernel)) (by decide +kernel)
theorem kc_6_80 {l : Launch} : KM l m_X6_init 0 1 60 6 80 (kfin 6 80) := KM_by (G := kG0) (fin := kfin) (mc := kmc) (ms := kms) (kini := kini) (kd := kdp) [81] 15 k_X6_init kt_X6_init (by decide) kno_G kno_k (by decide) (fun h => absurd h (by decide +kernel)) (fun h => absurd h (by decide +kernel)) (by decide +kernel)
theorem kc_7_63 {l : Launch} : KM l m_X7_init 0 1 8 7 63 (kfin 7 63) := KM_by (G := kG0) (fin := kfin) (mc := kmc) (ms := kms) (kini := kini) (kd := kdp) [64] 12 k_X7_init kt_X7_init (by decide) kno_G kno_k (by decide) (fun h => absurd h (by decide +kernel)) (fun h => absurd h (by decide +kernel)) (by decide +kernel)
theorem kc_8_45 {l : Launch} : KM l m_X8_init 0 7 363 8 45 (kfin 8 45) := KM_by (G := kG0) (fin := kfin) (mc := kmc) (ms := kms) (kini := kini) (kd := kdp) [46, 47, 48, 49, 50, 51, 52] 42 k_X8_init kt_X8_init (by decide) kno_G kno_k (by decide) (fun h => absurd h (by decide +kernel)) (fun h => absurd h (by decide +kernel)) (by decide +kernel)
theorem kc_8_53 {l : Launch} : KM l m_X8_init 0 7 363 8 53 (kfin 8 53) := KM_by (G := kG0) (fin := kfin) (mc := kmc) (ms := kms) (kini := kini) (kd := kdp) [54, 55, 56, 57, 58, 59, 60] 42 k_X8_init kt_X8_init (by decide) kno_G kno_k (by decide) (fun h => absurd h (by decide +kernel)) (fun h => absurd h (by decide +kernel)) (by decide +kernel)
theorem kc_8_93 {l : Launch} : KM l m_X8_init 0 7 363 8 93 (kfin 8 93) := KM_by (G := kG0) (fin := kfin) (mc := kmc) (ms := kms) (kini := kini) (kd := kdp) [94, 95, 96, 97, 98, 99, 100] 42 k_X8_init kt_X8_init (by decide) kno_G kno_k (by decide) (fun h => absurd h (by decide +kernel)) (fun h => absurd h (by decide +kernel)) (by decide +kernel)
theorem kc_8_112 {l : Launch} : KM l m_X8_init 0 7 363 8 112 (kfin 8 112) := KM_by (G := kG0) (fin := kfin) (mc := kmc) (ms := kms) (kini := kini) (kd := kdp) [113, 114, 115, 116, 117, 118, 119] 42 k_X8_init kt_X8_init (by decide) kno_G kno_k (by decide) (fun h => absurd h (by decide +kernel)) (fun h => absurd h (by decide +kernel)) (by decide +kernel)
theorem kc_8_131 {l : Launch} : KM l m_X8_init 0 7 363 8 131 (kfin 8 131) := KM_by (G := kG0) (fin := kfin) (mc := kmc) (ms := kms) (kini := kini) (kd := kdp) [132, 133, 134, 135, 136, 137, 138] 42 k_X8_init kt_X8_init (by decide) kno_G kno_k (by decide) (fun h => absurd h (by decide +kernel)) (fun h => absurd h (by decide +kernel)) (by decide +kernel)
theorem kG1_M {l : Launch} : ∀ ci q, kG1 ci q = true → KM l (kini ci) (kdp ci) (kmc ci) (kms ci) ci q (kfin ci q) := by
  intro ci q h
  simp only [kG1, Bool.and_eq_true, beq_iff_eq] at h
  obtain ⟨rfl, rfl⟩ := h
  exact kc_0 72 (Or.inr rfl)
theorem kG1_k : ∀ ci q, kG1 ci q = true → kMo (kini ci) ∧ kdp ci + 1 ≤ 1 := by
  intro ci q h
  simp only [kG1, Bool.and_eq_true, beq_iff_eq] at h
  obtain ⟨rfl, rfl⟩ := h
  exact ⟨k_X0_init, Nat.le_refl _⟩
theorem kc_3_69 {l : Launch} : KM l m_X3_init 1 4 72 3 69 (kfin 3 69) := KM_by (G := kG1) (fin := kfin) (mc := kmc) (ms := kms) (kini := kini) (kd := kdp) [70, 71, 72] 21 k_X3_init kt_X3_init (by decide) kG1_M kG1_k (by decide) (fun h => absurd h (by decide +kernel)) (fun h => absurd h (by decide +kernel)) (by decide +kernel)
theorem kG2_M {l : Launch} (h5 : KM l m_X5_init 6 2 923 5 20 (kfin 5 20)) : ∀ ci q, kG2 ci q = true → KM l (kini ci) (kdp ci) (kmc ci) (kms ci) ci q (kfin ci q) := by
  intro ci q h
  have h := List.contains_iff_mem.mp h
  simp only [kGl, List.mem_cons, List.not_mem_nil, or_false, Prod.mk.injEq] at h
  rcases h with ⟨rfl, rfl⟩ | ⟨rfl, rfl⟩ | ⟨rfl, rfl⟩ | ⟨rfl, rfl⟩ | ⟨rfl, rfl⟩ | ⟨rfl, rfl⟩ | ⟨rfl, rfl⟩ | ⟨rfl, rfl⟩ | ⟨rfl, rfl⟩ | ⟨rfl, rfl⟩ | ⟨rfl, rfl⟩ | ⟨rfl, rfl⟩ | ⟨rfl, rfl⟩ | ⟨rfl, rfl⟩ | ⟨rfl, rfl⟩ | ⟨rfl, rfl⟩ | ⟨rfl, rfl⟩ | ⟨rfl, rfl⟩ | ⟨rfl, rfl⟩
  · exact kc_6_74
  · exact kc_6_76
  · exact kc_6_78
  · exact kc_6_80
  · exact h5
  · exact kc_1_23
  · exact kc_1_34
  · exact kc_8_45
  · exact kc_8_53
  · exact kc_0 61 (Or.inl rfl)
  · exact kc_7_63
  · exact kc_4_65
  · exact kc_3_69
  · exact kc_1_82
  · exact kc_8_93
  · exact kc_1_101
  · exact kc_8_112
  · exact kc_1_120
  · exact kc_8_131

theorem kG2_k : ∀ ci q, kG2 ci q = true → kMo (kini ci) ∧ kdp ci + 1 ≤ 7 := by
  intro ci q h
  have h := List.contains_iff_mem.mp h
  simp only [kGl, List.mem_cons, List.not_mem_nil, or_false, Prod.mk.injEq] at h
  rcases h with ⟨rfl, rfl⟩ | ⟨rfl, rfl⟩ | ⟨rfl, rfl⟩ | ⟨rfl, rfl⟩ | ⟨rfl, rfl⟩ | ⟨rfl, rfl⟩ | ⟨rfl, rfl⟩ | ⟨rfl, rfl⟩ | ⟨rfl, rfl⟩ | ⟨rfl, rfl⟩ | ⟨rfl, rfl⟩ | ⟨rfl, rfl⟩ | ⟨rfl, rfl⟩ | ⟨rfl, rfl⟩ | ⟨rfl, rfl⟩ | ⟨rfl, rfl⟩ | ⟨rfl, rfl⟩ | ⟨rfl, rfl⟩ | ⟨rfl, rfl⟩
  · exact ⟨k_X6_init, by decide⟩
  · exact ⟨k_X6_init, by decide⟩
  · exact ⟨k_X6_init, by decide⟩
  · exact ⟨k_X6_init, by decide⟩
  · exact ⟨k_X5_init, by decide⟩
  · exact ⟨k_X1_init, by decide⟩
  · exact ⟨k_X1_init, by decide⟩
  · exact ⟨k_X8_init, by decide⟩
  · exact ⟨k_X8_init, by decide⟩
  · exact ⟨k_X0_init, by decide⟩
  · exact ⟨k_X7_init, by decide⟩
  · exact ⟨k_X4_init, by decide⟩
  · exact ⟨k_X3_init, by decide⟩
  · exact ⟨k_X1_init, by decide⟩
  · exact ⟨k_X8_init, by decide⟩
  · exact ⟨k_X1_init, by decide⟩
  · exact ⟨k_X8_init, by decide⟩
  · exact ⟨k_X1_init, by decide⟩
  · exact ⟨k_X8_init, by decide⟩

/-- the names of the class's cells, in the order in which its constructor leaves them -/
def kxo : List Nat := [15, 16] ++ (List.range' 20 41 ++ ([17, 18] ++ (List.range' 61 13 ++ ([19] ++ List.range' 74 65))))
theorem kc_10 {l : Launch} (h5 : KM l m_X5_init 6 2 923 5 20 (kfin 5 20)) : KM l m_X10_init 7 123 4033 10 15 (kxo.map kzc) := KM_by (G := kG2) (fin := kfin) (mc := kmc) (ms := kms) (kini := kini) (kd := kdp) [16, 20, 23, 34, 45, 53, 17, 18, 61, 63, 65, 69, 19, 74, 76, 78, 80, 82, 93, 101, 112, 120, 131] 199 k_X10_init kt_X10_init (by decide) (kG2_M h5) kG2_k (by decide) (fun h => absurd h (by decide +kernel)) (fun h => absurd h (by decide +kernel)) (by decide +kernel)
