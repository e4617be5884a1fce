/-! from the constructors' worlds to the memory of the whole system -/
theorem k_arr {cA : ClassId} {n : Nat} {f g : Nat → Option Nat} (h : ∀ j, j < n → f j = g j) : vp_cell cA (n, .inr (.inr (.inr (.inr f)))) = vp_cell cA (n, .inr (.inr (.inr (.inr g)))) := by
  rw [vp_cell_q, vp_cell_q]
  unfold arrV
  congr 1
  apply Array.ext
  · simp
  · intro i h1 h2
    simp at h1 ⊢
    rw [h i (by simpa using h1)]
theorem k_toP {W : KWd} {D : va_G} {ad : Nat → Nat} {dA : Nat → ClassId} {H : Heap} (hW : ∀ q, q < zY.length → (q, kzg m0 q (zY.getD q (0, 0))) ∈ W) (hP : va_P D zcl (kw ad dA W) H) : va_P D zcl (zw zY ad dA (kaM m0)) H := by
  intro i x hx
  unfold zw at hx
  rw [List.getElem?_mapIdx, Option.map_eq_some_iff] at hx
  obtain ⟨t, ht, rfl⟩ := hx
  have hl : i < zY.length := (List.getElem?_eq_some_iff.mp ht).1
  have e : zY.getD i (0, 0) = t := by simp [List.getD_eq_getElem?_getD, ht]
  have hm := hW i hl
  rw [e] at hm
  obtain ⟨j, hj⟩ := List.getElem?_of_mem hm
  have h1 := hP j _ (kw_at hj)
  by_cases hk : t.1 < 3 ∨ 10 ≤ t.1
  · rw [kzg_ze hk] at h1
    exact h1
  · have k1 : ¬ t.1 < 3 := fun h => hk (Or.inl h)
    have k2 : t.1 < 10 := by omega
    have k3 : ¬ t.1 = 1 := by omega
    have k4 : 3 ≤ t.1 := by omega
    have e1 : kce ad dA i (kzg m0 i t) = .inl (dA i, t.2, .inr (.inr (.inr (.inr (fun j => kro ad (((List.range t.2).map (fun j => ((zro t.1 i j : Nat) : Int) + 1)).getD j 0)))))) := by
      unfold kzg
      rw [if_neg k1, if_pos k2]
      show Sum.inl (_, kea _ _ _ _) = _
      unfold kea
      rw [if_neg k3, if_pos k4]
    have e2 : ze ad dA i t (kaM m0 i) = .inl (dA i, t.2, .inr (.inr (.inr (.inr (fun j => some (ad (zro t.1 i j))))))) := by
      unfold ze
      rw [if_pos k2]
      unfold zea
      rw [if_neg k3, if_pos k4]
    rw [e1] at h1
    show va_at D zcl (ad i, ze ad dA i t (kaM m0 i)) H
    rw [e2]
    have h2 : H[ad i]? = some (vp_cell (dA i) (t.2, .inr (.inr (.inr (.inr (fun j => kro ad (((List.range t.2).map (fun j => ((zro t.1 i j : Nat) : Int) + 1)).getD j 0))))))) := h1
    show H[ad i]? = some (vp_cell (dA i) (t.2, .inr (.inr (.inr (.inr (fun j => some (ad (zro t.1 i j))))))))
    rw [h2]
    refine congrArg some (k_arr (fun j hj => ?_))
    rw [List.getD_eq_getElem?_getD, List.getElem?_map, List.getElem?_range hj]
    show kro ad (((zro t.1 i j : Nat) : Int) + 1) = _
    unfold kro
    rw [if_neg (by omega)]
    congr 2
theorem k_toD {W : KWd} {A : Nat → Prop} {ad : Nat → Nat} {dA : Nat → ClassId} (hW : ∀ q, q < zY.length → (q, kzg m0 q (zY.getD q (0, 0))) ∈ W) (hD : va_D A (kw ad dA W)) : va_D A (zw zY ad dA (kaM m0)) := by
  have key : ∀ (i : Nat) (p : Nat × va_E), (zw zY ad dA (kaM m0))[i]? = some p → p.1 = ad i ∧ ∃ (j : Nat) (c : KC), W[j]? = some (i, c) := by
    intro i p hp
    unfold zw at hp
    rw [List.getElem?_mapIdx, Option.map_eq_some_iff] at hp
    obtain ⟨t, ht, rfl⟩ := hp
    obtain ⟨j, hj⟩ := List.getElem?_of_mem (hW i (List.getElem?_eq_some_iff.mp ht).1)
    exact ⟨rfl, j, _, hj⟩
  refine ⟨fun i j p q hi hj e => ?_, fun k q hk => ?_⟩
  · obtain ⟨e1, j1, c1, h1⟩ := key i p hi
    obtain ⟨e2, j2, c2, h2⟩ := key j q hj
    have h := hD.1 j1 j2 _ _ (kw_at h1) (kw_at h2) (by rw [e1, e2] at e; exact e)
    rw [h, h2] at h1
    cases h1
    rfl
  · obtain ⟨e1, j1, c1, h1⟩ := key k q hk
    rw [e1]
    exact hD.2 j1 _ (kw_at h1)
theorem k_toT {W : KWd} {dA : Nat → ClassId} {tys : List (ClassId × FieldType)} (hW : ∀ q, q < zY.length → (q, kzg m0 q (zY.getD q (0, 0))) ∈ W) (hT : kT W dA tys) : ∀ (q k n : Nat), zY[q]? = some (k, n) → k < 10 → ∃ t0 : Nat, tys[t0]? = some (dA q, zet k) := by
  intro q k n hq hk
  have e : zY.getD q (0, 0) = (k, n) := by simp [List.getD_eq_getElem?_getD, hq]
  obtain ⟨j, hj⟩ := List.getElem?_of_mem (hW q (List.getElem?_eq_some_iff.mp hq).1)
  rw [e] at hj
  unfold kzg at hj
  by_cases h3 : k < 3
  · rw [if_pos h3] at hj
    exact hT j q _ _ _ hj
  · rw [if_neg h3, if_pos hk] at hj
    exact hT j q _ _ _ hj
/-- both worlds together -/
def kW0 : KWd := kxo.map kzc ++ kWm mM1
theorem kW0_all : ∀ q, q < zY.length → (q, kzg m0 q (zY.getD q (0, 0))) ∈ kW0 := by
  have h1 : ∀ q, q < zY.length → q < 15 ∨ q ∈ kxo := by decide +kernel
  intro q hq
  rcases h1 q hq with h | h
  · refine List.mem_append_right _ (List.mem_map.mpr ⟨q, List.mem_range.mpr h, ?_⟩)
    have e : mM1 q = m0 q := by
      have h2 : ∀ q, q < 15 → mM1 q = m0 q := by decide +kernel
      exact h2 q h
    have e2 : kzg mM1 q (zY.getD q (0, 0)) = kzg m0 q (zY.getD q (0, 0)) := by
      unfold kzg
      rw [e]
    rw [e2]
  · exact List.mem_append_left _ (List.mem_map.mpr ⟨q, h, rfl⟩)
theorem m0_g : ∀ q, (m0 q).all (fun x => zgC x) = true := by
  intro q
  unfold m0
  split <;> decide +kernel
theorem zgM_start : zgM zY (kaM m0) := by
  intro q k n hq j
  have hg : g32 (kaM m0 q j) := by
    unfold kaM
    rw [List.getD_eq_getElem?_getD]
    cases e : (m0 q)[j]? with
    | none => exact g32_0
    | some x => exact z_rg (List.all_eq_true.mp (m0_g q) x (List.mem_of_getElem? e))
  have hg6 : g64 (kaM m0 q j) := by
    have := (g32_iff _).mp hg
    exact (g64_iff _).mpr (by omega)
  unfold zgj
  split
  · exact hg6
  · split
    · exact hg
    · split
      · trivial
      · split
        · exact hg6
        · trivial
        · exact hg
