/-! the law's beginning, by the constructors' machine -/
def t_L0 : List ZE := [(0, .new 7, (10, 1021, 1022, 1001, 0, 0), 0), (3, .dup, zN, 0), (4, .invokespecial 9, (1, 10, 1023, 0, 0, 0), 0), (7, .astore_n 1, zN, 0), (8, .new 10, (11, 6001, 6002, 1014, 0, 0), 0), (11, .dup, zN, 0), (12, .invokespecial 12, (1, 11, 6003, 0, 0, 0), 0), (15, .astore_n 2, zN, 0), (16, .iconst 0, zN, 0), (17, .istore_n 3, zN, 0)]
def kini2 (ci : Nat) : Zm := match ci with
  | 10 => m_X10_init
  | _ => m_X11_init
def kfin2 (ci _ : Nat) : KWd := match ci with
  | 10 => kxo.map kzc
  | _ => kWm mM1
def kmc2 (ci : Nat) : Nat := match ci with
  | 10 => 123
  | _ => 14
def kms2 (ci : Nat) : Nat := match ci with
  | 10 => 4033
  | _ => 3302
def kG3 (ci q : Nat) : Bool := (ci == 10 && q == 15) || (ci == 11 && q == 0)
theorem kt_L0 : ktab kini2 R_law code 4 t_L0 = true := by decide +kernel
theorem kG3_M {l : Launch} : ∀ ci q, kG3 ci q = true → KM l (kini2 ci) 7 (kmc2 ci) (kms2 ci) ci q (kfin2 ci q) := by
  intro ci q h
  simp only [kG3, Bool.or_eq_true, Bool.and_eq_true, beq_iff_eq] at h
  rcases h with ⟨rfl, rfl⟩ | ⟨rfl, rfl⟩
  · exact kc_x
  · exact kc_m
theorem kG3_k : ∀ ci q, kG3 ci q = true → kMo (kini2 ci) := by
  intro ci q h
  simp only [kG3, Bool.or_eq_true, Bool.and_eq_true, beq_iff_eq] at h
  rcases h with ⟨rfl, rfl⟩ | ⟨rfl, rfl⟩
  · exact k_X10_init
  · exact k_X11_init
def kL0 : ZL := [some (vR 998 9 0), none, none, none]
def kL1 : ZL := [some (vR 998 9 0), some (vR 15 9 0), some (vR 0 9 0), some (vI 0)]
def kendL (y : Option KST) : Bool := match y with
  | some (pc, lo, [], W', _, ce, sl) => pc == 18 && (decide (lo = kL1) && (kweq W' kW0 && (ce == 139 && sl == 7398)))
  | _ => false
theorem kL_run : ∃ ns', krun (fun j => j == 998) kG3 kfin2 kmc2 kms2 600000 7302250 t_L0 10 (0, kL0, [], [], [15, 0], 0, 0) = some (18, kL1, [], kW0, ns', 139, 7398) := by
  have h : kendL (krun (fun j => j == 998) kG3 kfin2 kmc2 kms2 600000 7302250 t_L0 10 (0, kL0, [], [], [15, 0], 0, 0)) = true := by decide +kernel
  cases hr : krun (fun j => j == 998) kG3 kfin2 kmc2 kms2 600000 7302250 t_L0 10 (0, kL0, [], [], [15, 0], 0, 0) with
  | none => rw [hr] at h; cases h
  | some y =>
    rw [hr] at h
    obtain ⟨pc, lo', st', W', ns', ce, sl⟩ := y
    cases st' with
    | cons a r => cases h
    | nil =>
      simp only [kendL, Bool.and_eq_true, decide_eq_true_eq, beq_iff_eq] at h
      obtain ⟨rfl, rfl, h3, rfl, rfl⟩ := h
      rw [kweq_ok h3]
      exact ⟨ns', rfl⟩
/-- the classes' places -/
theorem kK_of {args : Array Value} {s : State} (hts : ∀ w ∈ lw_tbl, w.before args s = true) : ∃ D, va_K D zcl [] s := by
  have hz : ∀ w ∈ zws, w.before args s = true := fun w hw => hts w (List.mem_filter.mp hw).1
  have hi : ∀ c : Nat, c < 12 → ∃ n : Nat, lw_tbl.contains (Jvm.Cond.instantiable ((zcl.getD c (RX0, TX0, 0)).1) n) = true := by
    intro c hc
    have h : ∀ c : Nat, c < 12 → (lw_tbl.contains (Jvm.Cond.instantiable ((zcl.getD c (RX0, TX0, 0)).1) ([1, 20, 1, 5, 3, 13, 4, 3, 11, 1, 20, 43].getD c 0))) = true := by decide +kernel
    exact ⟨_, h c hc⟩
  have hk : ∀ c : Nat, ∃ x : ClassId × (Nat → Nat), ∀ q : vw_C, zcl[c]? = some q → u_Kn s q.1 q.2.1 q.2.2 x.1 x.2 := by
    intro c
    cases hq : zcl[c]? with
    | none => exact ⟨(0, fun _ => 0), fun q h => by cases h⟩
    | some q =>
      have hc : c < 12 := (List.getElem?_eq_some_iff.mp hq).1
      obtain ⟨n, hn⟩ := hi c hc
      rw [show zcl.getD c (RX0, TX0, 0) = q by rw [List.getD_eq_getElem?_getD, hq]; rfl] at hn
      obtain ⟨cC, iS, h⟩ := u_known (C := q.1) (T := q.2.1) (N := q.2.2) (n := n) hz (fun w hw => zcl_in _ (List.mem_of_getElem? hq) w hw) (hts _ (List.contains_iff_mem.mp hn))
      exact ⟨(cC, iS), fun q2 h2 => by cases h2; exact h⟩
  obtain ⟨f, hf⟩ := Classical.axiomOfChoice hk
  exact ⟨(fun c => (f c).1, fun c => (f c).2), fun c q hq => hf c q hq, fun k q h => by simp at h⟩
/-- the law's beginning: to the loop's head -/
theorem law_pre {p : Program} {e : Env} {s : State} {m : MethodId} {below : List Frame} {meth : Method} {c : Code} (l : Launch) {b L : Nat} {xs : Nat → Int32} (C0 : lw_At p s m meth c b L xs) {Q : State → Prop}
    (k : ∀ (D : va_G) (ad : Nat → Nat) (dA : Nat → ClassId) (tys : List (ClassId × FieldType)) (H : Heap) (locs : List Loc) (ls : Array Slot), ad 998 = b → va_P D zcl (zw zY ad dA (kaM m0)) H → va_D (fun q : Nat => s.heap.size ≤ q) (zw zY ad dA (kaM m0)) → va_S (fun q : Nat => s.heap.size ≤ q) s.heap H locs → va_K D zcl tys s → (∀ (q k n : Nat), zY[q]? = some (k, n) → k < 10 → ∃ t0 : Nat, tys[t0]? = some (dA q, zet k)) → zLo [] ad 4 kL1 ls → W p l e room_1 s m #[Value.ref b] below meth c H locs 139 7398 Q (F0 m 18 ls [])) :
    W p l e room_1 s m #[Value.ref b] below meth c s.heap [] 0 0 Q (entryFrame m ([Value.ref b] : List Value).toArray 4) := by
  obtain ⟨hx, hb, hr, hml, hown, hts, hX, hbl, hlocks, hgv⟩ := id C0
  obtain ⟨sk, hSx⟩ := kSx_of hts hgv
  obtain ⟨D, hK⟩ := kK_of hts
  have C : kCx sk R_law code 4 p room_1 s m #[Value.ref b] meth c (fun q : Nat => s.heap.size ≤ q) := ⟨hx, hb, hml, hown, fun w hw => hts w (List.mem_filter.mp hw).1, fun _ h => h, kE_of hts, Or.inr rfl, by decide, by decide, hSx⟩
  have hl := lv_entry ([vR 998 9 0].map (cv (fun _ => b))) (n := 4) (Nat.le_of_ble_eq_true rfl)
  rw [lg_entry_eq]
  obtain ⟨ns', hrun⟩ := kL_run
  refine kruns (R := room_1) (Q := Q) (D := D) (N0 := fun j => j == 998) (ad0 := fun _ => b) (dA0 := fun _ => 0) (kd := fun _ => 7) C (fun h => absurd h (by decide +kernel)) (fun h => absurd h (by decide +kernel)) kG3_M (fun ci q h => ⟨kG3_k ci q h, by decide, by decide⟩) kt_L0 10 _ _ hrun ?_ (fun _ => b) (fun _ => 0) [] (fun _ _ => ⟨rfl, rfl⟩) s.heap [] _ (fun k q h => (by simp [kw] at h)) ⟨fun i j p q h => (by simp [kw] at h), fun k q h => (by simp [kw] at h)⟩ va_S.rf hK (fun i q k n rs h => (by simp at h)) ⟨hl.1, hl.2.1, ?_⟩ (fun _ h => absurd h List.not_mem_nil)
  · intro ad dA tys hA H locs ls hP hD hS hK2 hT hL hG
    exact k D ad dA tys H locs ls (hA 998 rfl).1 (k_toP kW0_all hP) (k_toD kW0_all hD) hS hK2 (k_toT kW0_all hT) hL
  · intro i w hi
    match i, hi with
    | 0, hi =>
      cases hi
      exact ⟨hl.2.2 (0, .ref b) List.mem_cons_self, Or.inl rfl⟩
    | 1, hi => cases hi
    | 2, hi => cases hi
    | 3, hi => cases hi
    | i + 4, hi => cases hi
