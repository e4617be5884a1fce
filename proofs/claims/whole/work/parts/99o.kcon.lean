/-- the contract of a constructor out of a run of the machine -/
theorem KM_of {G : Nat → Nat → Bool} {fin : Nat → Nat → KWd} {mc ms : Nat → Nat} {kini : Nat → Zm} {kd : Nat → Nat} {l : Launch} {f : Zm} {ci q d mcf msf n pcr : Nat} {lo' : ZL} {Wo : KWd} {ns ns' : List Nat} {x : (Nat × Nat × Nat × Nat × Nat × Nat) × Int}
    (hmo : kMo f) (htab : ktab kini (zy f).cls (zc f) (zn f) (zt f) = true) (hnL : 1 ≤ zn f) (hM : ∀ ci q, G ci q = true → KM l (kini ci) (kd ci) (mc ci) (ms ci) ci q (fin ci q)) (hk : ∀ ci q, G ci q = true → kMo (kini ci) ∧ kd ci + 1 ≤ d)
    (hq9 : q ≠ 999) (hStr : (zy f).cls = RX5 → kStr l ∧ 4 ≤ d) (hEmp : (zy f).cls = RX11 → kEmp l ∧ 1 ≤ d) (hrun : krun (fun j => j == q || j == 999) G fin mc ms mcf msf (zt f) n (0, zpad (zn f) (zlay [vR q 9 0]), [], kWi ci q, ns, 0, 0) = some (pcr, lo', [], Wo, ns', mcf, msf)) (hret : zent (zt f) pcr = some (.return_, x)) : KM l f d mcf msf ci q Wo := by
  intro sk D ad dA sz
  obtain ⟨m1, m2, m3, m4, m5, m6, m7, m8⟩ := hmo.spec
  refine Met.ofW (cc := zc f) (maxL := zn f) (ret := zr f) m4 rfl ?_
  intro p e s m args below meth c s₁ B hml hvv
  obtain ⟨rfl, hsz, hP, hK, hD0, hE, hSx⟩ := hvv
  have hts := atoms_spec (ws := Jvm.Cond.code (zy f) (zc f) (zn f) (zr f) :: zws) B.pre
  have hown : s.vm.findClass (zy f).cls = some m.cls := findClass_of_methodNamed B.named
  have hlocks := B.notSynchronized
  have hin : meth.name = "<init>" := (name_of_methodNamed B.named B.method).1.trans m7
  have hx := B.exec
  have hb := B.bytes
  have hr := B.returns
  subst hsz
  have hD := hD0.self (sz := s.heap.size)
  have hA : ∀ q2 : Nat, s.heap.size ≤ q2 → va_A (kw ad dA (kWi ci q)) s.heap.size q2 := fun q h => Or.inr h
  have C : kCx sk (zy f).cls (zc f) (zn f) p (headSpec (Jvm.Cond.code (zy f) (zc f) (zn f) (zr f) :: zws) (krm d mcf msf)).room s m #[Value.ref (ad q)] meth c (va_A (kw ad dA (kWi ci q)) s.heap.size) :=
    ⟨hx, hb, hml, hown, fun w hw => hts w (List.mem_cons_of_mem _ hw), hA, hE, Or.inl hin, by show 1 ≤ d + 1; omega, by show 64 ≤ 64 * (d + 1); omega, hSx⟩
  have hl := lv_entry ([vR q 9 0].map (cv ad)) (n := zn f) (by rw [zlay_len]; exact hnL)
  rw [lg_entry_eq]
  have hk9 : kno [999] q = true := by
    simp only [kno, Bool.not_eq_true']
    cases hc : [999].contains q with
    | false => rfl
    | true => exact absurd (List.mem_singleton.mp (List.contains_iff_mem.mp hc)) hq9
  have e1 : kw ad dA (kWi ci q) = kw (kmix [999] (fun _ => sk.1 0) ad) dA (kWi ci q) := by
    refine kw_congr (N := kno [999]) (fun j hj => ⟨kmix_out hj, rfl⟩) ?_
    show (kpN (kno [999]) (q, _) && true) = true
    rw [Bool.and_true]
    unfold kpN
    rw [hk9, Bool.true_and]
    exact kdef_N
  refine kruns (R := (headSpec (Jvm.Cond.code (zy f) (zc f) (zn f) (zr f) :: zws) (krm d mcf msf)).room) (Q := MQ below (kQ (kWi ci q) Wo D ad dA (va_A (kw ad dA (kWi ci q)) s.heap.size)) #[Value.ref (ad q)] s mcf msf (va_A (kw ad dA (kWi ci q)) s.heap.size)) (D := D) (ad0 := kmix [999] (fun _ => sk.1 0) ad) (dA0 := dA) C (fun h => ⟨(hStr h).1, ⟨by simp, kmix_in (by simp)⟩, by have := (hStr h).2; show 5 ≤ d + 1; omega, by have := (hStr h).2; show 320 ≤ 64 * (d + 1); omega⟩) (fun h => ⟨(hEmp h).1, by have := (hEmp h).2; show 2 ≤ d + 1; omega, by have := (hEmp h).2; show 128 ≤ 64 * (d + 1); omega⟩) hM (fun ci q h => ⟨(hk ci q h).1, by have := (hk ci q h).2; show _ ≤ d + 1; omega, by have := (hk ci q h).2; show _ ≤ 64 * (d + 1); omega⟩) htab n _ _ hrun ?_ (kmix [999] (fun _ => sk.1 0) ad) dA [] (fun _ _ => ⟨rfl, rfl⟩) s.heap [] _ (by show va_P D zcl (kw _ _ (kWi ci q)) s.heap; rw [← e1]; exact hP) (by show va_D _ (kw _ _ (kWi ci q)); rw [← e1]; exact hD) va_S.rf hK ?_ ⟨hl.1, hl.2.1, ?_⟩ (fun _ h => absurd h List.not_mem_nil)
  · intro ad2 dA2 tys hA2 H locs ls hP2 hD2 hS2 hK2 hT2 hL2 hG2
    refine W.vret hx hb (by rw [hr, m8]) (fun t ht hW => ⟨⟨(ad2, dA2, tys), rfl, fun x hx => ?_, by rw [ht]; exact hP2, va_K.moved hW.alike hK2, hT2, hD2⟩, hS2.F ht⟩) hS2.2.2 (ktab_at htab hret).1
    rw [List.mem_singleton.mp hx]
    have h3 := hA2 q (by simp)
    rw [← kmix_out hk9] at h3
    exact h3
  · intro i2 q4 k2 n2 rs2 hi
    match i2, hi with
    | 0, hi => cases hi
    | i2 + 1, hi => cases hi
  · intro i w hi
    have h1 := zpad_get _ _ _ _ hi
    have h2 := hl.2.2 (i, cv ad w) (by have := zlay_args (ad := ad) [vR q 9 0] 0 i w h1; simpa using this)
    have h4 := zlay_mem [vR q 9 0] i w h1
    rw [List.mem_singleton.mp h4] at h2 ⊢
    refine ⟨?_, Or.inl rfl⟩
    refine Eq.trans h2 ?_
    show some (Slot.val (Value.ref (ad q))) = some (Slot.val (Value.ref (kmix [999] (fun _ => sk.1 0) ad q)))
    rw [← kmix_out hk9]
