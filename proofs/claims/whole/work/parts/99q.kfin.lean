/-! THE START MEMORY, and what every constructor leaves -/
def m0 (q : Nat) : List Int := match q with
  | 0 => [0, 0, 0, 1, 0, 0, 0, 0, 0, 0, -1, -1]
  | 2 => [-1, -1, -1, -1]
  | 5 => [0, 0, 0, 8, 2]
  | 15 => [0, 0, 1, 0, -1, -1]
  | 20 => [0, 0, 0, -1, 0, 0, -1]
  | 22 => kwl
  | 23 => [8, 2]
  | 34 => [8, 2]
  | 82 => [8, 2]
  | 101 => [8, 2]
  | 120 => [8, 2]
  | 63 => [0, 0, -1]
  | _ => []
/-- a cell of the layout as the constructors leave it -/
def kzw (q : Nat) (t : Nat × Nat) : KC := kzg m0 q t
def kzc (q : Nat) : Nat × KC := (q, kzw q (zY.getD q (0, 0)))
def ksz (ci : Nat) : Nat := match ci with
  | 0 => 2
  | 1 => 11
  | 3 => 5
  | 4 => 4
  | 5 => 3
  | 6 => 2
  | 7 => 2
  | 8 => 8
  | _ => 0
def kfin (ci q : Nat) : KWd := (List.range (ksz ci)).map (fun i => kzc (q + i))
def kmc (ci : Nat) : Nat := match ci with
  | 3 => 4
  | 10 => 123
  | _ => ksz ci - 1
def kms (ci : Nat) : Nat := match ci with
  | 0 => 6
  | 1 => 148
  | 3 => 72
  | 4 => 18
  | 5 => 923
  | 6 => 60
  | 7 => 8
  | 8 => 363
  | 10 => 4033
  | _ => 0
def kdp (ci : Nat) : Nat := match ci with
  | 3 => 1
  | 5 => 6
  | _ => 0
def kG0 (_ _ : Nat) : Bool := false
def kG1 (ci q : Nat) : Bool := ci == 0 && q == 72
def kGl : List (Nat × Nat) := [(6, 74), (6, 76), (6, 78), (6, 80), (5, 20), (1, 23), (1, 34), (8, 45), (8, 53), (0, 61), (7, 63), (4, 65), (3, 69), (1, 82), (8, 93), (1, 101), (8, 112), (1, 120), (8, 131)]
def kG2 (ci q : Nat) : Bool := kGl.contains (ci, q)
/-- the end of a run, tested -/
def kendB (f : Zm) (W : KWd) (mcf msf : Nat) (y : Option KST) : Bool := match y with
  | some (pc, _, [], W', _, ce, sl) => (match zent (zt f) pc with
    | some (.return_, _) => true
    | _ => false) && (kweq W' W && (ce == mcf && sl == msf))
  | _ => false
theorem KM_by {G : Nat → Nat → Bool} {fin : Nat → Nat → KWd} {mc ms : Nat → Nat} {kini : Nat → Zm} {kd : Nat → Nat} {l : Launch} {f : Zm} {ci q d mcf msf : Nat} {Wo : KWd} (ns : List Nat) (n : Nat)
    (hmo : kMo f) (htab : ktab kini (zy f).cls (zc f) (zn f) (zt f) = true) (hnL : 1 ≤ zn f) (hM : ∀ ci q, G ci q = true → KM l (kini ci) (kd ci) (mc ci) (ms ci) ci q (fin ci q)) (hk : ∀ ci q, G ci q = true → kMo (kini ci) ∧ kd ci + 1 ≤ d)
    (hq9 : q ≠ 999) (hStr : (zy f).cls = RX5 → kStr l ∧ 4 ≤ d) (hEmp : (zy f).cls = RX11 → kEmp l ∧ 1 ≤ d)
    (h : kendB f Wo mcf msf (krun (fun j => j == q || j == 999) G fin mc ms mcf msf (zt f) n (0, zpad (zn f) (zlay [vR q 9 0]), [], kWi ci q, ns, 0, 0)) = true) : KM l f d mcf msf ci q Wo := by
  cases hr : krun (fun j => j == q || j == 999) G fin mc ms mcf msf (zt f) n (0, zpad (zn f) (zlay [vR q 9 0]), [], kWi ci q, ns, 0, 0) with
  | none => rw [hr] at h; cases h
  | some y =>
    rw [hr] at h
    obtain ⟨pc, lo', st', W', ns', ce, sl⟩ := y
    cases st' with
    | cons a r => cases h
    | nil =>
      simp only [kendB, Bool.and_eq_true, decide_eq_true_eq, beq_iff_eq] at h
      obtain ⟨h1, h2, rfl, rfl⟩ := h
      rw [kweq_ok h2] at hr
      split at h1
      · rename_i x hz
        exact KM_of hmo htab hnL hM hk hq9 hStr hEmp hr hz
      · cases h1
theorem kno_G {l : Launch} : ∀ ci q, kG0 ci q = true → KM l (kini ci) (kdp ci) (kmc ci) (kms ci) ci q (kfin ci q) := fun _ _ h => by cases h
theorem kno_k {d : Nat} : ∀ ci q, kG0 ci q = true → kMo (kini ci) ∧ kdp ci + 1 ≤ d := fun _ _ h => by cases h
theorem kc_0 {l : Launch} (q : Nat) (hq : q = 61 ∨ q = 72) : KM l m_X0_init 0 1 6 0 q (kfin 0 q) := by
  rcases hq with rfl | rfl
  · exact KM_by (G := kG0) (fin := kfin) (mc := kmc) (ms := kms) (kini := kini) (kd := kdp) [62] 6 k_X0_init kt_X0_init (by decide) kno_G kno_k (by decide) (fun h => absurd h (by decide +kernel)) (fun h => absurd h (by decide +kernel)) (by decide +kernel)
  · exact KM_by (G := kG0) (fin := kfin) (mc := kmc) (ms := kms) (kini := kini) (kd := kdp) [73] 6 k_X0_init kt_X0_init (by decide) kno_G kno_k (by decide) (fun h => absurd h (by decide +kernel)) (fun h => absurd h (by decide +kernel)) (by decide +kernel)
