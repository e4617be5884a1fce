/-! the two programs lay FAR -/
def rowm (D : MX) (r : Nat → Int) : Nat → Int := fun j => if j < 64 then D (j / 8) (j % 8) else r j
theorem rowm_at {D : MX} {r : Nat → Int} {p q : Nat} (hp : p < 8) (hq : q < 8) : rowm D r (8 * p + q) = D p q := by
  have h1 : 8 * p + q < 64 := by omega
  have h2 : (8 * p + q) / 8 = p := by omega
  have h3 : (8 * p + q) % 8 = q := by omega
  unfold rowm
  rw [if_pos h1, h2, h3]
/-- the lengths D in cell z -/
def RM (M : AM) (z : Nat) (D : MX) : AM := am_row M z (rowm D (M z))
theorem RM_at {M : AM} {z : Nat} {D : MX} {p q : Nat} (hp : p < 8) (hq : q < 8) : RM M z D z (8 * p + q) = D p q := by
  unfold RM; rw [am_row_self]; exact rowm_at hp hq
theorem RM_ne {M : AM} {z a : Nat} {D : MX} (h : a ≠ z) : RM M z D a = M a := am_row_ne h
theorem RM_upd {M : AM} {z : Nat} {D : MX} {p q : Nat} {x : Int} (hp : p < 8) (hq : q < 8) : am_upd (RM M z D) z (8 * p + q) x = RM M z (mxs D p q x) := by
  funext a b
  by_cases ha : a = z
  · subst ha
    unfold RM
    rw [am_row_self, am_upd_eq, am_row_self]
    unfold rowm mxs
    by_cases hb : b = 8 * p + q
    · have h1 : b < 64 := by omega
      have h2 : b / 8 = p := by omega
      have h3 : b % 8 = q := by omega
      rw [if_pos ⟨rfl, hb⟩, if_pos h1, if_pos ⟨h2, h3⟩]
    · rw [if_neg (fun h => hb h.2)]
      by_cases h1 : b < 64
      · rw [if_pos h1, if_pos h1, if_neg]
        rintro ⟨h2, h3⟩
        omega
      · rw [if_neg h1, if_neg h1]
  · rw [am_upd_cell ha, RM_ne ha, RM_ne ha]
theorem RM_RM {M : AM} {z : Nat} {D E : MX} : RM (RM M z D) z E = RM M z E := by
  funext a b
  by_cases ha : a = z
  · subst ha
    unfold RM
    rw [am_row_self, am_row_self, am_row_self]
    unfold rowm
    split <;> rfl
  · rw [RM_ne ha, RM_ne ha, RM_ne ha]
theorem tq8 (p q : Nat) : Int.toNat (8 * (p : Int) + (q : Int)) = 8 * p + q := by omega
theorem tq8' (p q : Nat) : Int.toNat ((p : Int) * 8 + (q : Int)) = 8 * p + q := by omega
theorem am_row_upd (M : AM) (q j : Nat) (f : Nat → Int) (x : Int) : am_upd (am_row M q f) q j x = am_row M q (fun b => if b = j then x else f b) := by
  funext a b
  by_cases h : a = q
  · subst h; simp [am_upd, am_row]
  · simp [am_upd, am_row, h]
theorem am_row_id (M : AM) (q : Nat) (f : Nat → Int) (h : f = M q) : am_row M q f = M := by
  funext a b
  by_cases e : a = q
  · subst e; simp [am_row, h]
  · simp [am_row, e]
theorem J7_fill {a0 n0 : Nat} (x : Int) (M : AM) (hn : n0 < 10000) : f_J7_fill_53178 a0 n0 x M = some (am_row M a0 (fun j => if j < n0 then x else M a0 j)) := by
  unfold f_J7_fill_53178
  refine up_loop0 (fun n i s => f_J7_fill_53178_5 n a0 n0 x (i : Int) (n0 : Int) s) (fun i => am_row M a0 (fun j => if j < i then x else M a0 j)) n0 _ M ?_ ?_ ?_ (by omega)
  · exact am_row_id _ _ _ (by funext j; simp)
  · intro n i hi
    simp only [f_J7_fill_53178_5]
    rw [if_neg (by omega), if_pos (by omega), zlet_eq, tnc, o_succ (by omega), am_row_upd]
    congr 1
    congr 1
    funext b
    by_cases h1 : b = i
    · subst h1; simp
    · by_cases h2 : b < i
      · rw [if_neg h1, if_pos h2, if_pos (by omega)]
      · rw [if_neg h1, if_neg h2, if_neg (by omega)]
  · intro n
    simp only [f_J7_fill_53178_5]
    rw [if_pos (by omega)]
theorem J7_fillL {a0 n0 : Nat} (x : Int) (M : AM) (hn : n0 < 10000) : f_J7_fill_d0a16 a0 n0 x M = some (am_row M a0 (fun j => if j < n0 then x else M a0 j)) := by
  unfold f_J7_fill_d0a16
  refine up_loop0 (fun n i s => f_J7_fill_d0a16_6 n a0 n0 x (i : Int) (n0 : Int) s) (fun i => am_row M a0 (fun j => if j < i then x else M a0 j)) n0 _ M ?_ ?_ ?_ (by omega)
  · exact am_row_id _ _ _ (by funext j; simp)
  · intro n i hi
    simp only [f_J7_fill_d0a16_6]
    rw [if_neg (by omega), if_pos (by omega), zlet_eq, tnc, o_succ (by omega), am_row_upd]
    congr 1
    congr 1
    funext b
    by_cases h1 : b = i
    · subst h1; simp
    · by_cases h2 : b < i
      · rw [if_neg h1, if_pos h2, if_pos (by omega)]
      · rw [if_neg h1, if_neg h2, if_neg (by omega)]
  · intro n
    simp only [f_J7_fill_d0a16_6]
    rw [if_pos (by omega)]
/-! the model -/
theorem m_lay2 (M : AM) : f_X11_laysFar_2 zB 0 M = f_X11_laysFar_40 zB 0 (RM M 9 mx0) := by
  refine up_loop0 (fun n i s => f_X11_laysFar_2 n (i : Int) s) (fun i => am_row M 9 (fun j => if j < i then mx0 (j / 8) (j % 8) else M 9 j)) 64 _ M ?_ ?_ ?_ (by omega)
  · exact am_row_id _ _ _ (by funext j; simp)
  · intro n i hi
    have hrow : ∀ x, mx0 (i / 8) (i % 8) = x → am_upd (am_row M 9 (fun j => if j < i then mx0 (j / 8) (j % 8) else M 9 j)) 9 i x = am_row M 9 (fun j => if j < i + 1 then mx0 (j / 8) (j % 8) else M 9 j) := by
      intro x hx
      rw [am_row_upd]
      congr 1
      funext b
      by_cases h1 : b = i
      · subst h1; rw [if_pos rfl, if_pos (by omega), hx]
      · by_cases h2 : b < i
        · rw [if_neg h1, if_pos h2, if_pos (by omega)]
        · rw [if_neg h1, if_neg h2, if_neg (by omega)]
    simp only [f_X11_laysFar_2]
    rw [if_neg (by omega), o_div_eq (by omega) (by omega) (by omega) (by omega), o_rem_eq (by omega) (by omega) (by omega) (by omega)]
    by_cases h : i / 8 = i % 8
    · have h2 : (i : Int) / 8 = (i : Int) % 8 := by omega
      rw [if_neg (fun h => h h2), if_pos (by omega), zlet_eq, tnc, o_succ (by omega), hrow 0 (by simp [mx0, h])]
    · have h2 : ¬ (i : Int) / 8 = (i : Int) % 8 := by omega
      rw [if_pos h2, if_pos (by omega), zlet_eq, tnc, o_succ (by omega), hrow 1000 (by simp [mx0, h])]
  · intro n
    simp only [f_X11_laysFar_2]
    rw [if_pos (by omega)]
    rfl
theorem m_lay40 {M : AM} (hI : Ic (M 5)) : f_X11_laysFar_40 zB 0 (RM M 9 mx0) = f_X11_laysFar_146 zB 0 (RM M 9 (mx1 (M 5))) := by
  have h5 : ∀ D, RM M 9 D 5 = M 5 := fun D => RM_ne (by decide)
  have hc1 := hI.2.1
  have hc0 := hI.1
  refine up_loop0 (fun n i s => f_X11_laysFar_40 n (i : Int) s) (fun i => RM M 9 (mxk (M 5) i)) (M 5 1).toNat _ _ rfl ?_ ?_ (by omega)
  · intro n i hi
    have hw := Ic_w hI (w := i) (by omega)
    simp only [f_X11_laysFar_40, h5, tn1]
    rw [if_neg (by omega)]
    simp (disch := omega) only [o_add_eq (x := 37), tp37]
    rw [if_pos (by omega)]
    unfold mxk
    rw [rg_succ]
    generalize hD : rg i (mxwire (M 5)) mx0 = D
    unfold mxwire
    by_cases h0 : M 5 (37 + i) = 0
    · rw [if_neg (fun h => h h0), if_pos h0, o_succ (by omega)]
    · obtain ⟨o, ho⟩ : ∃ o : Nat, M 5 (7 + i) = (o : Int) := ⟨(M 5 (7 + i)).toNat, by omega⟩
      obtain ⟨t, ht⟩ : ∃ t : Nat, M 5 (17 + i) = (t : Int) := ⟨(M 5 (17 + i)).toNat, by omega⟩
      rw [if_pos h0, if_neg h0]
      simp (disch := omega) only [o_add_eq (x := 7), o_add_eq (x := 17), o_add_eq (x := 27), o_add_eq (x := 1), tp7, tp17, tp27, ho, ht, o_mul_eq, o_add_eq, tq8, tnc]
      have a1 : o < 8 := by omega
      have a2 : t < 8 := by omega
      rw [if_pos (by omega), if_pos (by omega), if_pos (by omega), if_pos (by omega), zlet_eq, zlet_eq, RM_at a1 a2, o_min_eq, RM_upd a1 a2]
      rw [if_pos (by omega), zlet_eq, RM_upd a2 a1]
      rfl
  · intro n
    simp only [f_X11_laysFar_40, h5, tn1]
    rw [if_pos (by omega)]
    rfl
theorem bD_fwq {D : MX} {m p q : Nat} (h : bD D) : bD (fwq m p D q) := by
  intro a b
  have h1 := h p q
  have h2 := h p m
  have h3 := h m q
  have h4 := h a b
  unfold fwq mxs
  split <;> omega
theorem zD_fwq {D : MX} {n m p q : Nat} (hb : bD D) (h : zD n D) : zD n (fwq m p D q) := by
  intro a ha
  have h4 := h a ha
  unfold fwq mxs
  split
  · rename_i e
    obtain ⟨rfl, rfl⟩ := e
    have h2 := hb a m
    have h3 := hb m a
    omega
  · exact h4
theorem J_fwp {D : MX} {n m p : Nat} (j : Nat) (h : bD D ∧ zD n D) : bD (rg j (fwq m p) D) ∧ zD n (rg j (fwq m p) D) :=
  rg_inv (P := fun D => bD D ∧ zD n D) (fun b i hb => ⟨bD_fwq hb.1, zD_fwq hb.1 hb.2⟩) j D h
theorem J_fwm {D : MX} {n m k : Nat} (j : Nat) (h : bD D ∧ zD n D) : bD (rg j (fwp k m) D) ∧ zD n (rg j (fwp k m) D) :=
  rg_inv (P := fun D => bD D ∧ zD n D) (fun b i hb => J_fwp k hb) j D h
theorem J_fw {D : MX} {n k l : Nat} (j : Nat) (h : bD D ∧ zD n D) : bD (rg j (fwm l) D) ∧ zD n (rg j (fwm l) D) :=
  rg_inv (P := fun D => bD D ∧ zD n D) (fun b i hb => J_fwm l hb) j D h
theorem m_lay170 {M : AM} (hI : Ic (M 5)) (k1 : Int → AM → Option AM) (k2 : Int → Int → AM → Option AM) {m p : Nat} (hm : m < 8) (hp : p < 8) {D : MX} (hD : bD D) :
    f_X11_laysFar_170 k1 k2 zB (m : Int) (p : Int) 0 (RM M 9 D) = k2 (m : Int) (o_add (p : Int) 1) (RM M 9 (fwp (M 5 0).toNat m D p)) := by
  have h5 : ∀ D, RM M 9 D 5 = M 5 := fun D => RM_ne (by decide)
  have hc0 := hI.1
  refine up_loop0 (fun n i s => f_X11_laysFar_170 k1 k2 n (m : Int) (p : Int) (i : Int) s) (fun i => RM M 9 (rg i (fwq m p) D)) (M 5 0).toNat _ _ rfl ?_ ?_ (by omega)
  · intro n i hi
    simp only [f_X11_laysFar_170, h5, tn0]
    rw [if_neg (by omega), rg_succ]
    have hE : bD (rg i (fwq m p) D) := rg_inv (fun b i hb => bD_fwq hb) i D hD
    generalize rg i (fwq m p) D = E at hE
    have a1 : i < 8 := by omega
    have b1 := hE p m
    have b2 := hE m i
    simp (disch := omega) only [o_mul_eq, o_add_eq (y := (i : Int)) (x := 8 * (p : Int)), o_add_eq (y := (m : Int)) (x := 8 * (p : Int)), o_add_eq (y := (i : Int)) (x := 8 * (m : Int)), tq8]
    rw [if_pos (by omega), if_pos (by omega), if_pos (by omega), zlet_eq, RM_at hp a1, RM_at hp hm, RM_at hm a1, o_min_eq, o_succ (by omega), o_add_eq (by omega) (by omega), RM_upd hp a1]
    rfl
  · intro n
    simp only [f_X11_laysFar_170, h5, tn0]
    rw [if_pos (by omega)]
    rfl
theorem m_lay158 {M : AM} (hI : Ic (M 5)) (k1 : Int → AM → Option AM) {m : Nat} (hm : m < 8) {D : MX} (hD : bD D) :
    f_X11_laysFar_158 k1 zB (m : Int) 0 (RM M 9 D) = k1 (o_add (m : Int) 1) (RM M 9 (fwm (M 5 0).toNat D m)) := by
  have h5 : ∀ D, RM M 9 D 5 = M 5 := fun D => RM_ne (by decide)
  have hc0 := hI.1
  refine up_loop0 (fun n i s => f_X11_laysFar_158 k1 n (m : Int) (i : Int) s) (fun i => RM M 9 (rg i (fwp (M 5 0).toNat m) D)) (M 5 0).toNat _ _ rfl ?_ ?_ (by omega)
  · intro n i hi
    simp only [f_X11_laysFar_158, h5, tn0]
    rw [if_neg (by omega), rg_succ]
    have hE : bD (rg i (fwp (M 5 0).toNat m) D) := rg_inv (P := bD) (fun b j hb => rg_inv (P := bD) (fun b i hb => bD_fwq hb) (M 5 0).toNat b hb) i D hD
    rw [m_lay170 hI _ _ hm (by omega) hE, o_succ (by omega)]
  · intro n
    simp only [f_X11_laysFar_158, h5, tn0]
    rw [if_pos (by omega)]
    rfl
theorem m_lay146 {M : AM} (hI : Ic (M 5)) {D : MX} (hD : bD D) :
    f_X11_laysFar_146 zB 0 (RM M 9 D) = some (RM M 9 (rg (M 5 0).toNat (fwm (M 5 0).toNat) D)) := by
  have h5 : ∀ D, RM M 9 D 5 = M 5 := fun D => RM_ne (by decide)
  have hc0 := hI.1
  refine up_loop0 (fun n i s => f_X11_laysFar_146 n (i : Int) s) (fun i => RM M 9 (rg i (fwm (M 5 0).toNat) D)) (M 5 0).toNat _ _ rfl ?_ ?_ (by omega)
  · intro n i hi
    simp only [f_X11_laysFar_146, h5, tn0]
    rw [if_neg (by omega), rg_succ]
    have hE : bD (rg i (fwm (M 5 0).toNat) D) := rg_inv (P := bD) (fun b j hb => rg_inv (P := bD) (fun b j hb => rg_inv (P := bD) (fun b i hb => bD_fwq hb) (M 5 0).toNat b hb) (M 5 0).toNat b hb) i D hD
    rw [m_lay158 hI _ (by omega) hE, o_succ (by omega)]
  · intro n
    simp only [f_X11_laysFar_146, h5, tn0]
    rw [if_pos (by omega)]
/-- FAR laid in the model's row -/
def LF (M : AM) : AM := RM M 9 (fD (M 5))
theorem m_laysFar {M : AM} (hI : Ic (M 5)) : f_X11_laysFar M = some (LF M) := by
  unfold f_X11_laysFar
  rw [m_lay2, m_lay40 hI, m_lay146 hI (mok_mx1 hI).1]
  rfl
theorem LF_ne {M : AM} {a : Nat} (h : a ≠ 9) : LF M a = M a := RM_ne h
theorem LF5 (M : AM) : LF M 5 = M 5 := RM_ne (by decide)
theorem LF_Eo (M : AM) : Eo [9] M (LF M) := fun a ha => LF_ne (by simpa using ha)
/-- the row 9 tells FAR -/
def Lf (c : Nat → Int) (M : AM) : Prop := ∀ p q : Nat, p < 8 → q < 8 → M 9 (8 * p + q) = fD c p q
theorem Lf_LF (M : AM) : Lf (M 5) (LF M) := fun p q hp hq => RM_at hp hq
theorem m_farOf {c : Nat → Int} {M : AM} (hL : Lf c M) {x y : Int} (hx : 0 ≤ x ∧ x < 8) (hy : 0 ≤ y ∧ y < 8) : f_X11_farOf x y M = some (FD c x y, M) := by
  obtain ⟨p, rfl⟩ : ∃ p : Nat, x = (p : Int) := ⟨x.toNat, by omega⟩
  obtain ⟨q, rfl⟩ : ∃ q : Nat, y = (q : Int) := ⟨y.toNat, by omega⟩
  unfold f_X11_farOf FD
  simp (disch := omega) only [o_mul_eq, o_add_eq, tq8, tnc]
  rw [if_pos (by omega), hL p q (by omega) (by omega)]
theorem m_isHeard {c : Nat → Int} {M : AM} (hL : Lf c M) {x y : Int} (hx : 0 ≤ x ∧ x < 8) (hy : 0 ≤ y ∧ y < 8) : f_X11_isHeard x y M = some (if FD c x y ≤ M 5 3 then 1 else 0, M) := by
  unfold f_X11_isHeard
  rw [m_farOf hL hx hy, bind_s]
  simp only [tn3]
  by_cases h : FD c x y ≤ M 5 3
  · rw [if_neg (by omega), if_pos h]
  · rw [if_pos (by omega), if_neg h]
/-! the class -/
theorem agN_fws {n m : Nat} (hm : m < n) {D E : MX} (h : ∀ p q, p < n → q < n → D p q = E p q) : ∀ p q, p < n → q < n → fws n m D p q = fws n m E p q := by
  intro p q hp hq
  unfold fws
  rw [if_pos ⟨hp, hq⟩, if_pos ⟨hp, hq⟩, h p q hp hq, h p m hp hm, h m q hm hq]
theorem agN_fw {n : Nat} {D E : MX} (hD : bD D ∧ zD n D) (hE : bD E ∧ zD n E) (h : ∀ p q, p < n → q < n → D p q = E p q) : ∀ k, k ≤ n → ∀ p q, p < n → q < n → rg k (fwm n) D p q = rg k (fwm n) E p q := by
  intro k
  induction k with
  | zero => intro _; exact h
  | succ k ih =>
    intro hk
    have h1 := (J_fw (k := n) (l := n) k hD).2 k (by omega)
    have h2 := (J_fw (k := n) (l := n) k hE).2 k (by omega)
    rw [rg_succ, rg_succ, fwm_fws n h1, fwm_fws n h2]
    exact agN_fws (by omega) (ih (by omega))
def mxd (n : Nat) : MX := fun p q => if p = q ∧ p < n then 0 else 1000
theorem x_lay177 {M : AM} {q : Nat} {n0 : Nat} (hn0 : M q 2 = (n0 : Int)) (hn : n0 ≤ 8) (k1 : Nat → Int → AM → Option AM) (k2 : Nat → Int → Int → AM → Option AM) {m a : Nat} (hm : m < n0) (ha : a < n0) {D : MX} (hD : bD D) (hz : zD n0 D) :
    f_X1_measure_177 k1 k2 zB q (m : Int) (a : Int) (D a m) 0 (RM M (q + 10) D) = k2 q (m : Int) (o_add (a : Int) 1) (RM M (q + 10) (fwp n0 m D a)) := by
  have h2 : ∀ D, RM M (q + 10) D q = M q := fun D => RM_ne (by omega)
  have hmm := hz m hm
  have hcl : ∀ i, rg i (fwq m a) D = fun x y => if x = a ∧ y < i then min (D a y) (D a m + D m y) else D x y := fwp_eq a hmm
  by_cases hne : 1000 ≤ D a m ∨ a = m
  · have e : fwp n0 m D a = D := by
      show rg n0 (fwq m a) D = D
      rw [hcl]
      funext x y
      split
      · rename_i e
        obtain ⟨rfl, _⟩ := e
        have b1 := hD x y
        have b2 := hD m y
        rcases hne with h | h
        · omega
        · subst h; omega
      · rfl
    rw [e]
    have key : ∀ n, f_X1_measure_177 k1 k2 (n + 1) q (m : Int) (a : Int) (D a m) 0 (RM M (q + 10) D) = k2 q (m : Int) (o_add (a : Int) 1) (RM M (q + 10) D) := by
      intro n
      simp only [f_X1_measure_177, h2, hn0]
      rw [if_neg (by omega)]
      by_cases h3 : 1000 ≤ D a m
      · rw [if_pos h3]
      · rw [if_neg h3, if_pos (by rcases hne with h | h; exact absurd h h3; rw [h])]
    exact key 1999999
  · have hne1 : ¬ 1000 ≤ D a m := fun h => hne (Or.inl h)
    have hne2 : ¬ (a : Int) = (m : Int) := fun h => hne (Or.inr (by omega))
    have hne3 : ¬ m = a := fun h => hne (Or.inr h.symm)
    refine up_loop0 (fun n i s => f_X1_measure_177 k1 k2 n q (m : Int) (a : Int) (D a m) (i : Int) s) (fun i => RM M (q + 10) (rg i (fwq m a) D)) n0 _ _ rfl ?_ ?_ (by omega)
    · intro n i hi
      simp only [f_X1_measure_177, h2, hn0]
      rw [if_neg (by omega), if_neg hne1, if_neg hne2]
      have a1 : i < 8 := by omega
      have a2 : m < 8 := by omega
      have a3 : a < 8 := by omega
      have b1 := hD a m
      have b2 := hD m i
      simp (disch := omega) only [o_mul_eq, o_add_eq (y := (i : Int)) (x := (m : Int) * 8), o_add_eq (y := (i : Int)) (x := (a : Int) * 8), tq8']
      have r1 : rg i (fwq m a) D m i = D m i := by rw [hcl]; simp [hne3]
      have r2 : rg i (fwq m a) D a i = D a i := by rw [hcl]; simp
      have r3 : rg i (fwq m a) D a m = D a m := by
        rw [hcl]
        show (if a = a ∧ m < i then min (D a m) (D a m + D m m) else D a m) = D a m
        split
        · omega
        · rfl
      rw [if_pos (by omega), zlet_eq, if_pos (by omega), RM_at a2 a1, RM_at a3 a1, r1, r2, o_add_eq (by omega) (by omega), o_succ (by omega), rg_succ]
      have e : fwq m a (rg i (fwq m a) D) i = mxs (rg i (fwq m a) D) a i (min (D a i) (D a m + D m i)) := by
        show mxs (rg i (fwq m a) D) a i (min (rg i (fwq m a) D a i) (rg i (fwq m a) D a m + rg i (fwq m a) D m i)) = _
        rw [r1, r2, r3]
      rw [e]
      by_cases h3 : D a i ≤ D a m + D m i
      · rw [if_pos h3]
        congr 2
        funext x y
        unfold mxs
        split
        · rename_i e
          obtain ⟨rfl, rfl⟩ := e
          rw [r2]; omega
        · rfl
      · rw [if_neg h3, zlet_eq, RM_upd a3 a1]
        congr 3
        omega
    · intro n
      simp only [f_X1_measure_177, h2, hn0]
      rw [if_pos (by omega)]
      rfl
theorem x_lay154 {M : AM} {q : Nat} {n0 : Nat} (hn0 : M q 2 = (n0 : Int)) (hn : n0 ≤ 8) (k1 : Nat → Int → AM → Option AM) {m : Nat} (hm : m < n0) {D : MX} (hD : bD D) (hz : zD n0 D) :
    f_X1_measure_154 k1 zB q (m : Int) 0 (RM M (q + 10) D) = k1 q (o_add (m : Int) 1) (RM M (q + 10) (fwm n0 D m)) := by
  have h2 : ∀ D, RM M (q + 10) D q = M q := fun D => RM_ne (by omega)
  refine up_loop0 (fun n i s => f_X1_measure_154 k1 n q (m : Int) (i : Int) s) (fun i => RM M (q + 10) (rg i (fwp n0 m) D)) n0 _ _ rfl ?_ ?_ (by omega)
  · intro n i hi
    simp only [f_X1_measure_154, h2, hn0]
    rw [if_neg (by omega), rg_succ]
    have hE := J_fwm (k := n0) (m := m) i ⟨hD, hz⟩
    generalize rg i (fwp n0 m) D = E at hE
    simp (disch := omega) only [o_mul_eq, o_add_eq, tq8']
    rw [if_pos (by omega), RM_at (by omega) (by omega), x_lay177 hn0 hn _ _ hm hi hE.1 hE.2, o_succ (by omega)]
  · intro n
    simp only [f_X1_measure_154, h2, hn0]
    rw [if_pos (by omega)]
    rfl
theorem x_lay144 {M : AM} {q : Nat} {n0 : Nat} (hn0 : M q 2 = (n0 : Int)) (hn : n0 ≤ 8) {D : MX} (hD : bD D) (hz : zD n0 D) :
    f_X1_measure_144 zB q 0 (RM M (q + 10) D) = some (RM M (q + 10) (rg n0 (fwm n0) D)) := by
  have h2 : ∀ D, RM M (q + 10) D q = M q := fun D => RM_ne (by omega)
  refine up_loop0 (fun n i s => f_X1_measure_144 n q (i : Int) s) (fun i => RM M (q + 10) (rg i (fwm n0) D)) n0 _ _ rfl ?_ ?_ (by omega)
  · intro n i hi
    simp only [f_X1_measure_144, h2, hn0]
    rw [if_neg (by omega), rg_succ]
    have hE := J_fw (k := n0) (l := n0) i ⟨hD, hz⟩
    rw [x_lay154 hn0 hn _ hi hE.1 hE.2, o_succ (by omega)]
  · intro n
    simp only [f_X1_measure_144, h2, hn0]
    rw [if_pos (by omega)]
/-- the class's House at q, without its lengths -/
def Rg (c : Nat → Int) (q : Nat) (M : AM) : Prop :=
  (M q 0 = c 3 ∧ M q 1 = c 4 ∧ M q 2 = c 0 ∧ M q 3 = c 1 ∧ M q 4 = c 2 ∧ M q 5 = c 5 ∧ M q 6 = c 6) ∧
  (∀ w : Nat, (w : Int) < c 1 → M (q + 1) w = c (7 + w) ∧ M (q + 2) w = c (17 + w) ∧ M (q + 3) w = c (27 + w)) ∧
  (∀ k : Nat, (k : Int) < c 2 → M (q + 4) k = c (47 + k) ∧ M (q + 5) k = c (53 + k) ∧ M (q + 6) k = c (59 + k) ∧ M (q + 7) k = c (71 + k) ∧ M (q + 8) k = c (77 + k)) ∧
  bits (M q 7) (c 1).toNat (fun w => c (37 + w)) ∧ bits (M q 8) (c 2).toNat (fun k => c (65 + k))
def Rz (c : Nat → Int) (q : Nat) (M : AM) : Prop := M q 19 = 0 ∨ M q 19 = 1 ∧ ∀ a b : Nat, (a : Int) < c 0 → (b : Int) < c 0 → M (q + 10) (8 * a + b) = fD c a b
theorem Rh_iff {c : Nat → Int} {q : Nat} {M : AM} : Rh c q M ↔ Rg c q M ∧ Rz c q M := by
  constructor
  · rintro ⟨h1, h2, h3, h4, h5, h6⟩
    exact ⟨⟨h1, h2, h3, h4, h5⟩, h6⟩
  · rintro ⟨⟨h1, h2, h3, h4, h5⟩, h6⟩
    exact ⟨h1, h2, h3, h4, h5, h6⟩
theorem Rg_cong {c : Nat → Int} {q : Nat} {M N : AM} (h : ∀ i, i < 9 → N q i = M q i) (hc : ∀ i, 1 ≤ i → i ≤ 8 → N (q + i) = M (q + i)) (hR : Rg c q M) : Rg c q N := by
  unfold Rg at hR ⊢
  rw [h 0 (by omega), h 1 (by omega), h 2 (by omega), h 3 (by omega), h 4 (by omega), h 5 (by omega), h 6 (by omega), h 7 (by omega), h 8 (by omega),
    hc 1 (by omega) (by omega), hc 2 (by omega) (by omega), hc 3 (by omega) (by omega), hc 4 (by omega) (by omega), hc 5 (by omega) (by omega), hc 6 (by omega) (by omega), hc 7 (by omega) (by omega), hc 8 (by omega) (by omega)]
  exact hR
theorem x_lay53 {c : Nat → Int} {M : AM} {q : Nat} (hI : Ic c) (hR : Rg c q M) (D0 : MX) :
    f_X1_measure_53 zB q 0 (RM M (q + 10) D0) = f_X1_measure_144 zB q 0 (RM M (q + 10) (rg (c 1).toNat (mxwire c) D0)) := by
  have hq : ∀ D, RM M (q + 10) D q = M q := fun D => RM_ne (by omega)
  have hq1 : ∀ D, RM M (q + 10) D (q + 1) = M (q + 1) := fun D => RM_ne (by omega)
  have hq2 : ∀ D, RM M (q + 10) D (q + 2) = M (q + 2) := fun D => RM_ne (by omega)
  have hq3 : ∀ D, RM M (q + 10) D (q + 3) = M (q + 3) := fun D => RM_ne (by omega)
  have hc0 := hI.1
  have hc1 := hI.2.1
  obtain ⟨⟨r0, r1, r2, r3, r4, r5, r6⟩, hw, hk, hb, hb2⟩ := hR
  refine up_loop0 (fun n i s => f_X1_measure_53 n q (i : Int) s) (fun i => RM M (q + 10) (rg i (mxwire c) D0)) (c 1).toNat _ _ rfl ?_ ?_ (by omega)
  · intro n i hi
    have hIw := Ic_w hI (w := i) (by omega)
    obtain ⟨w1, w2, w3⟩ := hw i (by omega)
    have hbit := bits_at hb (by omega) hi
    simp only [f_X1_measure_53, hq, hq1, hq2, hq3, r3, tnc, w1, w2, w3]
    rw [if_neg (by omega), rg_succ]
    generalize rg i (mxwire c) D0 = D
    unfold mxwire
    by_cases h0 : c (37 + i) = 0
    · rw [if_pos (hbit.mpr (by omega)), if_pos h0, o_succ (by omega)]
    · obtain ⟨o, ho⟩ : ∃ o : Nat, c (7 + i) = (o : Int) := ⟨(c (7 + i)).toNat, by omega⟩
      obtain ⟨t, ht⟩ : ∃ t : Nat, c (17 + i) = (t : Int) := ⟨(c (17 + i)).toNat, by omega⟩
      have h1 : c (37 + i) = 1 := by omega
      rw [if_neg (fun h => (hbit.mp h) h1), if_neg h0, if_pos (by omega)]
      have a1 : o < 8 := by omega
      have a2 : t < 8 := by omega
      simp (disch := omega) only [ho, ht, o_mul_eq, o_add_eq, tq8', tnc]
      rw [zlet_eq, if_pos (by omega), zlet_eq, tq8', RM_at a1 a2, o_min_eq, zlet_eq, RM_upd a1 a2]
      simp (disch := omega) only [hq1, hq2, w1, w2, ho, ht, o_mul_eq, o_add_eq, tq8']
      rw [if_pos (by omega), zlet_eq, RM_upd a2 a1]
      rfl
  · intro n
    simp only [f_X1_measure_53, hq, r3]
    rw [if_pos (by omega)]
theorem x_lay25 {M : AM} {q : Nat} {n0 : Nat} (hn0 : M q 2 = (n0 : Int)) (hn : n0 ≤ 8) : f_X1_measure_25 zB q 0 (RM M (q + 10) (fun _ _ => 1000)) = f_X1_measure_53 zB q 0 (RM M (q + 10) (mxd n0)) := by
  have hq : ∀ D, RM M (q + 10) D q = M q := fun D => RM_ne (by omega)
  have e0 : mxd 0 = fun _ _ => 1000 := by funext a b; simp [mxd]
  refine up_loop0 (fun n i s => f_X1_measure_25 n q (i : Int) s) (fun i => RM M (q + 10) (mxd i)) n0 _ _ (by rw [e0]) ?_ ?_ (by omega)
  · intro n i hi
    simp only [f_X1_measure_25, hq, hn0]
    simp (disch := omega) only [o_mul_eq, o_add_eq (x := (i : Int) * 8), tq8']
    rw [if_neg (by omega), if_pos (by omega), zlet_eq, RM_upd (by omega) (by omega), o_succ (by omega)]
    congr 2
    funext a b
    unfold mxs mxd
    by_cases h : a = i ∧ b = i
    · rw [if_pos h, if_pos ⟨by omega, by omega⟩]
    · rw [if_neg h]
      by_cases h2 : a = b ∧ a < i
      · rw [if_pos h2, if_pos ⟨h2.1, by omega⟩]
      · rw [if_neg h2, if_neg]
        rintro ⟨h3, h4⟩
        by_cases h5 : a = i
        · exact h ⟨h5, by omega⟩
        · exact h2 ⟨h3, by omega⟩
  · intro n
    simp only [f_X1_measure_25, hq, hn0]
    rw [if_pos (by omega)]
theorem mxwire_eq (c : Nat → Int) (D : MX) (w : Nat) : mxwire c D w = if c (37 + w) = 0 then D else mxw D (c (7 + w)).toNat (c (17 + w)).toNat (1 + c (27 + w)) := rfl
theorem agN_wire {c : Nat → Int} (hI : Ic c) {n : Nat} (hn : n = (c 0).toNat) {D E : MX} (h : ∀ p q, p < n → q < n → D p q = E p q) : ∀ k, k ≤ (c 1).toNat → ∀ p q, p < n → q < n → rg k (mxwire c) D p q = rg k (mxwire c) E p q := by
  intro k
  induction k with
  | zero => intro _; exact h
  | succ k ih =>
    intro hk p q hp hq
    have hw := Ic_w hI (w := k) (by omega)
    have i1 := ih (by omega)
    rw [rg_succ, rg_succ, mxwire_eq, mxwire_eq]
    split
    · exact i1 p q hp hq
    · unfold mxw mxs
      rw [i1 (c (7 + k)).toNat (c (17 + k)).toNat (by omega) (by omega), i1 p q hp hq]
theorem J_wire {c : Nat → Int} (hI : Ic c) {D : MX} {n : Nat} (h : bD D ∧ zD n D) : ∀ k, k ≤ (c 1).toNat → bD (rg k (mxwire c) D) ∧ zD n (rg k (mxwire c) D) := by
  intro k
  induction k with
  | zero => intro _; exact h
  | succ k ih =>
    intro hk
    have hw := Ic_w hI (w := k) (by omega)
    have i1 := ih (by omega)
    rw [rg_succ, mxwire_eq]
    split
    · exact i1
    · exact ⟨bD_mxw i1.1 (by omega), zD_mxw i1.2 (by omega)⟩
/-- the class measures -/
theorem x_measure {c : Nat → Int} {q : Nat} {M : AM} (hI : Ic c) (h : Rh c q M) : ∃ N, f_X1_measure q M = some N ∧ Rh c q N ∧ N q 19 = 1 ∧ (∀ a, a ≠ q → a ≠ q + 10 → N a = M a) := by
  obtain ⟨hg, hz⟩ := Rh_iff.mp h
  have hc0 := hI.1
  have hc1 := hI.2.1
  unfold f_X1_measure
  rcases hz with hz | ⟨hz, hl⟩
  · rw [if_pos hz, zlet_eq, J7_fill _ _ (by omega), bind_s]
    have e1 : am_row (am_upd M q 19 1) (q + 10) (fun j => if j < 64 then 1000 else am_upd M q 19 1 (q + 10) j) = RM (am_upd M q 19 1) (q + 10) (fun _ _ => 1000) := rfl
    rw [e1]
    have hg1 : Rg c q (am_upd M q 19 1) := Rg_cong (fun i hi => am_upd_ne (by omega)) (fun i h1 h2 => am_upd_cell (by omega)) hg
    have hn0 : am_upd M q 19 1 q 2 = (((c 0).toNat : Nat) : Int) := by rw [hg1.1.2.2.1]; omega
    have jd : bD (mxd (c 0).toNat) ∧ zD (c 0).toNat (mxd (c 0).toNat) := by
      refine ⟨fun a b => ?_, fun a ha => ?_⟩
      · unfold mxd; split <;> omega
      · simp [mxd, ha]
    have jw := J_wire hI jd (c 1).toNat (Nat.le_refl _)
    rw [x_lay25 hn0 (by omega), x_lay53 hI hg1, x_lay144 hn0 (by omega) jw.1 jw.2]
    refine ⟨_, rfl, Rh_iff.mpr ⟨?_, Or.inr ⟨?_, ?_⟩⟩, ?_, ?_⟩
    · exact Rg_cong (fun i hi => by rw [RM_ne (by omega)]) (fun i h1 h2 => RM_ne (by omega)) hg1
    · rw [RM_ne (by omega)]; exact am_upd_self _ _ _ _
    · intro a b ha hb
      rw [RM_at (by omega) (by omega)]
      have a1 := agN_wire hI rfl (D := mxd (c 0).toNat) (E := mx0) (fun a b ha hb => by simp [mxd, mx0, ha]) (c 1).toNat (Nat.le_refl _)
      have j0 : bD mx0 ∧ zD (c 0).toNat mx0 := ⟨(mok_0 c).1, (mok_0 c).2.1⟩
      have j1 := J_wire hI j0 (c 1).toNat (Nat.le_refl _)
      exact agN_fw jw j1 a1 (c 0).toNat (Nat.le_refl _) a b (by omega) (by omega)
    · rw [RM_ne (by omega)]; exact am_upd_self _ _ _ _
    · intro a h1 h2
      rw [RM_ne h2, am_upd_cell h1]
  · rw [if_neg (by omega)]
    exact ⟨M, rfl, h, hz, fun _ _ _ => rfl⟩
/-- the House at q holds c still; but for its lengths nothing has changed -/
def Hm (c : Nat → Int) (q : Nat) (M N : AM) : Prop := Rh c q N ∧ (∀ a, a ≠ q → a ≠ q + 10 → N a = M a)
theorem Hm_refl {c : Nat → Int} {q : Nat} {M : AM} (h : Rh c q M) : Hm c q M M := ⟨h, fun _ _ _ => rfl⟩
theorem Hm_trans {c : Nat → Int} {q : Nat} {M N P : AM} (h1 : Hm c q M N) (h2 : Hm c q N P) : Hm c q M P := ⟨h2.1, fun a ha hb => (h2.2 a ha hb).trans (h1.2 a ha hb)⟩
theorem x_distance1 {c : Nat → Int} {q : Nat} {M : AM} (hI : Ic c) (h : Rh c q M) {x y : Int} (hx : 0 ≤ x ∧ x < c 0) (hy : 0 ≤ y ∧ y < c 0) : ∃ N, f_X1_distance q x y M = some (FD c x y, N) ∧ Hm c q M N ∧ N q 19 = 1 := by
  have hc0 := hI.1
  obtain ⟨N, e, hN, h1, hE⟩ := x_measure hI h
  unfold f_X1_distance
  rw [e, bind_s, x_isRoom, bind_s]
  have r2 : N q 2 = c 0 := hN.1.2.2.1
  rw [r2, if_pos hx]
  show ∃ N_1, (if (1 : Int) = 0 then some (1000, N) else (f_X1_isRoom q y N).bind fun x3 => _) = _ ∧ _
  rw [if_neg (by omega), x_isRoom, bind_s, r2, if_pos hy]
  show ∃ N_1, (if (1 : Int) = 0 then some (1000, N) else _) = _ ∧ _
  rw [if_neg (by omega)]
  obtain ⟨p, rfl⟩ : ∃ p : Nat, x = (p : Int) := ⟨x.toNat, by omega⟩
  obtain ⟨r, rfl⟩ : ∃ r : Nat, y = (r : Int) := ⟨y.toNat, by omega⟩
  simp (disch := omega) only [o_mul_eq, o_add_eq, tq8']
  rw [if_pos (by omega)]
  refine ⟨N, ?_, ⟨hN, hE⟩, h1⟩
  have hl := hN.2.2.2.2.2
  rcases hl with hl | ⟨_, hl⟩
  · omega
  · rw [hl p r hx.2 hy.2]
    rfl
theorem x_distance {c : Nat → Int} {q : Nat} {M : AM} (hI : Ic c) (h : Rh c q M) {x y : Int} (hx : 0 ≤ x ∧ x < c 0) (hy : 0 ≤ y ∧ y < c 0) : ∃ N, f_X1_distance q x y M = some (FD c x y, N) ∧ Hm c q M N := by
  obtain ⟨N, e, hN, _⟩ := x_distance1 hI h hx hy
  exact ⟨N, e, hN⟩
