/-! FEED -/
theorem i2b_r (x : Int) : -128 ≤ o_i2b x ∧ o_i2b x ≤ 127 := by
  unfold o_i2b
  rw [Int8.toInt_toInt32]
  have h1 := Int8.le_toInt (Int32.ofInt x).toInt8
  have h2 : (Int32.ofInt x).toInt8.toInt < 128 := Int.lt_of_lt_of_le (Int8.toInt_lt (Int32.ofInt x).toInt8) (by decide)
  exact ⟨Int.le_trans (by decide) h1, by omega⟩
def apX (M : AM) (v : Int) : AM := am_upd (am_upd M 21 (M 20 7).toNat v) 20 7 (M 20 7 + 1)
def apM (M : AM) (v : Int) : AM := am_upd (am_upd M 4 (M 0 8).toNat v) 0 8 (M 0 8 + 1)
def bt (a : Int) (i : Int) : Int := o_i2b (o_i2b (o_shr a i))
def bl (a : Int) : List Int := [bt a 24, bt a 16, bt a 8, bt a 0]
theorem apX_n (M : AM) (v : Int) : apX M v 20 7 = M 20 7 + 1 := am_upd_self _ _ _ _
theorem apM_n (M : AM) (v : Int) : apM M v 0 8 = M 0 8 + 1 := am_upd_self _ _ _ _
theorem x_fstep {M : AM} (h0 : 0 ≤ M 20 7) (h9 : M 20 7 < 900) (n : Nat) (a : Int) {s : Int} (hs : 0 ≤ s) : f_X5_feedInt_3 (n + 1) a s M = f_X5_feedInt_3 n a (o_add s (-8)) (apX M (bt a s)) := by
  simp only [f_X5_feedInt_3]
  rw [if_neg (by omega), if_neg (by omega), if_pos ⟨h0, h9⟩, zlet_eq, zlet_eq, am_upd_cell (show ¬ 20 = 21 by decide), o_add_eq (x := M 20 7) (y := 1) (by omega) (by omega)]
  rfl
theorem x_fend (M : AM) (n : Nat) (a : Int) : f_X5_feedInt_3 (n + 1) a (-8) M = some M := by
  simp only [f_X5_feedInt_3]
  rw [if_pos (by decide)]
theorem m_fend (M : AM) (n : Nat) (a : Int) : f_X11_lay_2 (n + 1) a (-1) M = some M := by
  simp only [f_X11_lay_2]
  rw [if_pos (by decide)]
theorem zB5 : ∃ n, zB = n + 1 + 1 + 1 + 1 + 1 := ⟨1999995, rfl⟩
theorem x_feedInt {M : AM} (h0 : 0 ≤ M 20 7) (h9 : M 20 7 + 4 ≤ 900) (a : Int) : f_X5_feedInt a M = some ((bl a).foldl apX M) := by
  unfold f_X5_feedInt
  obtain ⟨n, hn⟩ := zB5
  rw [hn, x_fstep h0 (by omega) _ _ (by decide), show o_add 24 (-8) = 16 by decide]
  rw [x_fstep (by rw [apX_n]; omega) (by rw [apX_n]; omega) _ _ (by decide), show o_add 16 (-8) = 8 by decide]
  rw [x_fstep (by rw [apX_n, apX_n]; omega) (by rw [apX_n, apX_n]; omega) _ _ (by decide), show o_add 8 (-8) = 0 by decide]
  rw [x_fstep (by rw [apX_n, apX_n, apX_n]; omega) (by rw [apX_n, apX_n, apX_n]; omega) _ _ (by decide), show o_add 0 (-8) = -8 by decide, x_fend]
  rfl
theorem m_fstep {M : AM} (h0 : 0 ≤ M 0 8) (h9 : M 0 8 < 900) (n : Nat) (a : Int) {s : Int} (hs : 0 ≤ s) : f_X11_lay_2 (n + 1) a s M = f_X11_lay_2 n a (o_add s (-1)) (apM M (bt a (o_mul 8 s))) := by
  simp only [f_X11_lay_2]
  rw [if_neg (by omega), if_pos ⟨h0, h9⟩, zlet_eq, zlet_eq, am_upd_cell (show ¬ 0 = 4 by decide), o_add_eq (x := M 0 8) (y := 1) (by omega) (by omega)]
  rfl
theorem m_lay {M : AM} (h0 : 0 ≤ M 0 8) (h9 : M 0 8 + 4 ≤ 900) (a : Int) : f_X11_lay a M = some ((bl a).foldl apM M) := by
  unfold f_X11_lay
  obtain ⟨n, hn⟩ := zB5
  rw [hn, m_fstep h0 (by omega) _ _ (by decide), show o_add 3 (-1) = 2 by decide, show o_mul 8 3 = 24 by decide]
  rw [m_fstep (by rw [apM_n]; omega) (by rw [apM_n]; omega) _ _ (by decide), show o_add 2 (-1) = 1 by decide, show o_mul 8 2 = 16 by decide]
  rw [m_fstep (by rw [apM_n, apM_n]; omega) (by rw [apM_n, apM_n]; omega) _ _ (by decide), show o_add 1 (-1) = 0 by decide, show o_mul 8 1 = 8 by decide]
  rw [m_fstep (by rw [apM_n, apM_n, apM_n]; omega) (by rw [apM_n, apM_n, apM_n]; omega) _ _ (by decide), show o_add 0 (-1) = -1 by decide, show o_mul 8 0 = 0 by decide, m_fend]
  rfl
/-- both tapes alike -/
def Tp (A B : AM) : Prop := A 20 7 = B 0 8 ∧ 0 ≤ B 0 8 ∧ ∀ k : Nat, (k : Int) < B 0 8 → A 21 k = B 4 k ∧ -128 ≤ B 4 k ∧ B 4 k ≤ 127
theorem Tp_ap {A B : AM} (h : Tp A B) {v : Int} (hv : -128 ≤ v ∧ v ≤ 127) : Tp (apX A v) (apM B v) := by
  obtain ⟨h1, h2, h3⟩ := h
  refine ⟨by rw [apX_n, apM_n, h1], by rw [apM_n]; omega, fun k hk => ?_⟩
  rw [apM_n] at hk
  have eX : apX A v 21 k = if k = (B 0 8).toNat then v else A 21 k := by
    unfold apX
    rw [am_upd_cell (by decide), am_upd_eq, h1]
    simp
  have eM : apM B v 4 k = if k = (B 0 8).toNat then v else B 4 k := by
    unfold apM
    rw [am_upd_cell (by decide), am_upd_eq]
    simp
  rw [eX, eM]
  by_cases e : k = (B 0 8).toNat
  · rw [if_pos e, if_pos e]; exact ⟨rfl, hv⟩
  · rw [if_neg e, if_neg e]; exact h3 k (by omega)
theorem Tp_fold : ∀ (l : List Int) {A B : AM}, (∀ v, v ∈ l → -128 ≤ v ∧ v ≤ 127) → Tp A B → Tp (l.foldl apX A) (l.foldl apM B)
  | [], _, _, _, h => h
  | v :: l, _, _, hl, h => Tp_fold l (fun x hx => hl x (List.mem_cons_of_mem _ hx)) (Tp_ap h (hl v List.mem_cons_self))
theorem foldX_n : ∀ (l : List Int) (M : AM), l.foldl apX M 20 7 = M 20 7 + (l.length : Int)
  | [], M => by simp
  | v :: l, M => by
    rw [List.foldl_cons, foldX_n l, apX_n, List.length_cons]
    omega
theorem foldM_n : ∀ (l : List Int) (M : AM), l.foldl apM M 0 8 = M 0 8 + (l.length : Int)
  | [], M => by simp
  | v :: l, M => by
    rw [List.foldl_cons, foldM_n l, apM_n, List.length_cons]
    omega
theorem foldX_f : ∀ (l : List Int) (M : AM) (x : Nat), x ≠ 20 → x ≠ 21 → l.foldl apX M x = M x
  | [], M, _, _, _ => rfl
  | v :: l, M, x, h1, h2 => by
    rw [List.foldl_cons, foldX_f l _ x h1 h2]
    unfold apX
    rw [am_upd_cell h1, am_upd_cell h2]
theorem foldM_f : ∀ (l : List Int) (M : AM) (x : Nat), x ≠ 0 → x ≠ 4 → l.foldl apM M x = M x
  | [], M, _, _, _ => rfl
  | v :: l, M, x, h1, h2 => by
    rw [List.foldl_cons, foldM_f l _ x h1 h2]
    unfold apM
    rw [am_upd_cell h1, am_upd_cell h2]
theorem foldM_0 : ∀ (l : List Int) (M : AM) (j : Nat), j ≠ 8 → l.foldl apM M 0 j = M 0 j
  | [], M, _, _ => rfl
  | v :: l, M, j, h1 => by
    rw [List.foldl_cons, foldM_0 l _ j h1]
    unfold apM
    rw [am_upd_ne (fun h => h1 h.2), am_upd_cell (by decide)]
theorem bl_r (a : Int) : ∀ v, v ∈ bl a → -128 ≤ v ∧ v ≤ 127 := by
  intro v hv
  unfold bl at hv
  simp only [List.mem_cons, List.not_mem_nil, or_false] at hv
  rcases hv with rfl | rfl | rfl | rfl <;> exact i2b_r _
theorem RR_tape {M N1 N2 : AM} (hR : RR M) (hx : ∀ x, x ≠ 20 → x ≠ 21 → N1 x = M x) (hm : ∀ x, x ≠ 0 → x ≠ 4 → N2 x = N1 x) (hf : ∀ j, j ≠ 1 → j ≠ 8 → N2 0 j = N1 0 j) (hp : Rp N2) : RR N2 := by
  obtain ⟨r1, r2, r3, r4, r5, r6, r7, ⟨k, hk, e1, e2, hbm⟩, ⟨l1, l2, l3⟩⟩ := hR
  have hc : ∀ x, x ≠ 0 → x ≠ 4 → x ≠ 20 → x ≠ 21 → N2 x = M x := fun x a b c d => (hm x a b).trans (hx x c d)
  have h0 : ∀ j, j ≠ 1 → j ≠ 8 → N2 0 j = M 0 j := fun j a b => by rw [hf j a b, hx 0 (by decide) (by decide)]
  have h15 := hc 15 (by decide) (by decide) (by decide) (by decide)
  have h5 := hc 5 (by decide) (by decide) (by decide) (by decide)
  have h8 := hc 8 (by decide) (by decide) (by decide) (by decide)
  refine ⟨by rw [h15, h0 0 (by decide) (by decide)]; exact r1, by rw [h15, h0 2 (by decide) (by decide), h0 3 (by decide) (by decide)]; exact r2, by rw [h15, h0 10 (by decide) (by decide), h0 11 (by decide) (by decide)]; exact r3, ?_, hp, ?_, ?_, ?_, ?_⟩
  · exact Rt_same (hc 1 (by decide) (by decide) (by decide) (by decide)) (hc 2 (by decide) (by decide) (by decide) (by decide)) (hc 3 (by decide) (by decide) (by decide) (by decide)) (fun x a b => hc x (by omega) (by omega) (by omega) (by omega)) r4
  · unfold Rk at r6 ⊢
    rw [hc 22 (by decide) (by decide) (by decide) (by decide)]
    exact r6
  · exact Rb_cong (fun j hj => by rw [h5]) (fun j hj => by rw [h8]) (fun i hi => hc _ (by omega) (by omega) (by omega) (by omega)) (fun i hi => hc _ (by omega) (by omega) (by omega) (by omega)) r7
  · refine ⟨k, hk, by rw [h15]; exact e1, by rw [h0 24 (by decide) (by decide)]; exact e2, fun i hi => ?_⟩
    exact Rb_cong (fun j hj => by rw [h5]) (fun j hj => by rw [h8]) (fun j hj => hc _ (by omega) (by omega) (by omega) (by omega)) (fun j hj => hc _ (by omega) (by omega) (by omega) (by omega)) (hbm i hi)
  · refine ⟨by rw [h15, h0 34 (by decide) (by decide)]; exact l1, by rw [h0 34 (by decide) (by decide)]; exact l2, fun i hi => ?_⟩
    rw [hc 19 (by decide) (by decide) (by decide) (by decide), hc 14 (by decide) (by decide) (by decide) (by decide)]
    exact l3 i hi
theorem bl_n (a : Int) : (bl a).length = 4 := rfl
theorem a_feed (a1 a2 a3 a4 a5 : Int) : Alike (f_X10_feed a1 a2 a3 a4 a5) (f_X11_feed a1 a2 a3 a4 a5) := by
  intro M hR
  obtain ⟨p1, p2, p3, p4⟩ := hR.2.2.2.2.1
  by_cases g : M 0 8 + 20 ≤ 900
  · let l := bl a1 ++ bl a2 ++ bl a3 ++ bl a4 ++ bl a5
    have hl : l.length = 20 := rfl
    have hlr : ∀ v, v ∈ l → -128 ≤ v ∧ v ≤ 127 := by
      intro v hv
      simp only [l, List.mem_append] at hv
      rcases hv with (((h | h) | h) | h) | h
      · exact bl_r _ v h
      · exact bl_r _ v h
      · exact bl_r _ v h
      · exact bl_r _ v h
      · exact bl_r _ v h
    have ex : f_X10_feed a1 a2 a3 a4 a5 M = some (l.foldl apX M 20 7, l.foldl apX M) := by
      unfold f_X10_feed
      rw [p1, o_add_eq (by omega) (by omega), if_pos g]
      rw [x_feedInt (by omega) (by omega), bind_s]
      rw [x_feedInt (by rw [foldX_n, bl_n]; omega) (by rw [foldX_n, bl_n]; omega), bind_s]
      rw [x_feedInt (by rw [foldX_n, foldX_n, bl_n, bl_n]; omega) (by rw [foldX_n, foldX_n, bl_n, bl_n]; omega), bind_s]
      rw [x_feedInt (by rw [foldX_n, foldX_n, foldX_n, bl_n, bl_n, bl_n]; omega) (by rw [foldX_n, foldX_n, foldX_n, bl_n, bl_n, bl_n]; omega), bind_s]
      rw [x_feedInt (by rw [foldX_n, foldX_n, foldX_n, foldX_n, bl_n, bl_n, bl_n, bl_n]; omega) (by rw [foldX_n, foldX_n, foldX_n, foldX_n, bl_n, bl_n, bl_n, bl_n]; omega), bind_s]
      simp only [l, List.foldl_append]
    generalize hP : l.foldl apX M = P at ex
    obtain ⟨K, hK⟩ : ∃ K, K = am_upd P 0 1 0 := ⟨_, rfl⟩
    have P0 : P 0 = M 0 := by rw [← hP, foldX_f _ _ 0 (by decide) (by decide)]
    have K8 : K 0 8 = M 0 8 := by rw [hK, am_upd_ne (by omega), P0]
    have K4 : K 4 = M 4 := by rw [hK, am_upd_cell (by decide), ← hP, foldX_f _ _ 4 (by decide) (by decide)]
    have hT : Tp P (l.foldl apM K) := by
      rw [← hP]
      refine Tp_fold l hlr ⟨by rw [K8, p1], by rw [K8]; exact p2, fun k hk => ?_⟩
      rw [K8] at hk
      rw [K4]
      exact p4 k hk
    have hn : l.foldl apM K 0 8 = M 0 8 + 20 := by rw [foldM_n, hl, K8]; rfl
    have em : f_X11_feed a1 a2 a3 a4 a5 P = some (P 20 7, l.foldl apM K) := by
      unfold f_X11_feed
      rw [zlet_eq, ← hK, K8, o_add_eq (by omega) (by omega), if_pos g]
      rw [m_lay (by omega) (by omega), bind_s]
      rw [m_lay (by rw [foldM_n, bl_n]; omega) (by rw [foldM_n, bl_n]; omega), bind_s]
      rw [m_lay (by rw [foldM_n, foldM_n, bl_n, bl_n]; omega) (by rw [foldM_n, foldM_n, bl_n, bl_n]; omega), bind_s]
      rw [m_lay (by rw [foldM_n, foldM_n, foldM_n, bl_n, bl_n, bl_n]; omega) (by rw [foldM_n, foldM_n, foldM_n, bl_n, bl_n, bl_n]; omega), bind_s]
      rw [m_lay (by rw [foldM_n, foldM_n, foldM_n, foldM_n, bl_n, bl_n, bl_n, bl_n]; omega) (by rw [foldM_n, foldM_n, foldM_n, foldM_n, bl_n, bl_n, bl_n, bl_n]; omega), bind_s]
      rw [hT.1]
      simp only [l, List.foldl_append]
    refine ⟨_, P, _, ex, em, RR_tape (N1 := P) hR (fun x a b => by rw [← hP]; exact foldX_f _ _ x a b) (fun x a b => ?_) (fun j a b => ?_) ?_⟩
    · rw [foldM_f _ _ x a b, hK, am_upd_cell a]
    · rw [foldM_0 _ _ j b, hK, am_upd_ne (fun h => a h.2)]
    · have e20 : l.foldl apM K 20 = P 20 := by rw [foldM_f _ _ 20 (by decide) (by decide), hK, am_upd_cell (by decide)]
      have e21 : l.foldl apM K 21 = P 21 := by rw [foldM_f _ _ 21 (by decide) (by decide), hK, am_upd_cell (by decide)]
      obtain ⟨t1, t2, t3⟩ := hT
      refine ⟨by rw [e20]; exact t1, t2, by rw [hn]; exact g, fun k hk => ?_⟩
      rw [e21]
      exact t3 k hk
  · have ex : f_X10_feed a1 a2 a3 a4 a5 M = some (-1, M) := by
      unfold f_X10_feed
      rw [p1, o_add_eq (by omega) (by omega), if_neg g]
    have em : f_X11_feed a1 a2 a3 a4 a5 M = some (-1, am_upd M 0 1 0) := by
      unfold f_X11_feed
      rw [zlet_eq, am_upd_ne (by omega), o_add_eq (by omega) (by omega), if_neg g]
    exact ⟨_, M, _, ex, em, RR_thrown 0 hR⟩
