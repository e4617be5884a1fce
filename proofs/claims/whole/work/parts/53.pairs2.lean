theorem am_fset {M : AM} {q j : Nat} {x : Int} {f : Nat → Int} (h : ∀ k, k < 6 → M q k = f k) : ∀ k, k < 6 → am_upd M q j x q k = fset f j x k := by
  intro k hk
  rw [am_upd_eq]
  unfold fset
  by_cases e : k = j
  · rw [if_pos ⟨rfl, e⟩, if_pos e]
  · rw [if_neg (fun h => e h.2), if_neg e]; exact h k hk
theorem m_pairs44 {c : Nat → Int} {P : AM} (hI : Ic c) (h5 : P 5 = c) (hL : Lf c P) {S : PS} (hV : PV c S) (hP : PRm S P) :
    Wp (f_X11_laysPairs_44 zB (askF c S) P) (fun N => PRm (itS c 36 S) N ∧ Eo [11, 12, 13] P N) := by
  have h0 := hI.1
  have h2 := hI.2.2.1
  refine dn_loopP0 (fun n (s : Int × AM) => f_X11_laysPairs_44 n s.1 s.2) (fun j s => ∃ (T : PS) (t : Nat), T = itS c t S ∧ t + j = 36 - tot S + 0 ∧ tot T = tot S + t ∧ PV c T ∧ PRm T s.2 ∧ s.1 = askF c T ∧ Eo [11, 12, 13] P s.2) _ (36 - tot S) (askF c S, P) ⟨S, 0, rfl, by omega, by omega, hV, hP, rfl, Eo_refl _ _⟩ ?_ (by omega)
  rintro n j ⟨a, N⟩ ⟨T, t, hT, htj, htot, hVT, hPT, ha, hE⟩
  replace hPT : PRm T N := hPT
  replace ha : a = askF c T := ha
  replace hE : Eo [11, 12, 13] P N := hE
  have hN5 : N 5 = c := by rw [hE 5 (by simp)]; exact h5
  have hLN : Lf c N := fun p q hp hq => by rw [hE 9 (by simp)]; exact hL p q hp hq
  have htle := tot_le hVT
  show (∃ j2, ∃ s2 : Int × AM, _ ∧ _ ∧ f_X11_laysPairs_44 (n + 1) a N = _) ∨ Wp (f_X11_laysPairs_44 (n + 1) a N) _
  simp only [f_X11_laysPairs_44]
  rcases step_facts hI hVT with ⟨hq, _⟩ | ⟨k, e, hq, hk, hn, he, hbit, hg, hst⟩
  · right
    rw [if_pos (by omega)]
    refine wp_some ⟨?_, hE⟩
    have e36 : itS c 36 S = T := by
      have : 36 = t + (36 - t) := by omega
      rw [this, ← itS_add, ← hT, itS_fix hq]
    rw [e36]
    exact hPT
  · left
    have hVT2 := PV_step hI hVT
    rw [hst] at hVT2
    have htot2 : tot (askS c T k e) = tot T + 1 := tot_ask (by omega) (by omega) hbit
    have htle2 := tot_le hVT2
    have hT2 : askS c T k e = itS c (t + 1) S := by
      show _ = stepS c (itS c t S)
      rw [← hT, hst]
    have hkk := Ic_k hI hk
    have hke := Ic_k hI he
    obtain ⟨v1, v2, v3⟩ := hVT k (by omega)
    obtain ⟨w1, w2, w3⟩ := hVT e (by omega)
    have m12 : N 12 e = T.2.1 e := (hPT e (by omega)).2.1
    have m13 : N 13 k = ((T.2.2 k : Nat) : Int) := (hPT k (by omega)).2.2
    have hor : o_or ((T.2.2 k : Nat) : Int) (o_shl 1 (e : Int)) = ((T.2.2 k ||| 2 ^ e : Nat) : Int) := by
      rw [o_shl_one' (by omega), o_or_nat (by omega) (by have := lt_pow1024 (w := e) (by omega); omega)]
    rw [ha, hq, if_neg (by omega), m_nextAsked hI hN5 hLN hVT hPT hk, bind_s, hn]
    dsimp only
    rw [if_pos (by omega), if_pos (by omega)]
    simp only [tnc, zlet_eq, m12, m13, hor]
    generalize hN1 : am_upd N 13 k ((T.2.2 k ||| 2 ^ e : Nat) : Int) = N1
    have hN15 : N1 5 = c := by rw [← hN1, am_upd_cell (by decide)]; exact hN5
    have hLN1 : Lf c N1 := fun p q hp hq => by rw [← hN1, am_upd_cell (by decide)]; exact hLN p q hp hq
    have hE1 : Eo [11, 12, 13] P N1 := by rw [← hN1]; exact Eo_upd _ _ (by simp) hE
    have r11 : ∀ j, j < 6 → N1 11 j = T.1 j := fun j hj => by rw [← hN1, am_upd_cell (by decide)]; exact (hPT j hj).1
    have r12 : ∀ j, j < 6 → N1 12 j = T.2.1 j := fun j hj => by rw [← hN1, am_upd_cell (by decide)]; exact (hPT j hj).2.1
    have r13 : ∀ j, j < 6 → N1 13 j = ((fset T.2.2 k (T.2.2 k ||| 2 ^ e) j : Nat) : Int) := by
      intro j hj
      rw [← hN1, am_upd_eq]
      unfold fset
      by_cases e2 : j = k
      · rw [if_pos ⟨rfl, e2⟩, if_pos e2]
      · rw [if_neg (fun h => e2 h.2), if_neg e2]; exact (hPT j hj).2.2
    -- the loop goes on with whom asks next
    have hgo : ∀ N2, PRm (askS c T k e) N2 → N2 5 = c → Lf c N2 → Eo [11, 12, 13] P N2 → ∃ j2, ∃ s2 : Int × AM, j2 < j ∧ (∃ (T : PS) (t : Nat), T = itS c t S ∧ t + j2 = 36 - tot S + 0 ∧ tot T = tot S + t ∧ PV c T ∧ PRm T s2.2 ∧ s2.1 = askF c T ∧ Eo [11, 12, 13] P s2.2) ∧ f_X11_laysPairs_149 (f_X11_laysPairs_44 n) N2 = f_X11_laysPairs_44 n s2.1 s2.2 := by
      intro N2 hP2 h52 hL2 hE2
      refine ⟨j - 1, (askF c (askS c T k e), N2), by omega, ⟨askS c T k e, t + 1, hT2, by omega, by omega, hVT2, hP2, rfl, hE2⟩, ?_⟩
      unfold f_X11_laysPairs_149
      rw [m_asker hI h52 hL2 hVT2 hP2, bind_s]
    have h22 := ask_22 c T k e
    by_cases g1 : T.2.1 e < 0
    · have hS : askS c T k e = (fset T.1 k (e : Int), fset T.2.1 e (k : Int), fset T.2.2 k (T.2.2 k ||| 2 ^ e)) := by unfold askS; rw [if_pos g1]
      rw [if_pos g1]
      unfold f_X11_laysPairs_124
      rw [if_pos g1, if_pos (by omega), zlet_eq, if_pos (by omega), zlet_eq, tnc, tnc]
      refine hgo _ ?_ ?_ (fun p q hp hq => ?_) (Eo_upd _ _ (by simp) (Eo_upd _ _ (by simp) hE1))
      · rw [hS]
        intro j hj
        refine ⟨?_, ?_, ?_⟩
        · exact am_fset (fun i hi => by rw [am_upd_cell (by decide)]; exact r11 i hi) j hj
        · rw [am_upd_cell (by decide)]
          exact am_fset r12 j hj
        · rw [am_upd_cell (by decide), am_upd_cell (by decide)]
          exact r13 j hj
      · rw [am_upd_cell (by decide), am_upd_cell (by decide)]; exact hN15
      · rw [am_upd_cell (by decide), am_upd_cell (by decide)]; exact hLN1 p q hp hq
    · obtain ⟨wn, hwn⟩ : ∃ wn : Nat, T.2.1 e = (wn : Int) := ⟨(T.2.1 e).toNat, by omega⟩
      have hw2 : (wn : Int) < c 2 := by omega
      have hkw := Ic_k hI hw2
      rw [if_neg g1, hwn]
      simp (disch := omega) only [o_add_eq (x := 47), o_add_eq (x := 53), tp47, tp53]
      rw [if_pos (by omega), if_pos (by omega), hN15, m_farOf hLN1 (by omega) (by omega), bind_s]
      dsimp only
      rw [if_pos (by omega), hN15, m_farOf hLN1 (by omega) (by omega), bind_s]
      dsimp only
      have eK1 : FD c (c (47 + wn)) (c (53 + e)) = FK c wn e := rfl
      have eK2 : FD c (c (47 + k)) (c (53 + e)) = FK c k e := rfl
      rw [eK1, eK2]
      by_cases g2 : FK c wn e ≤ FK c k e
      · have hS : askS c T k e = (T.1, T.2.1, fset T.2.2 k (T.2.2 k ||| 2 ^ e)) := by
          unfold askS
          rw [if_neg g1, hwn, tnc, if_neg (by omega)]
        rw [if_pos g2]
        refine hgo _ ?_ hN15 hLN1 hE1
        rw [hS]
        exact fun j hj => ⟨r11 j hj, r12 j hj, r13 j hj⟩
      · have hS : askS c T k e = (fset (fset T.1 wn (-1)) k (e : Int), fset T.2.1 e (k : Int), fset T.2.2 k (T.2.2 k ||| 2 ^ e)) := by
          unfold askS
          rw [if_neg g1, hwn, tnc, if_pos (by omega)]
        rw [if_neg g2]
        unfold f_X11_laysPairs_124
        rw [if_neg (by omega), if_pos (by omega), zlet_eq, if_pos (by omega), zlet_eq, if_pos (by omega), zlet_eq, tnc, tnc, tnc]
        refine hgo _ ?_ ?_ (fun p q hp hq => ?_) (Eo_upd _ _ (by simp) (Eo_upd _ _ (by simp) (Eo_upd _ _ (by simp) hE1)))
        · rw [hS]
          intro j hj
          refine ⟨?_, ?_, ?_⟩
          · refine am_fset (fun i hi => ?_) j hj
            rw [am_upd_cell (by decide)]
            exact am_fset r11 i hi
          · rw [am_upd_cell (by decide)]
            exact am_fset (fun i hi => by rw [am_upd_cell (by decide)]; exact r12 i hi) j hj
          · rw [am_upd_cell (by decide), am_upd_cell (by decide), am_upd_cell (by decide)]
            exact r13 j hj
        · rw [am_upd_cell (by decide), am_upd_cell (by decide), am_upd_cell (by decide)]; exact hN15
        · rw [am_upd_cell (by decide), am_upd_cell (by decide), am_upd_cell (by decide)]; exact hLN1 p q hp hq
theorem m_laysPairs {M : AM} (hI : Ic (M 5)) : ∃ N, f_X11_laysPairs M = some N ∧ PRm (itS (M 5) 36 S0) N ∧ Eo [9, 11, 12, 13] M N := by
  unfold f_X11_laysPairs
  rw [m_laysFar hI, bind_s]
  have hw : Wp (f_X11_laysPairs_6 zB 0 (LF M)) (fun N => PRm (itS (M 5) 36 S0) N ∧ Eo [9, 11, 12, 13] M N) := by
    refine up_loopP0 (fun n i (s : AM) => f_X11_laysPairs_6 n (i : Int) s) (fun i s => (∀ k, k < i → s 11 k = -1 ∧ s 12 k = -1 ∧ s 13 k = 0) ∧ Eo [11, 12, 13] (LF M) s) _ 6 (LF M) ⟨fun k h => by omega, Eo_refl _ _⟩ ?_ ?_ (by omega)
    · rintro n i N hi ⟨h1, hE⟩
      left
      show ∃ s2 : AM, _ ∧ f_X11_laysPairs_6 (n + 1) (i : Int) N = _
      simp only [f_X11_laysPairs_6, tnc]
      rw [if_neg (by omega), if_pos (by omega), zlet_eq, zlet_eq, zlet_eq, o_succ (by omega)]
      refine ⟨_, ⟨fun k hk => ?_, Eo_upd _ _ (by simp) (Eo_upd _ _ (by simp) (Eo_upd _ _ (by simp) hE))⟩, rfl⟩
      by_cases e : k = i
      · subst e
        refine ⟨?_, ?_, am_upd_self _ _ _ _⟩
        · rw [am_upd_cell (by decide), am_upd_cell (by decide)]; exact am_upd_self _ _ _ _
        · rw [am_upd_cell (by decide)]; exact am_upd_self _ _ _ _
      · have := h1 k (by omega)
        refine ⟨?_, ?_, ?_⟩
        · rw [am_upd_cell (by decide), am_upd_cell (by decide), am_upd_ne (fun h => e h.2)]; exact this.1
        · rw [am_upd_cell (by decide), am_upd_ne (fun h => e h.2), am_upd_cell (by decide)]; exact this.2.1
        · rw [am_upd_ne (fun h => e h.2), am_upd_cell (by decide), am_upd_cell (by decide)]; exact this.2.2
    · rintro n N ⟨h1, hE⟩
      show Wp (f_X11_laysPairs_6 (n + 1) ((6 : Nat) : Int) N) _
      simp only [f_X11_laysPairs_6]
      have hN5 : N 5 = M 5 := by rw [hE 5 (by simp), LF5]
      have hLN : Lf (M 5) N := fun p q hp hq => by rw [hE 9 (by simp)]; exact Lf_LF M p q hp hq
      have hP0 : PRm S0 N := fun k hk => h1 k hk
      rw [if_pos (by omega), m_asker hI hN5 hLN (PV_0 _) hP0, bind_s]
      refine wp_mono (m_pairs44 hI hN5 hLN (PV_0 _) hP0) (fun N2 h => ⟨h.1, ?_⟩)
      exact Eo_trans (Eo_sub (LF_Eo M) (by simp)) (Eo_trans (Eo_sub hE (by simp)) (Eo_sub h.2 (by simp)))
  exact hw
/-! the class -/
def PRx (S : PS) (M : AM) : Prop := ∀ k, k < 6 → M 66 k = S.1 k ∧ M 67 k = S.2.1 k ∧ M 68 k = ((S.2.2 k : Nat) : Int)
theorem PRx_Hm {c : Nat → Int} {S : PS} {M N : AM} (h : Hm c 23 M N) (hP : PRx S M) : PRx S N := fun k hk => by rw [h.2 66 (by decide) (by decide), h.2 67 (by decide) (by decide), h.2 68 (by decide) (by decide)]; exact hP k hk
def lstF (c : Nat → Int) (k : Nat) (b : Int) : Int := if b < 0 then c 3 + 1 else FK c k b.toNat
theorem lst_neg {c : Nat → Int} {k : Nat} {b : Int} (h : b < 0) : lstF c k b = c 3 + 1 := if_pos h
theorem lst_nn {c : Nat → Int} {k : Nat} {b : Int} (h : ¬ b < 0) : lstF c k b = FK c k b.toNat := if_neg h
theorem lst_nat (c : Nat → Int) (k i : Nat) : FK c k i = lstF c k (i : Int) := by rw [lst_nn (by omega), tnc]
theorem x_nextToAsk {c : Nat → Int} {M : AM} (hI : Ic c) (hR : Rh c 23 M) {S : PS} (hV : PV c S) (hP : PRx S M) {k : Nat} (hk : (k : Int) < c 2) : Wp (f_X4_nextToAsk (k : Int) M) (fun r => r.1 = nextF c (S.2.2 k) k ∧ Hm c 23 M r.2) := by
  have h2 := hI.2.2.1
  have h3 := hI.2.2.2.1
  have hk2 := Ic_k hI hk
  have hA := (hV k (by omega)).2.2
  unfold f_X4_nextToAsk
  have e0 : M 23 0 = c 3 := hR.1.1
  rw [e0, o_add_eq (by omega) (by omega)]
  refine up_loopP0 (fun n i (s : (Int × Int) × AM) => f_X4_nextToAsk_13 n (k : Int) s.1.1 s.1.2 (i : Int) s.2) (fun i s => s.1.1 = rg i (stepN c (S.2.2 k) k) (-1) ∧ s.1.2 = lstF c k (rg i (stepN c (S.2.2 k) k) (-1)) ∧ Hm c 23 M s.2) _ (c 2).toNat ((-1, c 3 + 1), M) ⟨rfl, rfl, Hm_refl hR⟩ ?_ ?_ (by omega)
  · rintro n i ⟨⟨b, l⟩, N⟩ hi ⟨hb, hl, hN⟩
    replace hb : b = rg i (stepN c (S.2.2 k) k) (-1) := hb
    replace hl : l = _ := hl
    replace hN : Hm c 23 M N := hN
    have hinv := next_inv c (S.2.2 k) k i
    have hi2 := Ic_k hI (k := i) (by omega)
    have hgN := (Rh_iff.mp hN.1).1
    have e4 : N 23 4 = c 2 := hgN.1.2.2.2.2.1
    have e27 : N 27 k = c (47 + k) := (hgN.2.2.1 k hk).1
    have e28 : N 28 i = c (53 + i) := (hgN.2.2.1 i (by omega)).2.1
    left
    show ∃ s2 : (Int × Int) × AM, _ ∧ f_X4_nextToAsk_13 (n + 1) (k : Int) b l (i : Int) N = _
    simp only [f_X4_nextToAsk_13, tnc, e27, e28]
    obtain ⟨N2, e, hN2⟩ := x_distance hI hN.1 (x := c (47 + k)) (y := c (53 + i)) hk2.1 hi2.2.1
    have e68 : N2 68 k = ((S.2.2 k : Nat) : Int) := (PRx_Hm hN2 (PRx_Hm hN hP) k (by omega)).2.2
    have eK : FD c (c (47 + k)) (c (53 + i)) = FK c k i := rfl
    rw [if_neg (by omega), if_pos (by omega), if_pos (by omega), e, bind_s, o_succ (by omega)]
    dsimp only
    simp only [e68, eK]
    rw [o_bit (by omega) (by omega)]
    rw [rg_succ, ← hb]
    rw [← hb] at hl hinv
    unfold stepN
    cases ht : (S.2.2 k).testBit i
    · simp only [Bool.false_eq_true, if_false, not_true_eq_false, false_or]
      by_cases g : FK c k i ≤ c 3
      · simp only [g, not_true_eq_false, if_false]
        by_cases g2 : b < 0
        · rw [lst_neg g2] at hl
          rw [if_pos g2, if_neg (by omega)]
          exact ⟨(((i : Int), FK c k i), N2), ⟨rfl, lst_nat c k i, Hm_trans hN hN2⟩, rfl⟩
        · rw [lst_nn g2] at hl
          rw [if_neg g2]
          by_cases g3 : FK c k i < FK c k b.toNat
          · rw [if_pos g3, if_neg (by omega)]
            exact ⟨(((i : Int), FK c k i), N2), ⟨rfl, lst_nat c k i, Hm_trans hN hN2⟩, rfl⟩
          · rw [if_neg g3, if_pos (by omega)]
            exact ⟨((b, l), N2), ⟨rfl, by rw [lst_nn g2]; exact hl, Hm_trans hN hN2⟩, rfl⟩
      · simp only [g, not_false_eq_true, if_true]
        have hle : l ≤ FK c k i := by
          by_cases g2 : b < 0
          · rw [lst_neg g2] at hl; omega
          · rw [lst_nn g2] at hl
            rcases hinv with h | h
            · omega
            · omega
        rw [if_pos hle]
        exact ⟨((b, l), N2), ⟨rfl, hl, Hm_trans hN hN2⟩, rfl⟩
    · simp only [if_true, i10, not_false_eq_true, true_or]
      exact ⟨((b, l), N2), ⟨rfl, hl, Hm_trans hN hN2⟩, rfl⟩
  · rintro n ⟨⟨b, l⟩, N⟩ ⟨hb, hl, hN⟩
    replace hN : Hm c 23 M N := hN
    have e4 : N 23 4 = c 2 := hN.1.1.2.2.2.2.1
    show Wp (f_X4_nextToAsk_13 (n + 1) (k : Int) b l (((c 2).toNat : Nat) : Int) N) _
    simp only [f_X4_nextToAsk_13]
    rw [if_pos (by omega)]
    exact wp_some ⟨hb, hN⟩
/-- frames of the class's PAIRS -/
def PX (M N : AM) : Prop := ∀ a, a ≠ 23 → a ≠ 33 → a ≠ 66 → a ≠ 67 → a ≠ 68 → N a = M a
theorem PX_Hm {c : Nat → Int} {M N : AM} (h : Hm c 23 M N) : PX M N := fun a a1 a2 _ _ _ => h.2 a a1 a2
theorem PX_trans {M N P : AM} (h1 : PX M N) (h2 : PX N P) : PX M P := fun a a1 a2 a3 a4 a5 => (h2 a a1 a2 a3 a4 a5).trans (h1 a a1 a2 a3 a4 a5)
theorem PX_upd {M N : AM} {q : Nat} (j : Nat) (x : Int) (hq : q = 66 ∨ q = 67 ∨ q = 68) (h : PX M N) : PX M (am_upd N q j x) := fun a a1 a2 a3 a4 a5 => by
  rw [am_upd_cell (by omega)]; exact h a a1 a2 a3 a4 a5
theorem Rh_upd {c : Nat → Int} {N : AM} {q : Nat} (j : Nat) (x : Int) (hq : q = 66 ∨ q = 67 ∨ q = 68) (h : Rh c 23 N) : Rh c 23 (am_upd N q j x) := Rh_cong (fun i hi => am_upd_cell (by omega)) h
theorem x_propose {c : Nat → Int} {M : AM} (hI : Ic c) (hR : Rh c 23 M) {S : PS} (hV : PV c S) {k e : Nat} (hk : (k : Int) < c 2) (he : (e : Int) < c 2)
    (r66 : ∀ j, j < 6 → M 66 j = S.1 j) (r67 : ∀ j, j < 6 → M 67 j = S.2.1 j) (r68 : ∀ j, j < 6 → M 68 j = ((fset S.2.2 k (S.2.2 k ||| 2 ^ e) j : Nat) : Int)) :
    Wp (f_X4_propose (k : Int) (e : Int) M) (fun N => Rh c 23 N ∧ PRx (askS c S k e) N ∧ PX M N) := by
  have h2 := hI.2.2.1
  have hkk := Ic_k hI hk
  have hke := Ic_k hI he
  have hg := (Rh_iff.mp hR).1
  have hVe := (hV e (by omega)).2.1
  have m67 : M 67 e = S.2.1 e := r67 e (by omega)
  have e27 : M 27 k = c (47 + k) := (hg.2.2.1 k hk).1
  have e28 : M 28 e = c (53 + e) := (hg.2.2.1 e he).2.1
  unfold f_X4_propose
  simp only [tnc, m67]
  refine wp_pos (by omega) ?_
  by_cases g1 : S.2.1 e < 0
  · have hS : askS c S k e = (fset S.1 k (e : Int), fset S.2.1 e (k : Int), fset S.2.2 k (S.2.2 k ||| 2 ^ e)) := by unfold askS; rw [if_pos g1]
    rw [if_pos (by omega), zlet_eq, if_pos (by omega), zlet_eq]
    refine wp_some ⟨Rh_upd _ _ (by omega) (Rh_upd _ _ (by omega) hR), ?_, PX_upd _ _ (by omega) (PX_upd _ _ (by omega) (fun _ _ _ _ _ _ => rfl))⟩
    rw [hS]
    intro j hj
    refine ⟨?_, ?_, ?_⟩
    · exact am_fset (fun i hi => by rw [am_upd_cell (by decide)]; exact r66 i hi) j hj
    · rw [am_upd_cell (by decide)]; exact am_fset r67 j hj
    · rw [am_upd_cell (by decide), am_upd_cell (by decide)]; exact r68 j hj
  · obtain ⟨wn, hwn⟩ : ∃ wn : Nat, S.2.1 e = (wn : Int) := ⟨(S.2.1 e).toNat, by omega⟩
    have hw2 : (wn : Int) < c 2 := by omega
    have hkw := Ic_k hI hw2
    obtain ⟨N1, e1, hN1⟩ := x_distance hI hR (x := c (47 + k)) (y := c (53 + e)) hkk.1 hke.2.1
    have hg1 := (Rh_iff.mp hN1.1).1
    have f27 : N1 27 wn = c (47 + wn) := (hg1.2.2.1 wn hw2).1
    have f28 : N1 28 e = c (53 + e) := (hg1.2.2.1 e he).2.1
    obtain ⟨N2, e2, hN2⟩ := x_distance hI hN1.1 (x := c (47 + wn)) (y := c (53 + e)) hkw.1 hke.2.1
    have hN12 := Hm_trans hN1 hN2
    have t66 : ∀ j, j < 6 → N2 66 j = S.1 j := fun j hj => by rw [hN12.2 66 (by decide) (by decide)]; exact r66 j hj
    have t67 : ∀ j, j < 6 → N2 67 j = S.2.1 j := fun j hj => by rw [hN12.2 67 (by decide) (by decide)]; exact r67 j hj
    have t68 : ∀ j, j < 6 → N2 68 j = ((fset S.2.2 k (S.2.2 k ||| 2 ^ e) j : Nat) : Int) := fun j hj => by rw [hN12.2 68 (by decide) (by decide)]; exact r68 j hj
    rw [if_neg (by omega), if_pos (by omega), e27, e28, e1, bind_s]
    dsimp only
    rw [hwn, if_pos (by omega), tnc, f27, f28, e2, bind_s]
    dsimp only
    have eK1 : FD c (c (47 + wn)) (c (53 + e)) = FK c wn e := rfl
    have eK2 : FD c (c (47 + k)) (c (53 + e)) = FK c k e := rfl
    rw [eK1, eK2]
    by_cases g2 : FK c k e < FK c wn e
    · have hS : askS c S k e = (fset (fset S.1 wn (-1)) k (e : Int), fset S.2.1 e (k : Int), fset S.2.2 k (S.2.2 k ||| 2 ^ e)) := by
        unfold askS
        rw [if_neg g1, hwn, tnc, if_pos g2]
      rw [if_pos g2, zlet_eq, zlet_eq, zlet_eq]
      refine wp_some ⟨Rh_upd _ _ (by omega) (Rh_upd _ _ (by omega) (Rh_upd _ _ (by omega) hN2.1)), ?_, PX_upd _ _ (by omega) (PX_upd _ _ (by omega) (PX_upd _ _ (by omega) (PX_Hm hN12)))⟩
      rw [hS]
      intro j hj
      refine ⟨?_, ?_, ?_⟩
      · refine am_fset (fun i hi => ?_) j hj
        rw [am_upd_cell (by decide)]
        exact am_fset t66 i hi
      · rw [am_upd_cell (by decide)]
        exact am_fset (fun i hi => by rw [am_upd_cell (by decide)]; exact t67 i hi) j hj
      · rw [am_upd_cell (by decide), am_upd_cell (by decide), am_upd_cell (by decide)]
        exact t68 j hj
    · have hS : askS c S k e = (S.1, S.2.1, fset S.2.2 k (S.2.2 k ||| 2 ^ e)) := by
        unfold askS
        rw [if_neg g1, hwn, tnc, if_neg g2]
      rw [if_neg g2]
      refine wp_some ⟨hN2.1, ?_, PX_Hm hN12⟩
      rw [hS]
      exact fun j hj => ⟨t66 j hj, t67 j hj, t68 j hj⟩
theorem x_askOnce {c : Nat → Int} {M : AM} (hI : Ic c) (hR : Rh c 23 M) {S : PS} (hV : PV c S) (hP : PRx S M) : Wp (f_X4_askOnce M) (fun N => Rh c 23 N ∧ PRx (stepS c S) N ∧ PX M N) := by
  have h2 := hI.2.2.1
  unfold f_X4_askOnce
  refine up_loopP0 (fun n i (s : AM) => f_X4_askOnce_2 n (i : Int) s) (fun i s => rg i (stepK c S) (-1) = -1 ∧ Hm c 23 M s) _ (c 2).toNat M ⟨rfl, Hm_refl hR⟩ ?_ ?_ (by omega)
  · rintro n i N hi ⟨hinv, hN⟩
    have hPN := PRx_Hm hN hP
    have hgN := (Rh_iff.mp hN.1).1
    have e4 : N 23 4 = c 2 := hgN.1.2.2.2.2.1
    have m66 : N 66 i = S.1 i := (hPN i (by omega)).1
    have hVi := (hV i (by omega))
    have hst : rg (i + 1) (stepK c S) (-1) = if S.1 i < 0 ∧ 0 ≤ nextF c (S.2.2 i) i then (i : Int) else -1 := by
      rw [rg_succ, hinv]
      unfold stepK
      rw [if_neg (by omega)]
    show (∃ s2 : AM, _ ∧ f_X4_askOnce_2 (n + 1) (i : Int) N = _) ∨ Wp (f_X4_askOnce_2 (n + 1) (i : Int) N) _
    simp only [f_X4_askOnce_2, tnc, m66]
    rw [if_neg (by omega), if_pos (by omega)]
    unfold f_X4_askOnce_30
    by_cases g : S.1 i = -1
    · rw [if_neg (fun h => h g)]
      obtain ⟨⟨v, N2⟩, e, hv, hN2⟩ := x_nextToAsk hI hN.1 hV hPN (k := i) (by omega)
      replace hv : v = _ := hv
      replace hN2 : Hm c 23 N N2 := hN2
      rw [e, bind_s]
      dsimp only
      rw [hv]
      rcases nextF_r hI (S.2.2 i) i with hn | ⟨x, hn, hx2, hx3⟩
      · left
        rw [if_pos hn, o_succ (by omega)]
        exact ⟨N2, ⟨by rw [hst, if_neg (by omega)], Hm_trans hN hN2⟩, rfl⟩
      · right
        have hPN2 := PRx_Hm hN2 hPN
        have e1 : rg (i + 1) (stepK c S) (-1) = (i : Int) := by rw [hst, if_pos ⟨by omega, by omega⟩]
        have e2 : askF c S = (i : Int) := by
          unfold askF
          rw [ask_stay c S (i := i + 1) (by rw [e1]; omega) _ (by omega), e1]
        have hS : stepS c S = askS c S i x := by
          unfold stepS
          rw [if_neg (by omega), e2, tnc, hn, tnc]
        have m68 : N2 68 i = ((S.2.2 i : Nat) : Int) := (hPN2 i (by omega)).2.2
        have hor : o_or ((S.2.2 i : Nat) : Int) (o_shl 1 (x : Int)) = ((S.2.2 i ||| 2 ^ x : Nat) : Int) := by
          rw [o_shl_one' (by omega), o_or_nat (by omega) (by have := lt_pow1024 (w := x) (by omega); omega)]
        rw [hn, if_neg (by omega), if_pos (by omega), zlet_eq, tnc, m68, hor]
        refine wp_bind (x_propose hI (Rh_upd _ _ (by omega) hN2.1) hV (k := i) (e := x) (by omega) hx2 (fun j hj => ?_) (fun j hj => ?_) (fun j hj => ?_)) (fun N3 h3 => ?_)
        · rw [am_upd_cell (by decide)]; exact (hPN2 j hj).1
        · rw [am_upd_cell (by decide)]; exact (hPN2 j hj).2.1
        · rw [am_upd_eq]
          unfold fset
          by_cases e3 : j = i
          · rw [if_pos ⟨rfl, e3⟩, if_pos e3]
          · rw [if_neg (fun h => e3 h.2), if_neg e3]; exact (hPN2 j hj).2.2
        · rw [hS]
          exact wp_some ⟨h3.1, h3.2.1, PX_trans (PX_upd _ _ (by omega) (PX_Hm (Hm_trans hN hN2))) h3.2.2⟩
    · left
      rw [if_pos g, if_pos rfl, o_succ (by omega)]
      exact ⟨N, ⟨by rw [hst, if_neg (by omega)], hN⟩, rfl⟩
  · rintro n N ⟨hinv, hN⟩
    have e4 : N 23 4 = c 2 := hN.1.1.2.2.2.2.1
    show Wp (f_X4_askOnce_2 (n + 1) (((c 2).toNat : Nat) : Int) N) _
    simp only [f_X4_askOnce_2]
    rw [if_pos (by omega)]
    have hS : stepS c S = S := by
      unfold stepS
      rw [if_pos (by rw [show askF c S = -1 from hinv]; omega)]
    rw [hS]
    exact wp_some ⟨hN.1, PRx_Hm hN hP, PX_Hm hN⟩
theorem x_findAll {c : Nat → Int} {M : AM} (hI : Ic c) (hR : Rh c 23 M) : ∃ N, f_X4_findAll M = some N ∧ Rh c 23 N ∧ PRx (itS c 36 S0) N ∧ PX M N := by
  unfold f_X4_findAll
  rw [J7_fill _ _ (by omega), bind_s, J7_fill _ _ (by omega), bind_s, J7_fill _ _ (by omega), bind_s]
  generalize hM1 : am_row (am_row (am_row M 66 (fun j => if j < 6 then -1 else M 66 j)) 67 (fun j => if j < 6 then -1 else am_row M 66 (fun j => if j < 6 then -1 else M 66 j) 67 j)) 68 (fun j => if j < 6 then 0 else am_row (am_row M 66 (fun j => if j < 6 then -1 else M 66 j)) 67 (fun j => if j < 6 then -1 else am_row M 66 (fun j => if j < 6 then -1 else M 66 j) 67 j) 68 j) = M1
  have hX1 : PX M M1 := fun a a1 a2 a3 a4 a5 => by rw [← hM1, am_row_ne a5, am_row_ne a4, am_row_ne a3]
  have hR1 : Rh c 23 M1 := by rw [← hM1]; exact Rh_cong (fun i hi => by rw [am_row_ne (by omega), am_row_ne (by omega), am_row_ne (by omega)]) hR
  have hP1 : PRx S0 M1 := by
    intro k hk
    rw [← hM1]
    refine ⟨?_, ?_, ?_⟩
    · rw [am_row_ne (by decide), am_row_ne (by decide), am_row_self, if_pos hk]; rfl
    · rw [am_row_ne (by decide), am_row_self, if_pos hk]; rfl
    · rw [am_row_self, if_pos hk]; rfl
  have hw : Wp (f_X4_findAll_26 zB 0 M1) (fun N => Rh c 23 N ∧ PRx (itS c 36 S0) N ∧ PX M N) := by
    refine up_loopP0 (fun n i (s : AM) => f_X4_findAll_26 n (i : Int) s) (fun i s => Rh c 23 s ∧ PV c (itS c i S0) ∧ PRx (itS c i S0) s ∧ PX M s) _ 36 M1 ⟨hR1, PV_0 c, hP1, hX1⟩ ?_ ?_ (by omega)
    · rintro n i N hi ⟨h1, h2, h3, h4⟩
      left
      show ∃ s2 : AM, _ ∧ f_X4_findAll_26 (n + 1) (i : Int) N = _
      simp only [f_X4_findAll_26]
      obtain ⟨N2, e, g1, g2, g3⟩ := x_askOnce hI h1 h2 h3
      rw [if_neg (by omega), e, bind_s, o_succ (by omega)]
      exact ⟨N2, ⟨g1, PV_step hI h2, g2, PX_trans h4 g3⟩, rfl⟩
    · rintro n N ⟨h1, h2, h3, h4⟩
      show Wp (f_X4_findAll_26 (n + 1) ((36 : Nat) : Int) N) _
      simp only [f_X4_findAll_26]
      rw [if_pos (by omega)]
      exact wp_some ⟨h1, h3, h4⟩
  exact hw
theorem PV_it {c : Nat → Int} (hI : Ic c) : ∀ n, PV c (itS c n S0)
  | 0 => PV_0 c
  | n + 1 => PV_step hI (PV_it hI n)
theorem Qx_PX {M N : AM} (h : PX M N) : Qx M N :=
  ⟨fun a ha => h a (by rintro rfl; exact ha (by unfold xcell; omega)) (by rintro rfl; exact ha (by unfold xcell; omega)) (by rintro rfl; exact ha (by unfold xcell; omega)) (by rintro rfl; exact ha (by unfold xcell; omega)) (by rintro rfl; exact ha (by unfold xcell; omega)), fun j _ => by rw [h 15 (by decide) (by decide) (by decide) (by decide) (by decide)]⟩
theorem Qm_pairs {M N : AM} (h : Eo [9, 11, 12, 13] M N) : Qm M N := Qm_Eo h (by intro a ha; simp at ha; unfold mcell; omega)
theorem a_pair (a1 : Int) : Alike (f_X10_pair a1) (f_X11_pair a1) := by
  refine alike_q (fun c => if 0 ≤ a1 ∧ a1 < c 2 then (itS c 36 S0).1 a1.toNat else -1) (fun c => if 0 ≤ a1 ∧ a1 < c 2 then (if (itS c 36 S0).1 a1.toNat = -1 then 8 else 0) else 2) ?_ ?_
  · intro c M hI h9 hR
    have h2 := hI.2.2.1
    have hg := (Rh_iff.mp hR).1
    unfold f_X10_pair
    by_cases g1 : 0 ≤ a1 ∧ a1 < c 2
    · obtain ⟨k, rfl⟩ : ∃ w : Nat, a1 = (w : Int) := ⟨a1.toNat, by omega⟩
      rw [xcoup_t hg g1, bind_s]
      simp only [if_pos g1, i10, not_false_eq_true, if_true, tnc]
      obtain ⟨N, e, hN, hP, hX⟩ := x_findAll hI hR
      have e66 := (hP k (by omega)).1
      rw [e, bind_s, if_pos (by omega), e66]
      by_cases g : (itS c 36 S0).1 k = -1
      · rw [if_neg (fun h => h g), if_pos g, x_fail, bind_s, g]
        exact x_end (Qx_PX hX) hN
      · rw [if_pos g, if_neg g, x_answer, bind_s]
        exact x_end (Qx_PX hX) hN
    · rw [xcoup_f hg g1, bind_s]
      simp only [if_neg g1, i00, not_true_eq_false, if_false, x_fail, bind_s]
      exact x_end (Qx_refl M) hR
  · intro P hI h9
    obtain ⟨M2, hM2, e5, q2, s2, hc, hf⟩ := MS_ok P
    rw [← e5] at hI
    have h2 := hI.2.2.1
    unfold f_X11_pair
    rw [zlet_eq, zlet_eq, hM2, ← e5]
    by_cases g1 : 0 ≤ a1 ∧ a1 < M2 5 2
    · obtain ⟨k, rfl⟩ : ∃ w : Nat, a1 = (w : Int) := ⟨a1.toNat, by omega⟩
      rw [mcoup_t hI g1, bind_s]
      simp only [if_pos g1, i10, not_false_eq_true, if_true, tnc]
      obtain ⟨N, e, hP, hE⟩ := m_laysPairs hI
      have e11 := (hP k (by omega)).1
      have hv := (PV_it hI 36 k (by omega)).1
      have hN0 : N 0 = M2 0 := hE 0 (by simp)
      have hN5 : N 5 = M2 5 := hE 5 (by simp)
      rw [e, bind_s, if_pos (by omega), e11]
      by_cases g : (itS (M2 5) 36 S0).1 k = -1
      · rw [if_neg (by omega), if_pos g, m_refuse, bind_s, g]
        exact m_end (Qm_trans q2 (Qm_pairs hE)) hN5
      · rw [if_pos (by omega), if_neg g]
        exact m_fin (Qm_trans q2 (Qm_pairs hE)) hN5 (by rw [hN0]; exact s2)
    · rw [mcoup_f hI g1, bind_s]
      simp only [if_neg g1, i00, not_true_eq_false, if_false, m_refuse, bind_s]
      exact m_end q2 rfl
def swB (c : Nat → Int) (k : Nat) : Bool := decide (¬ (itS c 36 S0).1 k = -1 ∧ ¬ (itS c 36 S0).1 k = (k : Int))
theorem a_swapped : Alike f_X10_swapped f_X11_swapped := by
  refine alike_q (fun c => ((cntB (swB c) (c 2).toNat : Nat) : Int)) (fun c => 0) ?_ ?_
  · intro c M hI h9 hR
    have h2 := hI.2.2.1
    unfold f_X10_swapped
    obtain ⟨N, e, hN, hP, hX⟩ := x_findAll hI hR
    have e4 : N 23 4 = c 2 := hN.1.2.2.2.2.1
    rw [e, bind_s]
    have e2 : f_X10_swapped_15 zB 0 0 N = some (((cntB (swB c) (c 2).toNat : Nat) : Int), am_upd N 15 0 0) := by
      refine up_loop0 (fun n i (s : Int) => f_X10_swapped_15 n s (i : Int) N) (fun i => ((cntB (swB c) i : Nat) : Int)) (c 2).toNat _ 0 rfl ?_ ?_ (by omega)
      · intro n i hi
        have hle := cntB_le (swB c) i
        have e66 := (hP i (by omega)).1
        simp only [f_X10_swapped_15, tnc, e66]
        rw [if_neg (by omega), if_pos (by omega), o_succ (by omega)]
        by_cases g1 : (itS c 36 S0).1 i = -1
        · rw [if_pos g1]
          simp [cntB, swB, g1]
        · rw [if_neg g1]
          by_cases g2 : (itS c 36 S0).1 i = (i : Int)
          · rw [if_pos g2]
            simp [cntB, swB, g2]
          · rw [if_neg g2, o_add_eq (by omega) (by omega)]
            congr 1
            simp [cntB, swB, g1, g2]
      · intro n
        simp only [f_X10_swapped_15]
        rw [if_pos (by omega), x_answer, bind_s]
    rw [e2]
    exact x_end (Qx_PX hX) hN
  · intro P hI h9
    obtain ⟨M2, hM2, e5, q2, s2, hc, hf⟩ := MS_ok P
    rw [← e5] at hI
    have h2 := hI.2.2.1
    unfold f_X11_swapped
    rw [zlet_eq, zlet_eq, hM2, ← e5]
    obtain ⟨N, e, hP, hE⟩ := m_laysPairs hI
    have hN0 : N 0 = M2 0 := hE 0 (by simp)
    have hN5 : N 5 = M2 5 := hE 5 (by simp)
    rw [e, bind_s]
    have e2 : f_X11_swapped_18 zB 0 0 N = some (((cntB (swB (M2 5)) (M2 5 2).toNat : Nat) : Int), N) := by
      refine up_loop0 (fun n i (s : Int) => f_X11_swapped_18 n s (i : Int) N) (fun i => ((cntB (swB (M2 5)) i : Nat) : Int)) (M2 5 2).toNat _ 0 rfl ?_ ?_ (by omega)
      · intro n i hi
        have hle := cntB_le (swB (M2 5)) i
        have e11 := (hP i (by omega)).1
        have hv := (PV_it hI 36 i (by omega)).1
        simp only [f_X11_swapped_18, tnc, e11, hN5, tn2]
        rw [if_neg (by omega), if_pos (by omega), o_succ (by omega)]
        by_cases g1 : (itS (M2 5) 36 S0).1 i = -1
        · have ec : ((cntB (swB (M2 5)) (i + 1) : Nat) : Int) = ((cntB (swB (M2 5)) i : Nat) : Int) + 0 := by simp [cntB, swB, g1]
          rw [if_pos (by omega), o_add_eq (by omega) (by omega), ec]
        · rw [if_neg (by omega)]
          by_cases g2 : (itS (M2 5) 36 S0).1 i = (i : Int)
          · have ec : ((cntB (swB (M2 5)) (i + 1) : Nat) : Int) = ((cntB (swB (M2 5)) i : Nat) : Int) + 0 := by simp [cntB, swB, g2]
            rw [if_pos g2, o_add_eq (by omega) (by omega), ec]
          · have ec : ((cntB (swB (M2 5)) (i + 1) : Nat) : Int) = ((cntB (swB (M2 5)) i : Nat) : Int) + 1 := by simp [cntB, swB, g1, g2]
            rw [if_neg g2, o_add_eq (by omega) (by omega), ec]
      · intro n
        simp only [f_X11_swapped_18, hN5, tn2]
        rw [if_pos (by omega)]
    rw [e2]
    exact m_fin (Qm_trans q2 (Qm_pairs hE)) hN5 (by rw [hN0]; exact s2)
