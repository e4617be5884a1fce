/-! LASTS, both sides -/
theorem bind_a {R : Type} {M N : AM} {g : AM → Option AM} (h : g M = some N) (f : AM → Option R) : (g M).bind f = f N := by rw [h]; rfl
theorem LI_self (c : Nat → Int) (s : Nat) {N : AM} (h5 : N 5 = c) : LI c s 0 N := ⟨fun j _ => by rw [h5], fun w _ _ => by rw [h5], fun w h => by omega⟩
theorem m_lasts75 {c : Nat → Int} (hI : Ic c) {k b : Nat} (hk : (k : Int) < c 2) (hb : 0 < b) (hb2 : b < 9223372036854775808) {N : AM} (h5 : N 5 = c) (hA : Aside c N) :
    Wp (f_X11_lasts_75 zB (k : Int) ((wholeN c : Nat) : Int) 0 (b : Int) 0 N) (fun r => ∃ N2, r = (1, frU N2 0 2 3 (lS c k (wholeN c + 1)) b) ∧ N2 5 = c ∧ Eo [5, 9] N N2) := by
  have h1 := hI.2.1
  have hwn : wholeN c < 1024 := lt1024 (n := (c 1).toNat) (by omega) (setB_lt _ _)
  refine up_loopP0 (fun n i (s : Nat × AM) => f_X11_lasts_75 n (k : Int) ((wholeN c : Nat) : Int) (s.1 : Int) (b : Int) (i : Int) s.2) (fun i s => s.1 = lS c k i ∧ (∀ s2, LI c s2 0 s.2) ∧ Eo [5, 9] N s.2) _ (wholeN c + 1) (0, N) ⟨rfl, fun s2 => LI_self c s2 h5, Eo_refl _ _⟩ ?_ ?_ (by omega)
  · rintro n i ⟨a, t⟩ hi ⟨g1, g2, hE⟩
    replace g1 : a = lS c k i := g1
    replace g2 : ∀ s2, LI c s2 0 t := g2
    replace hE : Eo [5, 9] N t := hE
    have hls := lS_b hI k i
    left
    show ∃ s2 : Nat × AM, _ ∧ f_X11_lasts_75 (n + 1) (k : Int) ((wholeN c : Nat) : Int) (a : Int) (b : Int) (i : Int) t = _
    simp only [f_X11_lasts_75]
    rw [if_neg (by omega)]
    simp only [o_sub0 (show i < 1024 by omega) hwn]
    by_cases g : i &&& wholeN c = i
    · obtain ⟨N2, e, hL, hE2⟩ := m_lasts99 hI (f_X11_lasts_75 n) hk g (a : Int) (b : Int) (g2 i) (by omega)
      rw [if_pos g, e]
      refine ⟨(lS c k (i + 1), N2), ⟨rfl, hL, Eo_trans hE hE2⟩, ?_⟩
      congr 1
      have hlb : lB c k i = rungB (cutV c i (c 1).toNat) k := by rw [rung_cutV hI]; unfold lB; rw [decide_eq_true g]; rfl
      show _ = ((lS c k (i + 1) : Nat) : Int)
      rw [lS_succ, hlb, g1]
      cases rungB (cutV c i (c 1).toNat) k
      · rfl
      · simp only [if_true]; omega
    · rw [if_neg g, o_succ (by omega)]
      refine ⟨(a, t), ⟨?_, g2, hE⟩, rfl⟩
      have hlb : lB c k i = false := by unfold lB; rw [decide_eq_false g]; rfl
      show a = lS c k (i + 1)
      rw [g1, lS_succ, hlb]; rfl
  · rintro n ⟨a, t⟩ ⟨g1, g2, hE⟩
    replace g1 : a = lS c k (wholeN c + 1) := g1
    replace hE : Eo [5, 9] N t := hE
    have hls := lS_b hI k (wholeN c + 1)
    have hA2 : Aside c t := fun j hj => by rw [hE 6 (by simp)]; exact hA j hj
    obtain ⟨N3, e3, h53, hE3⟩ := m_gives' hA2 (fun j hj => (g2 0).1 j (by omega))
    show Wp (f_X11_lasts_75 (n + 1) (k : Int) ((wholeN c : Nat) : Int) (a : Int) (b : Int) ((wholeN c + 1 : Nat) : Int) t) _
    simp only [f_X11_lasts_75]
    rw [if_pos (by omega), e3, bind_s, m_fraction (by omega) hb2 hb, bind_s, if_pos (Or.inr rfl)]
    exact wp_some ⟨N3, by rw [g1], h53, Eo_trans hE (Eo_sub hE3 (by simp))⟩
theorem a_lasts (a1 : Int) : Alike (f_X10_lasts a1) (f_X11_lasts a1) := by
  refine alike_t (fun c => if 0 ≤ a1 ∧ a1 < c 2 then 1 else 0) (fun c => if 0 ≤ a1 ∧ a1 < c 2 then 0 else 2) (fun c => decide (0 ≤ a1 ∧ a1 < c 2)) (fun c => (lS c a1.toNat (wholeN c + 1), 16 ^ pc (wholeN c))) ?_ ?_
  · intro c M hI h9 hR
    have h1 := hI.2.1
    have h2 := hI.2.2.1
    have hg := (Rh_iff.mp hR).1
    have hwn : wholeN c < 1024 := lt1024 (n := (c 1).toNat) (by omega) (setB_lt _ _)
    unfold f_X10_lasts
    by_cases g1 : 0 ≤ a1 ∧ a1 < c 2
    · obtain ⟨k, rfl⟩ : ∃ w : Nat, a1 = (w : Int) := ⟨a1.toNat, by omega⟩
      obtain ⟨⟨v, N⟩, e, hv, hE⟩ := x_lasting hI hg g1.2
      replace hv : v = ((lS c k (2 ^ (c 1).toNat) : Nat) : Int) := hv
      replace hE : Eo [64] M N := hE
      have hls := lS_b hI k (wholeN c + 1)
      have hpb := pow_b (Nat.le_refl 16) (pc_le (wholeN c))
      have hpp : 0 < 16 ^ pc (wholeN c) := Nat.pow_pos (by decide)
      have hRN := Rg_64 hE hg
      rw [xcoup_t hg g1, bind_s]
      simp only [if_pos g1, i10, not_false_eq_true, if_true, tnc]
      rw [e, bind_s]
      dsimp only
      rw [x_whole hRN, x_bitCount hwn, bind_s]
      dsimp only
      rw [show (16 : Int) = ((16 : Nat) : Int) from rfl, x_pow (Nat.le_refl 16) (pc_le _), bind_s, hv, lS_all]
      dsimp only
      rw [x_tell (by omega) (by omega) hpp, bind_s, x_agree, bind_s, if_pos (Or.inr rfl)]
      refine ⟨N, ?_, Qx_64 hE, Rh_64 hE hR⟩
      rw [decide_eq_true g1]
      rfl
    · rw [xcoup_f hg g1, bind_s]
      simp only [if_neg g1, i00, not_true_eq_false, if_false, x_refuse, bind_s, b01, true_or, if_true]
      refine ⟨M, ?_, Qx_refl M, hR⟩
      rw [decide_eq_false g1]
      rfl
  · intro P hI h9
    obtain ⟨M2, hM2, e5, q2, s2, hc, hf⟩ := MS_ok P
    rw [← e5] at hI
    have h1 := hI.2.1
    have h2 := hI.2.2.1
    have hwn : wholeN (M2 5) < 1024 := lt1024 (n := (M2 5 1).toNat) (by omega) (setB_lt _ _)
    unfold f_X11_lasts
    rw [zlet_eq, zlet_eq, hM2, ← e5]
    by_cases g1 : 0 ≤ a1 ∧ a1 < M2 5 2
    · obtain ⟨k, rfl⟩ : ∃ w : Nat, a1 = (w : Int) := ⟨a1.toNat, by omega⟩
      have hpp : 0 < 16 ^ pc (wholeN (M2 5)) := Nat.pow_pos (by decide)
      have hpb := pow_b (Nat.le_refl 16) (pc_le (wholeN (M2 5)))
      rw [mcoup_t hI g1, bind_s]
      simp only [if_pos g1, i10, not_false_eq_true, if_true, tnc, tn1]
      rw [m_whole hI, bind_s]
      dsimp only
      obtain ⟨N, eN, hA, h5, hE⟩ := m_puts' M2
      obtain ⟨r, e75, N2, hr, h52, hE2⟩ := m_lasts75 hI g1.2 hpp (by omega) h5 hA
      have e2 : f_X11_lasts_45 zB (k : Int) ((wholeN (M2 5) : Nat) : Int) 0 1 0 M2 = some r := by
        refine up_loop0 (fun n i (s : Int) => f_X11_lasts_45 n (k : Int) ((wholeN (M2 5) : Nat) : Int) 0 s (i : Int) M2) (fun i => ((16 ^ i : Nat) : Int)) (pc (wholeN (M2 5))) _ 1 rfl ?_ ?_ (by have := pc_le (wholeN (M2 5)); omega)
        · intro n i hi
          have hp := pc_le (wholeN (M2 5))
          have hb := pow_b (Nat.le_refl 16) (show i + 1 ≤ 10 by omega)
          have e : ((16 ^ i : Nat) : Int) * 16 = ((16 ^ (i + 1) : Nat) : Int) := by rw [Nat.pow_succ, Int.natCast_mul]; rfl
          have hp0 : 0 ≤ ((16 ^ i : Nat) : Int) := Int.natCast_nonneg _
          simp only [f_X11_lasts_45]
          rw [m_sizeOf' hwn, bind_s]
          dsimp only
          rw [if_neg (by omega), l_mul_eq (by omega) (by omega), o_succ (by omega), e]
        · intro n
          simp only [f_X11_lasts_45]
          rw [m_sizeOf' hwn, bind_s]
          dsimp only
          rw [if_pos (by omega), eN, bind_s, e75]
      rw [e2, hr]
      refine ⟨N2, ?_, ?_, h52, ?_⟩
      · rw [decide_eq_true g1]
        rfl
      · exact Qm_trans q2 (Qm_trans (Qm_Eo hE (by intro a ha; simp at ha; subst ha; unfold mcell; omega)) (Eo59_Qm hE2))
      · rw [hE2 0 (by simp), hE 0 (by simp)]; exact s2
    · rw [mcoup_f hI g1, bind_s]
      simp only [if_neg g1, i00, not_true_eq_false, if_false, m_no, bind_s, b01, true_or, if_true]
      rw [decide_eq_false g1]
      exact m_end q2 rfl
