/-! WAY, both sides -/
theorem am_upd_nop {M : AM} {r i : Nat} {v : Int} (h : M r i = v) : am_upd M r i v = M := by
  funext a b
  by_cases e : a = r
  · subst e
    by_cases e2 : b = i
    · subst e2; rw [am_upd_self, h]
    · exact am_upd_ne (fun h => e2 h.2)
  · rw [am_upd_cell e]
def wayG (c : Nat → Int) (a1 a2 a3 : Int) : Int := if 0 ≤ a1 ∧ a1 < c 0 then (if 0 ≤ a2 ∧ a2 < c 0 then (if 0 ≤ a3 ∧ FD c a1 a2 < 1000 then wayF c a2.toNat a3.toNat a1.toNat else -1) else -2) else -2
def wayS (v : Int) : Int := if v = -2 then 2 else if v = -1 then 8 else 0
def wayV (v : Int) : Int := if v = -2 then -1 else v
theorem wayF_r {c : Nat → Int} (hI : Ic c) {q : Nat} (hq : q < (c 0).toNat) : ∀ (k p : Nat), p < (c 0).toNat → fD c p q < 1000 → -1 ≤ wayF c q k p
  | 0, p, _, _ => by unfold wayF; omega
  | k + 1, p, hp, hlt => by
    unfold wayF
    by_cases e : p = q
    · rw [if_pos e]; omega
    · rw [if_neg e]
      obtain ⟨r, h1, h2, h3⟩ := nxF_ex hI hp hq e hlt
      rw [h1, tnc]
      exact wayF_r hI hq k r h2 (by omega)
theorem x_wayL {c : Nat → Int} {M : AM} (hI : Ic c) (hR : Rh c 23 M) {p q k : Nat} (hp : p < (c 0).toNat) (hq : q < (c 0).toNat) (hlt : fD c p q < 1000) (hk : k < 1000) :
    Wp (f_X10_way_66 zB (q : Int) (k : Int) (p : Int) 0 M) (fun r => ∃ N, Hm c 23 M N ∧ r = (wayF c q k p, am_upd N 15 0 (if wayF c q k p = -1 then 8 else 0))) := by
  have h0 := hI.1
  refine up_loopP0 (fun n i (s : Nat × AM) => f_X10_way_66 n (q : Int) (k : Int) (s.1 : Int) (i : Int) s.2) (fun i s => s.1 < (c 0).toNat ∧ fD c s.1 q < 1000 ∧ Hm c 23 M s.2 ∧ wayF c q k p = wayF c q (k - i) s.1) _ k (p, M) ⟨hp, hlt, Hm_refl hR, rfl⟩ ?_ ?_ (by omega)
  · rintro n i ⟨p', N⟩ hi ⟨g1, g2, g3, g4⟩
    dsimp only at g1 g2 g3 g4
    obtain ⟨d, hd⟩ : ∃ d, k - i = d + 1 := ⟨k - i - 1, by omega⟩
    have hd2 : k - (i + 1) = d := by omega
    rw [hd] at g4
    show (∃ s2 : Nat × AM, _ ∧ f_X10_way_66 (n + 1) (q : Int) (k : Int) (p' : Int) (i : Int) N = f_X10_way_66 n (q : Int) (k : Int) (s2.1 : Int) ((i + 1 : Nat) : Int) s2.2) ∨ Wp (f_X10_way_66 (n + 1) (q : Int) (k : Int) (p' : Int) (i : Int) N) _
    simp only [f_X10_way_66]
    rw [if_neg (by omega)]
    by_cases e : p' = q
    · right
      subst e
      have hv : wayF c p' k p = -1 := by rw [g4]; unfold wayF; rw [if_pos rfl]
      rw [if_neg (fun h => h rfl), x_fail, bind_s]
      exact wp_some ⟨N, g3, by rw [hv]; rfl⟩
    · left
      obtain ⟨r, h1, h2, h3⟩ := nxF_ex hI g1 hq e g2
      obtain ⟨⟨v, N2⟩, e3, hv, hN2⟩ := x_nextOnWay hI g3.1 g1 hq (by omega)
      replace hv : v = nxF c p' q := hv
      replace hN2 : Hm c 23 N N2 := hN2
      rw [if_pos (by omega), e3, bind_s, hv, h1, o_succ (by omega)]
      refine ⟨(r, N2), ⟨h2, ?_, Hm_trans g3 hN2, ?_⟩, rfl⟩
      · show fD c r q < 1000
        omega
      · show wayF c q k p = wayF c q (k - (i + 1)) r
        rw [hd2, g4]
        conv => lhs; unfold wayF
        rw [if_neg e, h1, tnc]
  · rintro n ⟨p', N⟩ ⟨g1, g2, g3, g4⟩
    dsimp only at g1 g2 g3 g4
    have g4 : wayF c q k p = (p' : Int) := by rw [g4, show k - k = 0 by omega]; rfl
    show Wp (f_X10_way_66 (n + 1) (q : Int) (k : Int) (p' : Int) (k : Int) N) _
    simp only [f_X10_way_66]
    rw [if_pos (by omega), x_answer, bind_s]
    refine wp_some ⟨N, g3, ?_⟩
    rw [g4, if_neg (by omega)]
theorem m_wayL {c : Nat → Int} {M : AM} (hI : Ic c) (h5 : M 5 = c) (hL : Lf c M) (hs : M 0 0 = 0) {p q : Nat} {k : Int} (hk : 0 ≤ k) (hp : p < (c 0).toNat) (hq : q < (c 0).toNat) (hlt : fD c p q < 1000) :
    Wp (f_X11_way_65 zB (q : Int) k (p : Int) 0 M) (fun r => ∃ s, r = (wayF c q k.toNat p, am_upd M 0 0 s) ∧ s = if wayF c q k.toNat p = -1 then 8 else 0) := by
  have h0 := hI.1
  have hb := wcnt_b (q := q) hI hp
  refine dn_loopP0 (fun n (s : Nat × Nat) => f_X11_way_65 n (q : Int) k (s.1 : Int) (s.2 : Int) M) (fun j s => s.1 < (c 0).toNat ∧ fD c s.1 q < 1000 ∧ wcnt c q s.1 ≤ j ∧ s.2 + j ≤ 8 ∧ (s.2 : Int) ≤ k ∧ wayF c q k.toNat p = wayF c q (k.toNat - s.2) s.1) _ (wcnt c q p) (p, 0) ⟨hp, hlt, Nat.le_refl _, by show 0 + _ ≤ 8; omega, hk, rfl⟩ ?_ (by omega)
  rintro n j ⟨p', i⟩ ⟨g1, g2, g3, g4, g5, g6⟩
  dsimp only at g1 g2 g3 g4 g5 g6
  show (∃ j2, ∃ s2 : Nat × Nat, j2 < j ∧ _ ∧ f_X11_way_65 (n + 1) (q : Int) k (p' : Int) (i : Int) M = f_X11_way_65 n (q : Int) k (s2.1 : Int) (s2.2 : Int) M) ∨ Wp (f_X11_way_65 (n + 1) (q : Int) k (p' : Int) (i : Int) M) _
  simp only [f_X11_way_65]
  by_cases gi : k ≤ (i : Int)
  · right
    have g7 : wayF c q k.toNat p = (p' : Int) := by rw [g6, show k.toNat - i = 0 by omega]; rfl
    rw [if_pos gi]
    refine wp_some ⟨0, ?_, ?_⟩
    · rw [g7]
      refine Prod.ext rfl ?_
      show M = am_upd M 0 0 0
      exact (am_upd_nop hs).symm
    · rw [g7, if_neg (by omega)]
  · obtain ⟨d, hd⟩ : ∃ d, k.toNat - i = d + 1 := ⟨k.toNat - i - 1, by omega⟩
    have hd2 : k.toNat - (i + 1) = d := by omega
    rw [hd] at g6
    rw [if_neg gi]
    by_cases e : p' = q
    · right
      subst e
      have hv : wayF c p' k.toNat p = -1 := by rw [g6]; unfold wayF; rw [if_pos rfl]
      rw [if_neg (fun h => h rfl), m_refuse, bind_s]
      exact wp_some ⟨8, by rw [hv], by rw [hv]; rfl⟩
    · left
      obtain ⟨r, h1, h2, h3⟩ := nxF_ex hI g1 hq e g2
      have hw := wcnt_next h2 h3
      rw [if_pos (by omega), m_nextOn hI h5 hL g1 hq, bind_s]
      dsimp only
      rw [h1, o_succ (by omega)]
      refine ⟨j - 1, (r, i + 1), by omega, ⟨h2, ?_, ?_, ?_, ?_, ?_⟩, rfl⟩
      · show fD c r q < 1000
        omega
      · show wcnt c q r ≤ j - 1
        omega
      · show i + 1 + (j - 1) ≤ 8
        omega
      · show ((i + 1 : Nat) : Int) ≤ k
        omega
      · show wayF c q k.toNat p = wayF c q (k.toNat - (i + 1)) r
        rw [hd2, g6]
        conv => lhs; unfold wayF
        rw [if_neg e, h1, tnc]
theorem a_way (a1 a2 a3 : Int) : Alike (f_X10_way a1 a2 a3) (f_X11_way a1 a2 a3) := by
  refine alike_q (fun c => wayV (wayG c a1 a2 a3)) (fun c => wayS (wayG c a1 a2 a3)) ?_ ?_
  · intro c M hI h9 hR
    have h0 := hI.1
    have hg := (Rh_iff.mp hR).1
    unfold f_X10_way f_X10_way_22 f_X10_way_53 wayG
    by_cases g1 : 0 ≤ a1 ∧ a1 < c 0
    · rw [xroom_t hg g1, bind_s]
      simp only [if_pos g1, i10, if_false]
      by_cases g2 : 0 ≤ a2 ∧ a2 < c 0
      · rw [xroom_t hg g2, bind_s]
        simp only [if_pos g2, i10, if_false, not_false_eq_true, if_true]
        obtain ⟨p, rfl⟩ : ∃ p : Nat, a1 = (p : Int) := ⟨a1.toNat, by omega⟩
        obtain ⟨q, rfl⟩ : ∃ q : Nat, a2 = (q : Int) := ⟨a2.toNat, by omega⟩
        have eF : FD c (p : Int) (q : Int) = fD c p q := by unfold FD; rw [tnc, tnc]
        simp only [tnc, eF]
        by_cases g3 : a3 < 0
        · rw [if_pos g3, x_fail, bind_s, if_neg (show ¬ (0 ≤ a3 ∧ fD c p q < 1000) by omega)]
          exact x_end (Qx_refl M) hR
        · obtain ⟨k, rfl⟩ : ∃ k : Nat, a3 = (k : Int) := ⟨a3.toNat, by omega⟩
          rw [if_neg g3]
          simp only [tnc]
          by_cases g4 : (8 : Int) ≤ (k : Int)
          · rw [if_pos g4, x_fail, bind_s]
            have hv : (if 0 ≤ (k : Int) ∧ fD c p q < 1000 then wayF c q k p else -1) = -1 := by
              by_cases g5 : fD c p q < 1000
              · rw [if_pos ⟨by omega, g5⟩]
                exact way_long hI (by omega) k p (by omega) g5 (by have := wcnt_b (q := q) hI (p := p) (by omega); omega)
              · rw [if_neg (fun h => g5 h.2)]
            rw [hv]
            exact x_end (Qx_refl M) hR
          · rw [if_neg g4]
            obtain ⟨N, e, hN⟩ := x_distance hI hR g1 g2
            rw [e, bind_s]
            dsimp only
            rw [eF]
            by_cases g5 : fD c p q < 1000
            · obtain ⟨r, e2, N2, hN2, hr⟩ := x_wayL hI hN.1 (p := p) (q := q) (k := k) (by omega) (by omega) g5 (by omega)
              have hge := wayF_r hI (q := q) (by omega) k p (by omega) g5
              rw [if_pos g5, e2, hr, if_pos (show 0 ≤ (k : Int) ∧ fD c p q < 1000 from ⟨by omega, g5⟩)]
              have ev : wayV (wayF c q k p) = wayF c q k p := by unfold wayV; rw [if_neg (by omega)]
              have es : wayS (wayF c q k p) = if wayF c q k p = -1 then 8 else 0 := by unfold wayS; rw [if_neg (by omega)]
              rw [ev, es]
              exact x_end (Qx_Hm (Hm_trans hN hN2)) hN2.1
            · rw [if_neg g5, x_fail, bind_s, if_neg (show ¬ (0 ≤ (k : Int) ∧ fD c p q < 1000) from fun h => g5 h.2)]
              exact x_end (Qx_Hm hN) hN.1
      · rw [xroom_f hg g2, bind_s]
        simp only [if_neg g2, i00, not_true_eq_false, if_false, x_fail, bind_s]
        exact x_end (Qx_refl M) hR
    · rw [xroom_f hg g1, bind_s]
      simp only [if_neg g1, i00, if_true, x_fail, bind_s]
      exact x_end (Qx_refl M) hR
  · intro P hI h9
    have h0 := hI.1
    obtain ⟨M2, hM2, e5, q2, s2, hc, hf⟩ := MS_ok P
    rw [← e5] at hI h0
    unfold f_X11_way f_X11_way_26 f_X11_way_52 wayG
    rw [zlet_eq, zlet_eq, hM2, ← e5]
    by_cases g1 : 0 ≤ a1 ∧ a1 < M2 5 0
    · rw [mroom_t hI g1, bind_s]
      simp only [if_pos g1, i10, if_false]
      by_cases g2 : 0 ≤ a2 ∧ a2 < M2 5 0
      · rw [mroom_t hI g2, bind_s]
        simp only [if_pos g2, i10, if_false, not_false_eq_true, if_true]
        rw [m_laysFar hI, bind_s]
        obtain ⟨p, rfl⟩ : ∃ p : Nat, a1 = (p : Int) := ⟨a1.toNat, by omega⟩
        obtain ⟨q, rfl⟩ : ∃ q : Nat, a2 = (q : Int) := ⟨a2.toNat, by omega⟩
        have eF : FD (M2 5) (p : Int) (q : Int) = fD (M2 5) p q := by unfold FD; rw [tnc, tnc]
        simp only [tnc, eF]
        by_cases g3 : a3 < 0
        · rw [if_pos g3, m_refuse, bind_s, if_neg (show ¬ (0 ≤ a3 ∧ fD (M2 5) p q < 1000) by omega)]
          exact m_end (Qm_trans q2 (Qm_LF M2)) (LF5 M2)
        · rw [if_neg g3, m_farOf (Lf_LF M2) (by omega) (by omega), bind_s]
          dsimp only
          rw [eF]
          by_cases g5 : fD (M2 5) p q < 1000
          · obtain ⟨r, e2, s, hr, hs⟩ := m_wayL hI (LF5 M2) (Lf_LF M2) (LF_s s2) (p := p) (q := q) (k := a3) (by omega) (by omega) (by omega) g5
            have hge := wayF_r hI (q := q) (by omega) a3.toNat p (by omega) g5
            rw [if_pos g5, e2, hr, if_pos (show 0 ≤ a3 ∧ fD (M2 5) p q < 1000 from ⟨by omega, g5⟩)]
            have ev : wayV (wayF (M2 5) q a3.toNat p) = wayF (M2 5) q a3.toNat p := by unfold wayV; rw [if_neg (by omega)]
            have es : wayS (wayF (M2 5) q a3.toNat p) = s := by rw [hs]; unfold wayS; rw [if_neg (by omega)]
            rw [ev, es]
            exact m_end (Qm_trans q2 (Qm_LF M2)) (LF5 M2)
          · rw [if_neg g5, m_refuse, bind_s, if_neg (show ¬ (0 ≤ a3 ∧ fD (M2 5) p q < 1000) from fun h => g5 h.2)]
            exact m_end (Qm_trans q2 (Qm_LF M2)) (LF5 M2)
      · rw [mroom_f hI g2, bind_s]
        simp only [if_neg g2, i00, not_true_eq_false, if_false, m_refuse, bind_s]
        exact m_end q2 rfl
    · rw [mroom_f hI g1, bind_s]
      simp only [if_neg g1, i00, if_true, m_refuse, bind_s]
      exact m_end q2 rfl
