/-! TEXTS: the next TOKEN on both sides -/
theorem adv_both {L : Nat} {A B : AM} (hT : TX L A B) (h1 : A 20 11 = B 0 16) (h2 : 0 ≤ A 20 11) (h3 : A 20 11 ≤ (L : Int)) : ∃ A' B', f_X5_advance A = some A' ∧ f_X11_advance B = some B' ∧ CF A A' ∧ MF B B' ∧ TK L A' B' ∧ Adv A A' := by
  have hL := hT.1
  have hA10 := hT.2.1
  have hB9 := hT.2.2.1
  obtain ⟨p, hp⟩ : ∃ p : Nat, A 20 11 = (p : Int) := ⟨(A 20 11).toNat, by omega⟩
  have hT1 : TX L A (am_upd B 0 15 (p : Int)) := TX_F hT (CF_refl A) (MF_upd _ (by omega) (MF_refl B))
  obtain ⟨p', s1, s2, s3, s4⟩ := adv_skip (L - p) p A (am_upd B 0 15 (p : Int)) (by omega) hT1 hp (am_upd_self _ _ _ _)
  rw [am_upd_tw] at s4
  have c1 : f_X5_advance A = f_X5_advance_52 (am_upd A 20 11 (p' : Int)) := s3 zB (by unfold zB; omega)
  have m1 : f_X11_advance B = f_X11_advance_58 (am_upd B 0 15 (p' : Int)) := by
    unfold f_X11_advance
    rw [zlet_eq, ← h1, hp]
    exact s4 zB (by unfold zB; omega)
  rw [c1, m1]
  unfold f_X5_advance_52 f_X11_advance_58
  rw [zlet_eq, zlet_eq, zlet_eq, zlet_eq, am_upd_self, am_upd_self]
  generalize hA3 : am_upd (am_upd (am_upd A 20 11 (p' : Int)) 20 1 (p' : Int)) 20 3 (-1) = A3
  generalize hB3 : am_upd (am_upd B 0 15 (p' : Int)) 0 16 (p' : Int) = B3
  have cA : CF A A3 := by rw [← hA3]; exact CF_upd _ (by omega) (CF_upd _ (by omega) (CF_upd _ (by omega) (CF_refl A)))
  have cB : MF B B3 := by rw [← hB3]; exact MF_upd _ (by omega) (MF_upd _ (by omega) (MF_refl B))
  have hT3 := TX_F hT cA cB
  have a11 : A3 20 11 = (p' : Int) := by rw [← hA3, am_upd_ne (by omega), am_upd_ne (by omega), am_upd_self]
  have a1 : A3 20 1 = (p' : Int) := by rw [← hA3, am_upd_ne (by omega), am_upd_self]
  have a3 : A3 20 3 = -1 := by rw [← hA3, am_upd_self]
  have a10 := hT3.2.1
  have b15 : B3 0 15 = (p' : Int) := by rw [← hB3, am_upd_ne (by omega), am_upd_self]
  have b16 : B3 0 16 = (p' : Int) := by rw [← hB3, am_upd_self]
  have b9 := hT3.2.2.1
  rw [a11, a10, b15, b9]
  by_cases gE : (p' : Int) < (L : Int)
  · rw [if_pos gE, if_pos (show (0 : Int) ≤ (p' : Int) ∧ (p' : Int) < 900 by omega), if_pos gE, tnc]
    obtain ⟨b, k1, k2, k3, k4, k5⟩ := byteC hT3 (p := p') (by omega)
    have hlook := m_look hT3 (p := p') (by omega)
    rw [if_pos (by omega), k2, k5] at hlook
    rw [k1, hlook, x_isLetter, bind_s, bind_s]
    dsimp only
    rw [m_isLetter, bind_s]
    dsimp only
    by_cases gl : 97 ≤ b ∧ b ≤ 122
    · -- a word
      have gb : (if b < 0 then b + 256 else b) = b := if_neg (by omega)
      rw [gb, if_pos gl, if_neg (by decide), if_neg (by decide), zlet_eq, zlet_eq]
      unfold f_X5_scanWord
      rw [zlet_eq, zlet_eq, zlet_eq]
      generalize hA4 : am_upd (am_upd (am_upd A3 20 0 1) 20 2 0) 20 8 0 = A4
      generalize hB4 : am_upd (am_upd B3 0 14 1) 0 19 0 = B4
      have cA4 : CF A3 A4 := by rw [← hA4]; exact CF_upd _ (by omega) (CF_upd _ (by omega) (CF_upd _ (by omega) (CF_refl A3)))
      have cB4 : MF B3 B4 := by rw [← hB4]; exact MF_upd _ (by omega) (MF_upd _ (by omega) (MF_refl B3))
      have hT4 := TX_F hT3 cA4 cB4
      have z : ((p' - p' : Nat) : Int) = 0 := by omega
      obtain ⟨q, A', B', w1, w2, w3, w4, w5, w6, w7, w8, w9, w10, w11, w12, w13, w14⟩ := adv_word (L := L) (p0 := p') (L - p') p' A4 B4 (by omega) (Nat.le_refl _) hT4 (by rw [← hA4, am_upd_ne (by omega), am_upd_ne (by omega), am_upd_ne (by omega)]; exact a11) (by rw [← hB4, am_upd_ne (by omega), am_upd_ne (by omega)]; exact b16) (by rw [← hB4, am_upd_ne (by omega), am_upd_ne (by omega)]; exact b15) (by rw [← hA4, am_upd_self]; exact z.symm) (by rw [← hA4, ← hB4, am_upd_ne (by omega), am_upd_self, am_upd_self, show p' - p' = 0 by omega]; exact WW_0)
      have hTe := TX_F hT4 w3 w4
      have e3 : A' 20 3 = -1 := by rw [w10 3 (by decide) (by decide) (by decide), ← hA4, am_upd_ne (by omega), am_upd_ne (by omega), am_upd_ne (by omega)]; exact a3
      have e0 : A' 20 0 = 1 := by rw [w10 0 (by decide) (by decide) (by decide), ← hA4, am_upd_ne (by omega), am_upd_ne (by omega), am_upd_self]
      have e1 : A' 20 1 = (p' : Int) := by rw [w10 1 (by decide) (by decide) (by decide), ← hA4, am_upd_ne (by omega), am_upd_ne (by omega), am_upd_ne (by omega)]; exact a1
      have f14 : B' 0 14 = 1 := by rw [w11 14 (by decide) (by decide) (by decide), ← hB4, am_upd_ne (by omega), am_upd_self]
      have f15 : B' 0 15 = (p' : Int) := by rw [w11 15 (by decide) (by decide) (by decide), ← hB4, am_upd_ne (by omega), am_upd_ne (by omega)]; exact b15
      have hq : p' < q := w12 (by omega) (by rw [cA4.1 21 (by decide), k1]; exact gl.1) (by rw [cA4.1 21 (by decide), k1]; exact gl.2)
      obtain ⟨K, q1, q2⟩ := kw_loop hTe.2.2.2.2 23 0 (by omega) e3 (fun e he => by omega)
      refine ⟨am_upd A' 20 3 K, B', ?_, ?_, CF_trans (CF_trans cA cA4) (CF_upd _ (by omega) w3), MF_trans (MF_trans cB cB4) w4, ⟨TX_F hT4 (CF_upd _ (by omega) w3) w4, ⟨?_, ?_, ?_⟩, ⟨?_, ?_, ?_⟩, ⟨?_, ?_, ?_⟩, ?_, fun _ => ⟨?_, ?_, fun hle => ?_⟩, ?_, ?_⟩, ⟨?_, Or.inr ?_⟩⟩
      · rw [w13 zB (by unfold zB; omega), show (0 : Int) = ((0 : Nat) : Int) from rfl, q2 zB (by unfold zB; omega), bind_s]
      · exact w14 zB (by unfold zB; omega)
      · rw [am_upd_ne (by omega), w5, w6]
      · rw [am_upd_ne (by omega), w5]; omega
      · rw [am_upd_ne (by omega), w5]; omega
      · rw [am_upd_ne (by omega), e0, f14]
      · rw [am_upd_ne (by omega), e0]; decide
      · rw [am_upd_ne (by omega), e0]; decide
      · rw [am_upd_ne (by omega), e1, f15]
      · rw [am_upd_ne (by omega), e1]; omega
      · rw [am_upd_ne (by omega), e1]; omega
      · rw [am_upd_ne (by omega), e0]; intro h; exact absurd h (by decide)
      · rw [am_upd_ne (by omega), w7, w8]
      · rw [am_upd_self]
        obtain ⟨u, v1, v2, v3, v4, v5, v6⟩ := w9
        by_cases g8 : q - p' ≤ 8
        · rw [(v2 g8).1, ← v1]; exact q1
        · have e7 : 32 ^ 7 = 34359738368 := by decide
          have hu := v6 (by omega)
          rcases q1 with ⟨q1, _⟩ | ⟨i, hi, _, q1⟩
          · refine Or.inl ⟨q1, fun i hi => ?_⟩
            have := kwl_lt hi
            rw [v3 (by omega)]; omega
          · have := kwl_lt hi
            omega
      · rw [am_upd_ne (by omega)] at hle ⊢
        obtain ⟨u, v1, v2, v3, v4, v5, v6⟩ := w9
        have g8 : q - p' ≤ 8 := by omega
        have hpos := v5 (by omega) g8
        have : 0 < 32 ^ (q - p' - 1) := Nat.pow_pos (by decide)
        rw [v1, (v2 g8).1]
        exact ⟨rfl, by omega⟩
      · rw [am_upd_ne (by omega), e0]; intro h; exact absurd rfl h
      · rw [am_upd_ne (by omega), e0]; intro h; omega
      · rw [am_upd_ne (by omega), w5]; omega
      · rw [am_upd_ne (by omega), w5]; omega
    · have gb : ¬ (97 ≤ (if b < 0 then b + 256 else b) ∧ (if b < 0 then b + 256 else b) ≤ 122) := by
        by_cases g2 : b < 0
        · rw [if_pos g2]; omega
        · rw [if_neg g2]; exact gl
      rw [if_neg gl, if_neg gb]
      rw [if_pos rfl, if_pos rfl]
      simp only [a11]
      rw [if_pos (show (0 : Int) ≤ (p' : Int) ∧ (p' : Int) < 900 by omega), tnc, k1, x_isDigit, m_isDigit, bind_s, bind_s]
      dsimp only
      by_cases gd : 48 ≤ b ∧ b ≤ 57
      · -- a number
        have gb2 : (if b < 0 then b + 256 else b) = b := if_neg (by omega)
        rw [gb2, if_pos gd, if_neg (by decide), if_neg (by decide), zlet_eq]
        unfold f_X5_scanNumber
        rw [zlet_eq]
        have cA4 : CF A3 (am_upd A3 20 4 0) := CF_upd _ (by omega) (CF_refl A3)
        have cB4 : MF B3 (am_upd B3 0 17 0) := MF_upd _ (by omega) (MF_refl B3)
        have hT4 := TX_F hT3 cA4 cB4
        obtain ⟨q, A', B', w1, w2, w3, w4, w5, w6, w7, w8, w9, w10, w11, w12, w13, w14, w15⟩ := adv_num (L := L) (p0 := p') (L - p') p' _ _ (by omega) (Nat.le_refl _) hT4 (by rw [am_upd_ne (by omega)]; exact a11) (by rw [am_upd_ne (by omega)]; exact b16) (by rw [am_upd_ne (by omega)]; exact b15) (by rw [am_upd_self, show p' - p' = 0 by omega]; unfold WD; omega) (by rw [am_upd_self, am_upd_self])
        have e3 : A' 20 3 = -1 := by rw [w11 3 (by decide) (by decide) (by decide), am_upd_ne (by omega)]; exact a3
        have e1 : A' 20 1 = (p' : Int) := by rw [w11 1 (by decide) (by decide) (by decide), am_upd_ne (by omega)]; exact a1
        have f15 : B' 0 15 = (p' : Int) := by rw [w12 15 (by decide) (by decide) (by decide), am_upd_ne (by omega)]; exact b15
        have hq : p' < q := w13 (by omega) (by rw [cA4.1 21 (by decide), k1]; exact gd.1) (by rw [cA4.1 21 (by decide), k1]; exact gd.2)
        have z : ((p' - p' : Nat) : Int) = 0 := by omega
        rw [z] at w14
        refine ⟨A', B', ?_, w15 zB (by unfold zB; omega), CF_trans (CF_trans cA cA4) w3, MF_trans (MF_trans cB cB4) w4, ⟨TX_F hT4 w3 w4, ⟨by rw [w5, w6], by omega, by omega⟩, ⟨w9, by omega, by omega⟩, ⟨by rw [e1, f15], by omega, by omega⟩, fun h => by omega, fun h => by omega, fun _ => e3, fun _ => ⟨w7, by omega, by omega⟩⟩, ⟨by omega, Or.inr (by omega)⟩⟩
        rw [w14 zB (by unfold zB; omega), bind_s]
      · -- a sign, or no TOKEN
        have gb2 : ¬ (48 ≤ (if b < 0 then b + 256 else b) ∧ (if b < 0 then b + 256 else b) ≤ 57) := by
          by_cases g2 : b < 0
          · rw [if_pos g2]; omega
          · rw [if_neg g2]; exact gd
        rw [if_neg gd, if_neg gb2, if_pos rfl, if_pos rfl]
        simp only [a11, b15]
        rw [if_pos (show (0 : Int) ≤ (p' : Int) ∧ (p' : Int) < 900 by omega), tnc, k1, o_succ (by omega), zlet_eq, zlet_eq, zlet_eq, am_upd_self]
        generalize hA4 : am_upd A3 20 4 b = A4
        have cA4 : CF A3 A4 := by rw [← hA4]; exact CF_upd _ (by omega) (CF_refl A3)
        have a4 : A4 20 4 = b := by rw [← hA4, am_upd_self]
        have a411 : A4 20 11 = (p' : Int) := by rw [← hA4, am_upd_ne (by omega)]; exact a11
        generalize hB4 : am_upd (am_upd B3 0 16 ((p' + 1 : Nat) : Int)) 0 17 (if b < 0 then b + 256 else b) = B4
        have cB4 : MF B3 B4 := by rw [← hB4]; exact MF_upd _ (by omega) (MF_upd _ (by omega) (MF_refl B3))
        have b416 : B4 0 16 = ((p' + 1 : Nat) : Int) := by rw [← hB4, am_upd_ne (by omega), am_upd_self]
        have b415 : B4 0 15 = (p' : Int) := by rw [← hB4, am_upd_ne (by omega), am_upd_ne (by omega)]; exact b15
        have b417 : B4 0 17 = (if b < 0 then b + 256 else b) := by rw [← hB4, am_upd_self]
        have hT4 := TX_F hT3 cA4 cB4
        rw [isSign_m, bind_s]
        dsimp only
        have hcx : ∀ t : Int, (t = 3 ∨ t = 4) → (t = 3 → 0 ≤ b) → ∃ A' B', some (am_upd (am_upd A4 20 0 t) 20 11 ((p' + 1 : Nat) : Int)) = some A' ∧ some (am_upd B4 0 14 t) = some B' ∧ CF A A' ∧ MF B B' ∧ TK L A' B' ∧ Adv A A' := by
          intro t ht hb
          have cA5 : CF A4 (am_upd (am_upd A4 20 0 t) 20 11 ((p' + 1 : Nat) : Int)) := CF_upd _ (by omega) (CF_upd _ (by omega) (CF_refl A4))
          have cB5 : MF B4 (am_upd B4 0 14 t) := MF_upd _ (by omega) (MF_refl B4)
          have e0 : am_upd (am_upd A4 20 0 t) 20 11 ((p' + 1 : Nat) : Int) 20 0 = t := by rw [am_upd_ne (by omega), am_upd_self]
          have e11 : am_upd (am_upd A4 20 0 t) 20 11 ((p' + 1 : Nat) : Int) 20 11 = ((p' + 1 : Nat) : Int) := am_upd_self _ _ _ _
          have e1 : am_upd (am_upd A4 20 0 t) 20 11 ((p' + 1 : Nat) : Int) 20 1 = (p' : Int) := by rw [am_upd_ne (by omega), am_upd_ne (by omega), ← hA4, am_upd_ne (by omega)]; exact a1
          have e3 : am_upd (am_upd A4 20 0 t) 20 11 ((p' + 1 : Nat) : Int) 20 3 = -1 := by rw [am_upd_ne (by omega), am_upd_ne (by omega), ← hA4, am_upd_ne (by omega)]; exact a3
          have e4 : am_upd (am_upd A4 20 0 t) 20 11 ((p' + 1 : Nat) : Int) 20 4 = b := by rw [am_upd_ne (by omega), am_upd_ne (by omega)]; exact a4
          have f14 : am_upd B4 0 14 t 0 14 = t := am_upd_self _ _ _ _
          have f15 : am_upd B4 0 14 t 0 15 = (p' : Int) := by rw [am_upd_ne (by omega)]; exact b415
          have f16 : am_upd B4 0 14 t 0 16 = ((p' + 1 : Nat) : Int) := by rw [am_upd_ne (by omega)]; exact b416
          have f17 : am_upd B4 0 14 t 0 17 = (if b < 0 then b + 256 else b) := by rw [am_upd_ne (by omega)]; exact b417
          refine ⟨_, _, rfl, rfl, CF_trans (CF_trans cA cA4) cA5, MF_trans (MF_trans cB cB4) cB5, ⟨TX_F hT4 cA5 cB5, ⟨by rw [e11, f16], by omega, by omega⟩, ⟨by rw [e0, f14], by omega, by omega⟩, ⟨by rw [e1, f15], by omega, by omega⟩, fun h => by omega, fun h => by omega, fun _ => e3, fun h => ?_⟩, ⟨by omega, Or.inr (by omega)⟩⟩
          have hb0 := hb (by omega)
          rw [e4, f17, if_neg (by omega)]
          exact ⟨rfl, by omega, by omega⟩
        have h182 : ∀ s : Int, f_X5_advance_182 s A4 = some (am_upd (am_upd A4 20 0 (if s = 0 then 4 else 3)) 20 11 ((p' + 1 : Nat) : Int)) := by
          intro s
          unfold f_X5_advance_182
          rw [zlet_eq, zlet_eq, zlet_eq, zlet_eq, am_upd_ne (by omega), am_upd_ne (by omega), a411, o_succ (by omega)]
          by_cases hs : s = 0
          · rw [if_pos hs, if_pos hs]
          · rw [if_neg hs, if_neg hs]
        have h1 := h182 1
        have h0 := h182 0
        rw [if_neg (by decide)] at h1
        rw [if_pos rfl] at h0
        rw [h1, h0]
        by_cases g0 : b < 0
        · rw [if_neg (show ¬ b = 59 by omega), if_neg (show ¬ b = 60 by omega), if_neg (show ¬ b = 62 by omega), if_pos (show ¬ b = 61 by omega)]
          simp only [if_pos g0]
          rw [if_neg (show ¬ (b + 256 = 59 ∨ b + 256 = 60 ∨ b + 256 = 62 ∨ b + 256 = 61) by omega), if_pos rfl, zlet_eq]
          exact hcx 4 (Or.inr rfl) (fun h => absurd h (by decide))
        · simp only [if_neg g0]
          by_cases gs : b = 59 ∨ b = 60 ∨ b = 62 ∨ b = 61
          · rw [if_pos gs, if_neg (show ¬ (1 : Int) = 0 by decide), zlet_eq]
            have hc := hcx 3 (Or.inl rfl) (fun _ => by omega)
            rcases gs with gs | gs | gs | gs
            · rw [if_pos (show b = 59 by omega)]; exact hc
            · rw [if_neg (show ¬ b = 59 by omega), if_pos (show b = 60 by omega)]; exact hc
            · rw [if_neg (show ¬ b = 59 by omega), if_neg (show ¬ b = 60 by omega), if_pos (show b = 62 by omega)]; exact hc
            · rw [if_neg (show ¬ b = 59 by omega), if_neg (show ¬ b = 60 by omega), if_neg (show ¬ b = 62 by omega), if_neg (show ¬ ¬ b = 61 by omega)]; exact hc
          · rw [if_neg gs, if_neg (show ¬ b = 59 by omega), if_neg (show ¬ b = 60 by omega), if_neg (show ¬ b = 62 by omega), if_pos (show ¬ b = 61 by omega), if_pos rfl, zlet_eq]
            exact hcx 4 (Or.inr rfl) (fun h => absurd h (by decide))
  · -- the end
    rw [if_neg gE, if_neg gE, zlet_eq]
    have hpL : p' = L := by omega
    have e0 : am_upd A3 20 0 0 20 0 = 0 := am_upd_self _ _ _ _
    have e1 : am_upd A3 20 0 0 20 1 = (p' : Int) := by rw [am_upd_ne (by omega)]; exact a1
    have e3 : am_upd A3 20 0 0 20 3 = -1 := by rw [am_upd_ne (by omega)]; exact a3
    have e11 : am_upd A3 20 0 0 20 11 = (p' : Int) := by rw [am_upd_ne (by omega)]; exact a11
    have f14 : am_upd B3 0 14 0 0 14 = 0 := am_upd_self _ _ _ _
    have f15 : am_upd B3 0 14 0 0 15 = (p' : Int) := by rw [am_upd_ne (by omega)]; exact b15
    have f16 : am_upd B3 0 14 0 0 16 = (p' : Int) := by rw [am_upd_ne (by omega)]; exact b16
    refine ⟨_, _, rfl, rfl, CF_upd _ (by omega) cA, MF_upd _ (by omega) cB, ⟨TX_F hT3 (CF_upd _ (by omega) (CF_refl A3)) (MF_upd _ (by omega) (MF_refl B3)), ⟨by rw [e11, f16], by omega, by omega⟩, ⟨by rw [e0, f14], by omega, by omega⟩, ⟨by rw [e1, f15], by omega, by omega⟩, fun _ => by omega, fun h => by omega, fun _ => e3, fun h => by omega⟩, ⟨by omega, Or.inl e0⟩⟩
