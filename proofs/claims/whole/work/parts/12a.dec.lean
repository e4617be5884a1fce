def zB : Nat := 2000000
def zlet {α β : Type} (a : α) (f : α → β) : β := f a
theorem of_zlet {α β : Type} {a : α} {f : α → β} {r : β} (h : zlet a f = r) : ∃ b, b = a ∧ f b = r := ⟨a, rfl, h⟩
theorem of_grd {α : Type} {c : Prop} {_ : Decidable c} {a : Option α} {r : α} (h : (if c then a else none) = some r) : c ∧ a = some r := by
  by_cases hc : c
  · rw [if_pos hc] at h; exact ⟨hc, h⟩
  · rw [if_neg hc] at h; cases h
theorem of_pos {α : Type} {c : Prop} {_ : Decidable c} {a b r : α} (hc : c) (h : (if c then a else b) = r) : a = r := by rwa [if_pos hc] at h
theorem of_neg {α : Type} {c : Prop} {_ : Decidable c} {a b r : α} (hc : ¬ c) (h : (if c then a else b) = r) : b = r := by rwa [if_neg hc] at h
def zmask : List Bool → ZL → ZL
  | [], _ => []
  | _, [] => []
  | true :: b, v :: l => v :: zmask b l
  | false :: b, _ :: l => none :: zmask b l
theorem zmask_get : ∀ (b : List Bool) (lo : ZL) (i : Nat) (v : AV), zget (zmask b lo) i = some v → zget lo i = some v
  | [], _, _, _, h => by simp [zmask, zget] at h
  | _ :: _, [], _, _, h => by simp [zmask, zget] at h
  | true :: b, a :: l, i, v, h => by
    cases i with
    | zero => simpa [zmask, zget] using h
    | succ j => simpa [zget] using zmask_get b l j v (by simpa [zmask, zget] using h)
  | false :: b, a :: l, i, v, h => by
    cases i with
    | zero => simp [zmask, zget] at h
    | succ j => simpa [zget] using zmask_get b l j v (by simpa [zmask, zget] using h)
theorem Z_mask {P : State → (Nat → Nat) → (Nat → Prop) → Prop} {Y : List (Nat × Nat)} {d : Nat} {f : Zm} {pc : Nat} {lo lo0 : ZL} {st : List AV} {M M' : AM} {v : Option AV} (b : List Bool) (h : zmask b lo = lo0) (k : EvP P Y d f pc lo0 st M v M') : EvP P Y d f pc lo st M v M' := by
  intro p l e R s m args below meth c cells slots Q D tys ad dA A C hY hfr hlo hc hsl hP hret H locs ls hW hL hG
  refine k p l e R s m args below meth c cells slots Q D tys ad dA A C hY hfr hlo hc hsl hP hret H locs ls hW ⟨hL.1, hL.2.1, fun i v hv => hL.2.2 i v (zmask_get b lo i v (by rw [h]; exact hv))⟩ hG
theorem Ev_cast {Y : List (Nat × Nat)} {d d2 : Nat} {f : Zm} {pc : Nat} {lo : ZL} {st : List AV} {M M' : AM} {v : Option AV} (e : d = d2) (h : Ev Y d f pc lo st M v M') : Ev Y d2 f pc lo st M v M' := e ▸ h
theorem Z_one {P : State → (Nat → Nat) → (Nat → Prop) → Prop} {Y : List (Nat × Nat)} {d : Nat} {f : Zm} {pc : Nat} {lo : ZL} {st : List AV} {M M' : AM} {v : Option AV} (hm : zM f) {ins : Instr} {rn : Nat × Nat × Nat × Nat × Nat × Nat} {rz : Int} (he : zent (zt f) pc = some (ins, rn, rz)) {pc' : Nat} {lo' : ZL} {st' : List AV} {M1 : AM} (h : stp ins rn rz pc lo st M = some (pc', lo', st', M1)) (k : EvP P Y d f pc' lo' st' M1 v M') : EvP P Y d f pc lo st M v M' :=
  fun p l e R s m args below meth c cells slots Q D tys ad dA A C hY hfr hlo hc hsl hP hret => zstep C hY (by omega) (by omega) hc hsl (zdec_plain (ztab_at hm.spec.1 he).1 (stp_plain h).1 (stp_plain h).2) (ztab_at hm.spec.1 he).2 h (k p l e R s m args below meth c cells slots Q D tys ad dA A C hY hfr hlo hc hsl hP hret)
def zsz : List AV → Nat
  | [] => 0
  | v :: r => (match zc1 v with
    | true => 1
    | false => 2) + zsz r
theorem zcat_sz {ad : Nat → Nat} (r : List AV) : ((r.map (cv ad)).map fun v => v.category).sum = zsz r := by
  induction r with
  | nil => rfl
  | cons a r ih =>
    simp only [List.map_cons, List.sum_cons, ih, zsz, cat_cv]
    cases zc1 a <;> rfl
theorem zcat_small8 {ad : Nat → Nat} {r : List AV} (h : zsz r ≤ 8) : ((r.map (cv ad)).map fun v => v.category).sum ≤ 8 := by rw [zcat_sz]; exact h
section ZCalls8
variable {P : State → (Nat → Nat) → (Nat → Prop) → Prop} {Y : List (Nat × Nat)} {d : Nat} {f g : Zm} {pc : Nat} {lo : ZL} {M M1 M' : AM} {v u : Option AV}
theorem Z_callS8 (hf : zM f) (hg : zM g) (hsg : zst g = true) {idx i : Nat} {rn : (Nat × Nat × Nat × Nat × Nat × Nat) × Int} (he : zent (zt f) pc = some (.invokestatic idx, rn)) (hl : zhas i (Jvm.Cond.methodLink (zy f).cls idx (zy g)) = true)
    {st : List AV} (vs r : List AV) (hst : st = vs.reverse ++ r) (hn : vs.length = zna g) (hlen : (zlay vs).length ≤ zn g) (hr4 : zsz r ≤ 8) (hE : Ev Y d g 0 (zpad (zn g) (zlay vs)) [] M u M1) (k : EvP P Y (d + 1) f (pc + 3) lo (u.toList ++ r) M1 v M') : EvP P Y (d + 1) f pc lo st M v M' := by
  intro p l e R s m args below meth c cells slots Q D tys ad dA A C hY hfr hlo hc hsl hP hret H locs ls hW hL hG
  have C0 := C
  obtain ⟨hx, hb, hml, hown, hts, hK, hT, hA, hR⟩ := C0
  subst hst
  have hgv : ∀ w ∈ vs, gd Y w := fun w h => hG w (by simp [h])
  have hgr : ∀ w ∈ r, gd Y w := fun w h => hG w (by simp [h])
  have hd := zdec_plain (ztab_at hf.spec.1 (rn := rn.1) (rz := rn.2) he).1 (fun _ _ _ _ => by simp) (fun _ _ => by simp)
  have hMet := Ev_Met hg hE hlen hgv hW.2.2.2 hR hY l D tys ad dA hT H.size
  have hFc := z_A hW.2.1 hW.2.2.1 hA
  have hstk : (vs.reverse ++ r).map (cv ad) = (vs.map (cv ad)).reverse ++ r.map (cv ad) := by simp
  rw [hstk]
  refine z_go (va_runS (As := vs.map (cv ad)) (rest := r.map (cv ad)) (Ts := zws) ⟨hx, hb, hml, hown, hts⟩ hMet ⟨z_cb C hg (zhas_mem hl) hfr hlo, hts _ (hg.spec.2.2.2.1 hsg)⟩ ⟨z_blind, fun U hU hWm => ⟨rfl, by rw [hU], by rw [hU]; exact hW.1, va_K.moved hWm.alike hK, hW.2.1.weaken (fun _ _ _ _ => trivial)⟩⟩ rfl (by simpa using hn) hL.1 rfl (lv_room (zcat_small8 hr4)) hd ⟨by simpa using hc, by simpa using hsl⟩) hW.2.2.1 (fun q _ h => hFc q h) hFc (fun t H1 locs1 ht hB hS1 => ?_)
  rw [z_toL]
  refine k p l e R s m args below meth c cells slots Q D tys ad dA A C hY hfr hlo hc hsl hP hret H1 locs1 ls ⟨by rw [← ht]; exact hB.1, zD_row hW.2.1, hS1, hB.2.1⟩ hL ?_
  intro w hw
  rcases List.mem_append.mp hw with h | h
  · exact hB.2.2 w h
  · exact hgr w h
theorem Z_callV8 (hf : zM f) (hg : zM g) (hsg : zst g = false) {idx i : Nat} {rn : (Nat × Nat × Nat × Nat × Nat × Nat) × Int} (he : zent (zt f) pc = some (.invokevirtual idx, rn)) (hl : zhas i (Jvm.Cond.methodLink (zy f).cls idx (zy g)) = true) {ci q n0 : Nat} (hci : (zcl[ci]?).map (fun x => x.1) = some (zy g).cls)
    {st : List AV} (vs r : List AV) (hst : st = vs.reverse ++ vR q (10 + ci) n0 :: r) (hn : vs.length = zna g) (hlen : (zlay (vR q (10 + ci) n0 :: vs)).length ≤ zn g) (hr4 : zsz r ≤ 8) (hE : Ev Y d g 0 (zpad (zn g) (zlay (vR q (10 + ci) n0 :: vs))) [] M u M1) (k : EvP P Y (d + 1) f (pc + 3) lo (u.toList ++ r) M1 v M') : EvP P Y (d + 1) f pc lo st M v M' := by
  intro p l e R s m args below meth c cells slots Q D tys ad dA A C hY hfr hlo hc hsl hP hret H locs ls hW hL hG
  have C0 := C
  obtain ⟨hx, hb, hml, hown, hts, hK, hT, hA, hR⟩ := C0
  subst hst
  have hgv : ∀ w ∈ vs, gd Y w := fun w h => hG w (by simp [h])
  have hgq : Y[q]? = some (10 + ci, n0) := (hG (vR q (10 + ci) n0) (by simp)).resolve_left (by omega)
  have hgr : ∀ w ∈ r, gd Y w := fun w h => hG w (by simp [h])
  have hd := zdec_plain (ztab_at hf.spec.1 (rn := rn.1) (rz := rn.2) he).1 (fun _ _ _ _ => by simp) (fun _ _ => by simp)
  have hMet := Ev_Met hg hE hlen (fun w hw => (List.mem_cons.mp hw).elim (fun e => by rw [e]; exact Or.inr hgq) (hgv w)) hW.2.2.2 hR hY l D tys ad dA hT H.size
  have hFc := z_A hW.2.1 hW.2.2.1 hA
  have hstk : (vs.reverse ++ vR q (10 + ci) n0 :: r).map (cv ad) = (vs.map (cv ad)).reverse ++ .ref (ad q) :: r.map (cv ad) := by simp [cv]
  rw [hstk]
  obtain ⟨cq, hcq, hcq2⟩ : ∃ cq, zcl[ci]? = some cq ∧ cq.1 = (zy g).cls := by
    cases h : zcl[ci]? with
    | none => rw [h] at hci; cases hci
    | some cq => rw [h] at hci; exact ⟨cq, rfl, Option.some.inj hci⟩
  have hrecv := va_recv hK hW.1 hcq (zw_obj hgq)
  rw [hcq2] at hrecv
  have hins := hg.spec.2.2.2.2.1 hsg
  refine z_go (va_runV (As := vs.map (cv ad)) (rest := r.map (cv ad)) (Ts := zws) ⟨hx, hb, hml, hown, hts⟩ hMet ⟨z_cb C hg (zhas_mem hl) hfr hlo, hts _ hins.1, hts _ hins.2⟩ ⟨z_blind, hrecv, fun U hU hWm => ⟨rfl, by rw [hU], by rw [hU]; exact hW.1, va_K.moved hWm.alike hK, hW.2.1.weaken (fun _ _ _ _ => trivial)⟩⟩ rfl (by simpa using hn) hL.1 rfl (lv_room (zcat_small8 hr4)) hd ⟨by simpa using hc, by simpa using hsl⟩) hW.2.2.1 (fun q _ h => hFc q h) hFc (fun t H1 locs1 ht hB hS1 => ?_)
  rw [z_toL]
  refine k p l e R s m args below meth c cells slots Q D tys ad dA A C hY hfr hlo hc hsl hP hret H1 locs1 ls ⟨by rw [← ht]; exact hB.1, zD_row hW.2.1, hS1, hB.2.1⟩ hL ?_
  intro w hw
  rcases List.mem_append.mp hw with h | h
  · exact hB.2.2 w h
  · exact hgr w h
end ZCalls8
def f_X0_lossOf (q : Nat) (a1 : Int) (M : AM) : Option (Int × AM) := if 0 ≤ a1 ∧ a1 < 6 then (if ¬ M (q + 1) (Int.toNat a1) = (-1) then some (2, M) else some (1, M)) else none
theorem e_X0_lossOf {Y : List (Nat × Nat)} (d : Nat) (q : Nat) (a1 : Int) (M : AM) (x : Int) (N : AM) (h : f_X0_lossOf q a1 M = some (x, N)) : Ev Y (d + 0) m_X0_lossOf 0 [some (vR q 10 0), some (vI a1)] [] M (some (vI x)) N := by
  unfold f_X0_lossOf at h
  refine Z_blk k_X0_lossOf 3 (pc' := 5) (lo' := [some (vR q 10 0), some (vI a1)]) (st' := [vI a1, vR (q + 1) 0 6]) (M1 := M) rfl ?_
  obtain ⟨hc1, h⟩ := of_grd h
  refine Z_one k_X0_lossOf rfl (pc' := 6) (lo' := [some (vR q 10 0), some (vI a1)]) (st' := [vI (M (q + 1) (Int.toNat a1))]) (M1 := M) (if_pos hc1) ?_
  refine Z_blk k_X0_lossOf 1 (pc' := 7) (lo' := [some (vR q 10 0), some (vI a1)]) (st' := [vI (-1), vI (M (q + 1) (Int.toNat a1))]) (M1 := M) rfl ?_
  refine Z_icmp k_X0_lossOf rfl 14 rfl (fun hc => ?_) (fun hc => ?_)
  · replace h := of_pos hc h
    refine Z_blk k_X0_lossOf 1 (pc' := 15) (lo' := [some (vR q 10 0), some (vI a1)]) (st' := [vI 2]) (M1 := M) rfl ?_
    cases h
    exact Z_ret ⟨Or.inl rfl, _, rfl⟩ rfl
  · replace h := of_neg hc h
    refine Z_blk k_X0_lossOf 2 (pc' := 15) (lo' := [some (vR q 10 0), some (vI a1)]) (st' := [vI 1]) (M1 := M) rfl ?_
    cases h
    exact Z_ret ⟨Or.inl rfl, _, rfl⟩ rfl
def f_X1_isHolding (q : Nat) (a1 : Int) (M : AM) : Option (Int × AM) := if o_and (o_shr (M q 8) a1) 1 = 0 then some (0, M) else some (1, M)
theorem e_X1_isHolding {Y : List (Nat × Nat)} (d : Nat) (q : Nat) (a1 : Int) (M : AM) (x : Int) (N : AM) (h : f_X1_isHolding q a1 M = some (x, N)) : Ev Y (d + 0) m_X1_isHolding 0 [some (vR q 11 0), some (vI a1)] [] M (some (vI x)) N := by
  unfold f_X1_isHolding at h
  refine Z_blk k_X1_isHolding 6 (pc' := 8) (lo' := [some (vR q 11 0), some (vI a1)]) (st' := [vI (o_and (o_shr (M q 8) a1) 1)]) (M1 := M) rfl ?_
  refine Z_if k_X1_isHolding rfl 15 rfl (fun hc => ?_) (fun hc => ?_)
  · replace h := of_pos hc h
    refine Z_blk k_X1_isHolding 1 (pc' := 16) (lo' := [some (vR q 11 0), some (vI a1)]) (st' := [vI 0]) (M1 := M) rfl ?_
    cases h
    exact Z_ret ⟨Or.inr ⟨rfl, Or.inl rfl⟩, _, rfl⟩ rfl
  · replace h := of_neg hc h
    refine Z_blk k_X1_isHolding 2 (pc' := 16) (lo' := [some (vR q 11 0), some (vI a1)]) (st' := [vI 1]) (M1 := M) rfl ?_
    cases h
    exact Z_ret ⟨Or.inr ⟨rfl, Or.inr rfl⟩, _, rfl⟩ rfl
def f_X1_isWhole (q : Nat) (a1 : Int) (M : AM) : Option (Int × AM) := if o_and (o_shr (M q 7) a1) 1 = 0 then some (0, M) else some (1, M)
theorem e_X1_isWhole {Y : List (Nat × Nat)} (d : Nat) (q : Nat) (a1 : Int) (M : AM) (x : Int) (N : AM) (h : f_X1_isWhole q a1 M = some (x, N)) : Ev Y (d + 0) m_X1_isWhole 0 [some (vR q 11 0), some (vI a1)] [] M (some (vI x)) N := by
  unfold f_X1_isWhole at h
  refine Z_blk k_X1_isWhole 6 (pc' := 8) (lo' := [some (vR q 11 0), some (vI a1)]) (st' := [vI (o_and (o_shr (M q 7) a1) 1)]) (M1 := M) rfl ?_
  refine Z_if k_X1_isWhole rfl 15 rfl (fun hc => ?_) (fun hc => ?_)
  · replace h := of_pos hc h
    refine Z_blk k_X1_isWhole 1 (pc' := 16) (lo' := [some (vR q 11 0), some (vI a1)]) (st' := [vI 0]) (M1 := M) rfl ?_
    cases h
    exact Z_ret ⟨Or.inr ⟨rfl, Or.inl rfl⟩, _, rfl⟩ rfl
  · replace h := of_neg hc h
    refine Z_blk k_X1_isWhole 2 (pc' := 16) (lo' := [some (vR q 11 0), some (vI a1)]) (st' := [vI 1]) (M1 := M) rfl ?_
    cases h
    exact Z_ret ⟨Or.inr ⟨rfl, Or.inr rfl⟩, _, rfl⟩ rfl
theorem l_1_87 : zhas 4107 (Jvm.Cond.methodLink "BellPullHouse$House" 87 yX1_isWhole) = true := by decide +kernel
def f_X1_isStretching_2 : Nat → Nat → Int → AM → Option (Int × AM)
  | 0, _, _, _ => none
  | n + 1, q, a1, M => if M q 3 ≤ a1 then some (0, M) else (if M q 6 = 0 then f_X1_isStretching_2 n q (o_add a1 1) M else ((f_X1_isWhole q a1 M).bind fun x1 => if x1.1 = 0 then f_X1_isStretching_2 n q (o_add a1 1) x1.2 else (if 0 ≤ a1 ∧ a1 < 10 then (if 9 ≤ x1.2 (q + 3) (Int.toNat a1) then f_X1_isStretching_2 n q (o_add a1 1) x1.2 else some (1, x1.2)) else none)))
theorem e_X1_isStretching_2 {Y : List (Nat × Nat)} (d : Nat) : ∀ (n : Nat) (q : Nat) (a1 : Int) (M : AM) (x : Int) (N : AM), f_X1_isStretching_2 n q a1 M = some (x, N) → Ev Y (d + 1) m_X1_isStretching 2 [some (vR q 11 0), some (vI a1)] [] M (some (vI x)) N := by
  intro n
  induction n with
  | zero => intro q a1 M x N h; cases h
  | succ n ih =>
    intro q a1 M x N h
    simp only [f_X1_isStretching_2] at h
    refine Z_blk k_X1_isStretching 3 (pc' := 7) (lo' := [some (vR q 11 0), some (vI a1)]) (st' := [vI (M q 3), vI a1]) (M1 := M) rfl ?_
    refine Z_icmp k_X1_isStretching rfl 44 rfl (fun hc => ?_) (fun hc => ?_)
    · replace h := of_pos hc h
      refine Z_blk k_X1_isStretching 1 (pc' := 45) (lo' := [some (vR q 11 0), some (vI a1)]) (st' := [vI 0]) (M1 := M) rfl ?_
      cases h
      exact Z_ret ⟨Or.inr ⟨rfl, Or.inl rfl⟩, _, rfl⟩ rfl
    · replace h := of_neg hc h
      refine Z_blk k_X1_isStretching 2 (pc' := 14) (lo' := [some (vR q 11 0), some (vI a1)]) (st' := [vI (M q 6)]) (M1 := M) rfl ?_
      refine Z_if k_X1_isStretching rfl 38 rfl (fun hc => ?_) (fun hc => ?_)
      · replace h := of_pos hc h
        refine Z_blk k_X1_isStretching 2 (pc' := 2) (lo' := [some (vR q 11 0), some (vI (o_add a1 1))]) (st' := []) (M1 := M) rfl ?_
        refine Z_mask [true, true] (lo0 := [some (vR q 11 0), some (vI (o_add a1 1))]) rfl ?_
        exact ih q (o_add a1 1) M _ _ h
      · replace h := of_neg hc h
        refine Z_blk k_X1_isStretching 2 (pc' := 19) (lo' := [some (vR q 11 0), some (vI a1)]) (st' := [vI a1, vR q 11 0]) (M1 := M) rfl ?_
        obtain ⟨x1, hx1, h⟩ := Option.bind_eq_some_iff.mp h
        refine Z_callV8 k_X1_isStretching k_X1_isWhole rfl rfl (l_1_87) (ci := 1) rfl [vI a1] [] rfl rfl (Nat.le_of_ble_eq_true rfl) (Nat.le_of_ble_eq_true rfl) (e_X1_isWhole (d + 0) q a1 M _ _ hx1) ?_
        refine Z_if k_X1_isStretching rfl 38 rfl (fun hc => ?_) (fun hc => ?_)
        · replace h := of_pos hc h
          refine Z_blk k_X1_isStretching 2 (pc' := 2) (lo' := [some (vR q 11 0), some (vI (o_add a1 1))]) (st' := []) (M1 := x1.2) rfl ?_
          refine Z_mask [true, true] (lo0 := [some (vR q 11 0), some (vI (o_add a1 1))]) rfl ?_
          exact ih q (o_add a1 1) x1.2 _ _ h
        · replace h := of_neg hc h
          refine Z_blk k_X1_isStretching 3 (pc' := 30) (lo' := [some (vR q 11 0), some (vI a1)]) (st' := [vI a1, vR (q + 3) 0 10]) (M1 := x1.2) rfl ?_
          obtain ⟨hc2, h⟩ := of_grd h
          refine Z_one k_X1_isStretching rfl (pc' := 31) (lo' := [some (vR q 11 0), some (vI a1)]) (st' := [vI (x1.2 (q + 3) (Int.toNat a1))]) (M1 := x1.2) (if_pos hc2) ?_
          refine Z_blk k_X1_isStretching 1 (pc' := 33) (lo' := [some (vR q 11 0), some (vI a1)]) (st' := [vI 9, vI (x1.2 (q + 3) (Int.toNat a1))]) (M1 := x1.2) rfl ?_
          refine Z_icmp k_X1_isStretching rfl 38 rfl (fun hc => ?_) (fun hc => ?_)
          · replace h := of_pos hc h
            refine Z_blk k_X1_isStretching 2 (pc' := 2) (lo' := [some (vR q 11 0), some (vI (o_add a1 1))]) (st' := []) (M1 := x1.2) rfl ?_
            refine Z_mask [true, true] (lo0 := [some (vR q 11 0), some (vI (o_add a1 1))]) rfl ?_
            exact ih q (o_add a1 1) x1.2 _ _ h
          · replace h := of_neg hc h
            refine Z_blk k_X1_isStretching 1 (pc' := 37) (lo' := [some (vR q 11 0), some (vI a1)]) (st' := [vI 1]) (M1 := x1.2) rfl ?_
            cases h
            exact Z_ret ⟨Or.inr ⟨rfl, Or.inr rfl⟩, _, rfl⟩ rfl
def f_X1_isStretching (q : Nat) (M : AM) : Option (Int × AM) := f_X1_isStretching_2 zB q 0 M
theorem e_X1_isStretching {Y : List (Nat × Nat)} (d : Nat) (q : Nat) (M : AM) (x : Int) (N : AM) (h : f_X1_isStretching q M = some (x, N)) : Ev Y (d + 1) m_X1_isStretching 0 [some (vR q 11 0), none] [] M (some (vI x)) N := by
  unfold f_X1_isStretching at h
  refine Z_blk k_X1_isStretching 2 (pc' := 2) (lo' := [some (vR q 11 0), some (vI 0)]) (st' := []) (M1 := M) rfl ?_
  refine Z_mask [true, true] (lo0 := [some (vR q 11 0), some (vI 0)]) rfl ?_
  exact e_X1_isStretching_2 d zB q 0 M _ _ h
theorem l_0_28 : zhas 4093 (Jvm.Cond.methodLink "BellPullHouse$Days" 28 yX1_isHolding) = true := by decide +kernel
theorem l_0_48 : zhas 4103 (Jvm.Cond.methodLink "BellPullHouse$Days" 48 yX1_isStretching) = true := by decide +kernel
theorem l_0_55 : zhas 4108 (Jvm.Cond.methodLink "BellPullHouse$Days" 55 yX0_lossOf) = true := by decide +kernel
def f_X0_alikeDays_14 : Nat → Nat → Nat → Int → Int → AM → Option (Int × AM)
  | 0, _, _, _, _, _ => none
  | n + 1, q, b1, a3, a4, M => if M b1 4 ≤ a4 then some (a3, M) else ((f_X1_isHolding b1 a4 M).bind fun x1 => if x1.1 = 0 then f_X0_alikeDays_14 n q b1 a3 (o_add a4 1) x1.2 else (if 0 ≤ a4 ∧ a4 < 6 then (if x1.2 (q + 1) (Int.toNat a4) = a4 then f_X0_alikeDays_14 n q b1 a3 (o_add a4 1) x1.2 else ((f_X0_lossOf q a4 x1.2).bind fun x3 => if x3.1 ≠ 0 then (zlet (o_min a3 (o_div (o_sub (o_add (x3.2 (b1 + 6) (Int.toNat a4)) x3.1) 1) x3.1)) fun v5 => f_X0_alikeDays_14 n q b1 v5 (o_add a4 1) x3.2) else none)) else none))
theorem e_X0_alikeDays_14 {Y : List (Nat × Nat)} (d : Nat) : ∀ (n : Nat) (q : Nat) (b1 : Nat) (a3 : Int) (a4 : Int) (M : AM) (x : Int) (N : AM), f_X0_alikeDays_14 n q b1 a3 a4 M = some (x, N) → Ev Y (d + 2) m_X0_alikeDays 14 [some (vR q 10 0), some (vR b1 11 0), none, some (vI a3), some (vI a4), none] [] M (some (vI x)) N := by
  intro n
  induction n with
  | zero => intro q b1 a3 a4 M x N h; cases h
  | succ n ih =>
    intro q b1 a3 a4 M x N h
    simp only [f_X0_alikeDays_14] at h
    refine Z_blk k_X0_alikeDays 3 (pc' := 20) (lo' := [some (vR q 10 0), some (vR b1 11 0), none, some (vI a3), some (vI a4), none]) (st' := [vI (M b1 4), vI a4]) (M1 := M) rfl ?_
    refine Z_icmp k_X0_alikeDays rfl 78 rfl (fun hc => ?_) (fun hc => ?_)
    · replace h := of_pos hc h
      refine Z_blk k_X0_alikeDays 1 (pc' := 79) (lo' := [some (vR q 10 0), some (vR b1 11 0), none, some (vI a3), some (vI a4), none]) (st' := [vI a3]) (M1 := M) rfl ?_
      cases h
      exact Z_ret ⟨Or.inl rfl, _, rfl⟩ rfl
    · replace h := of_neg hc h
      refine Z_blk k_X0_alikeDays 2 (pc' := 26) (lo' := [some (vR q 10 0), some (vR b1 11 0), none, some (vI a3), some (vI a4), none]) (st' := [vI a4, vR b1 11 0]) (M1 := M) rfl ?_
      obtain ⟨x1, hx1, h⟩ := Option.bind_eq_some_iff.mp h
      refine Z_callV8 k_X0_alikeDays k_X1_isHolding rfl rfl (l_0_28) (ci := 1) rfl [vI a4] [] rfl rfl (Nat.le_of_ble_eq_true rfl) (Nat.le_of_ble_eq_true rfl) (e_X1_isHolding (d + 1) b1 a4 M _ _ hx1) ?_
      refine Z_if k_X0_alikeDays rfl 72 rfl (fun hc => ?_) (fun hc => ?_)
      · replace h := of_pos hc h
        refine Z_blk k_X0_alikeDays 2 (pc' := 14) (lo' := [some (vR q 10 0), some (vR b1 11 0), none, some (vI a3), some (vI (o_add a4 1)), none]) (st' := []) (M1 := x1.2) rfl ?_
        refine Z_mask [true, true, false, true, true, false] (lo0 := [some (vR q 10 0), some (vR b1 11 0), none, some (vI a3), some (vI (o_add a4 1)), none]) rfl ?_
        exact ih q b1 a3 (o_add a4 1) x1.2 _ _ h
      · replace h := of_neg hc h
        refine Z_blk k_X0_alikeDays 3 (pc' := 38) (lo' := [some (vR q 10 0), some (vR b1 11 0), none, some (vI a3), some (vI a4), none]) (st' := [vI a4, vR (q + 1) 0 6]) (M1 := x1.2) rfl ?_
        obtain ⟨hc2, h⟩ := of_grd h
        refine Z_one k_X0_alikeDays rfl (pc' := 39) (lo' := [some (vR q 10 0), some (vR b1 11 0), none, some (vI a3), some (vI a4), none]) (st' := [vI (x1.2 (q + 1) (Int.toNat a4))]) (M1 := x1.2) (if_pos hc2) ?_
        refine Z_blk k_X0_alikeDays 1 (pc' := 41) (lo' := [some (vR q 10 0), some (vR b1 11 0), none, some (vI a3), some (vI a4), none]) (st' := [vI a4, vI (x1.2 (q + 1) (Int.toNat a4))]) (M1 := x1.2) rfl ?_
        refine Z_icmp k_X0_alikeDays rfl 72 rfl (fun hc => ?_) (fun hc => ?_)
        · replace h := of_pos hc h
          refine Z_blk k_X0_alikeDays 2 (pc' := 14) (lo' := [some (vR q 10 0), some (vR b1 11 0), none, some (vI a3), some (vI (o_add a4 1)), none]) (st' := []) (M1 := x1.2) rfl ?_
          refine Z_mask [true, true, false, true, true, false] (lo0 := [some (vR q 10 0), some (vR b1 11 0), none, some (vI a3), some (vI (o_add a4 1)), none]) rfl ?_
          exact ih q b1 a3 (o_add a4 1) x1.2 _ _ h
        · replace h := of_neg hc h
          refine Z_blk k_X0_alikeDays 2 (pc' := 47) (lo' := [some (vR q 10 0), some (vR b1 11 0), none, some (vI a3), some (vI a4), none]) (st' := [vI a4, vR q 10 0]) (M1 := x1.2) rfl ?_
          obtain ⟨x3, hx3, h⟩ := Option.bind_eq_some_iff.mp h
          refine Z_callV8 k_X0_alikeDays k_X0_lossOf rfl rfl (l_0_55) (ci := 0) rfl [vI a4] [] rfl rfl (Nat.le_of_ble_eq_true rfl) (Nat.le_of_ble_eq_true rfl) (e_X0_lossOf (d + 1) q a4 x1.2 _ _ hx3) ?_
          refine Z_blk k_X0_alikeDays 5 (pc' := 59) (lo' := [some (vR q 10 0), some (vR b1 11 0), none, some (vI a3), some (vI a4), some (vI x3.1)]) (st' := [vI a4, vR (b1 + 6) 0 6, vI a3]) (M1 := x3.2) rfl ?_
          refine Z_one k_X0_alikeDays rfl (pc' := 60) (lo' := [some (vR q 10 0), some (vR b1 11 0), none, some (vI a3), some (vI a4), some (vI x3.1)]) (st' := [vI (x3.2 (b1 + 6) (Int.toNat a4)), vI a3]) (M1 := x3.2) (if_pos hc2) ?_
          refine Z_blk k_X0_alikeDays 5 (pc' := 67) (lo' := [some (vR q 10 0), some (vR b1 11 0), none, some (vI a3), some (vI a4), some (vI x3.1)]) (st' := [vI x3.1, vI (o_sub (o_add (x3.2 (b1 + 6) (Int.toNat a4)) x3.1) 1), vI a3]) (M1 := x3.2) rfl ?_
          obtain ⟨hc4, h⟩ := of_grd h
          refine Z_one k_X0_alikeDays rfl (pc' := 68) (lo' := [some (vR q 10 0), some (vR b1 11 0), none, some (vI a3), some (vI a4), some (vI x3.1)]) (st' := [vI (o_div (o_sub (o_add (x3.2 (b1 + 6) (Int.toNat a4)) x3.1) 1) x3.1), vI a3]) (M1 := x3.2) (if_pos hc4) ?_
          obtain ⟨v5, ev5, h⟩ := of_zlet h
          refine Z_blk k_X0_alikeDays 2 (pc' := 72) (lo' := [some (vR q 10 0), some (vR b1 11 0), none, some (vI v5), some (vI a4), some (vI x3.1)]) (st' := []) (M1 := x3.2) (by rw [ev5]; rfl) ?_
          refine Z_blk k_X0_alikeDays 2 (pc' := 14) (lo' := [some (vR q 10 0), some (vR b1 11 0), none, some (vI v5), some (vI (o_add a4 1)), some (vI x3.1)]) (st' := []) (M1 := x3.2) rfl ?_
          refine Z_mask [true, true, false, true, true, false] (lo0 := [some (vR q 10 0), some (vR b1 11 0), none, some (vI v5), some (vI (o_add a4 1)), none]) rfl ?_
          exact ih q b1 v5 (o_add a4 1) x3.2 _ _ h
def f_X0_alikeDays (q : Nat) (b1 : Nat) (a2 : Int) (M : AM) : Option (Int × AM) := (f_X1_isStretching b1 M).bind fun x1 => if x1.1 = 0 then f_X0_alikeDays_14 zB q b1 a2 0 x1.2 else some (1, x1.2)
theorem e_X0_alikeDays {Y : List (Nat × Nat)} (d : Nat) (q : Nat) (b1 : Nat) (a2 : Int) (M : AM) (x : Int) (N : AM) (h : f_X0_alikeDays q b1 a2 M = some (x, N)) : Ev Y (d + 2) m_X0_alikeDays 0 [some (vR q 10 0), some (vR b1 11 0), some (vI a2), none, none, none] [] M (some (vI x)) N := by
  unfold f_X0_alikeDays at h
  refine Z_blk k_X0_alikeDays 1 (pc' := 1) (lo' := [some (vR q 10 0), some (vR b1 11 0), some (vI a2), none, none, none]) (st' := [vR b1 11 0]) (M1 := M) rfl ?_
  obtain ⟨x1, hx1, h⟩ := Option.bind_eq_some_iff.mp h
  refine Z_callV8 k_X0_alikeDays k_X1_isStretching rfl rfl (l_0_48) (ci := 1) rfl [] [] rfl rfl (Nat.le_of_ble_eq_true rfl) (Nat.le_of_ble_eq_true rfl) (e_X1_isStretching (d + 0) b1 M _ _ hx1) ?_
  refine Z_if k_X0_alikeDays rfl 9 rfl (fun hc => ?_) (fun hc => ?_)
  · replace h := of_pos hc h
    refine Z_blk k_X0_alikeDays 4 (pc' := 14) (lo' := [some (vR q 10 0), some (vR b1 11 0), some (vI a2), some (vI a2), some (vI 0), none]) (st' := []) (M1 := x1.2) rfl ?_
    refine Z_mask [true, true, false, true, true, false] (lo0 := [some (vR q 10 0), some (vR b1 11 0), none, some (vI a2), some (vI 0), none]) rfl ?_
    exact e_X0_alikeDays_14 d zB q b1 a2 0 x1.2 _ _ h
  · replace h := of_neg hc h
    refine Z_blk k_X0_alikeDays 1 (pc' := 8) (lo' := [some (vR q 10 0), some (vR b1 11 0), some (vI a2), none, none, none]) (st' := [vI 1]) (M1 := x1.2) rfl ?_
    cases h
    exact Z_ret ⟨Or.inl rfl, _, rfl⟩ rfl
def f_X0_loveThrough_122 (k_5 : Nat → Nat → Int → Int → Int → AM → Option (Int × AM)) (q : Nat) (b1 : Nat) (a2 : Int) (a3 : Int) (a4 : Int) (M : AM) : Option (Int × AM) := if 0 ≤ a4 ∧ a4 < 6 then (if ¬ M (b1 + 6) (Int.toNat a4) = 0 then k_5 q b1 a2 a3 (o_add a4 1) M else (zlet (am_upd M b1 8 (o_and (M b1 8) (o_xor (o_shl 1 a4) (-1)))) fun M2 => k_5 q b1 a2 (o_or a3 (o_shl 1 a4)) (o_add a4 1) M2)) else none
theorem e_X0_loveThrough_122 {Y : List (Nat × Nat)} (d : Nat) (k_5 : Nat → Nat → Int → Int → Int → AM → Option (Int × AM)) (hk_5 : ∀ (q : Nat) (b1 : Nat) (a2 : Int) (a3 : Int) (a4 : Int) (M : AM) (x : Int) (N : AM), k_5 q b1 a2 a3 a4 M = some (x, N) → Ev Y (d + 1) m_X0_loveThrough 5 [some (vR q 10 0), some (vR b1 11 0), some (vI a2), some (vI a3), some (vI a4)] [] M (some (vI x)) N) (q : Nat) (b1 : Nat) (a2 : Int) (a3 : Int) (a4 : Int) (M : AM) (x : Int) (N : AM) (h : f_X0_loveThrough_122 k_5 q b1 a2 a3 a4 M = some (x, N)) : Ev Y (d + 1) m_X0_loveThrough 122 [some (vR q 10 0), some (vR b1 11 0), some (vI a2), some (vI a3), some (vI a4)] [] M (some (vI x)) N := by
  unfold f_X0_loveThrough_122 at h
  refine Z_blk k_X0_loveThrough 3 (pc' := 128) (lo' := [some (vR q 10 0), some (vR b1 11 0), some (vI a2), some (vI a3), some (vI a4)]) (st' := [vI a4, vR (b1 + 6) 0 6]) (M1 := M) rfl ?_
  obtain ⟨hc1, h⟩ := of_grd h
  refine Z_one k_X0_loveThrough rfl (pc' := 129) (lo' := [some (vR q 10 0), some (vR b1 11 0), some (vI a2), some (vI a3), some (vI a4)]) (st' := [vI (M (b1 + 6) (Int.toNat a4))]) (M1 := M) (if_pos hc1) ?_
  refine Z_if k_X0_loveThrough rfl 154 rfl (fun hc => ?_) (fun hc => ?_)
  · replace h := of_pos hc h
    refine Z_blk k_X0_loveThrough 2 (pc' := 5) (lo' := [some (vR q 10 0), some (vR b1 11 0), some (vI a2), some (vI a3), some (vI (o_add a4 1))]) (st' := []) (M1 := M) rfl ?_
    refine Z_mask [true, true, true, true, true] (lo0 := [some (vR q 10 0), some (vR b1 11 0), some (vI a2), some (vI a3), some (vI (o_add a4 1))]) rfl ?_
    exact hk_5 q b1 a2 a3 (o_add a4 1) M _ _ h
  · replace h := of_neg hc h
    obtain ⟨M2, eM2, h⟩ := of_zlet h
    refine Z_blk k_X0_loveThrough 10 (pc' := 147) (lo' := [some (vR q 10 0), some (vR b1 11 0), some (vI a2), some (vI a3), some (vI a4)]) (st' := []) (M1 := M2) (by rw [eM2]; rfl) ?_
    refine Z_blk k_X0_loveThrough 8 (pc' := 5) (lo' := [some (vR q 10 0), some (vR b1 11 0), some (vI a2), some (vI (o_or a3 (o_shl 1 a4))), some (vI (o_add a4 1))]) (st' := []) (M1 := M2) rfl ?_
    refine Z_mask [true, true, true, true, true] (lo0 := [some (vR q 10 0), some (vR b1 11 0), some (vI a2), some (vI (o_or a3 (o_shl 1 a4))), some (vI (o_add a4 1))]) rfl ?_
    exact hk_5 q b1 a2 (o_or a3 (o_shl 1 a4)) (o_add a4 1) M2 _ _ h
def f_X0_loveThrough_5 : Nat → Nat → Nat → Int → Int → Int → AM → Option (Int × AM)
  | 0, _, _, _, _, _, _ => none
  | n + 1, q, b1, a2, a3, a4, M => if M b1 4 ≤ a4 then some (a3, M) else ((f_X1_isHolding b1 a4 M).bind fun x1 => if ¬ x1.1 = 0 then (if 0 ≤ a4 ∧ a4 < 6 then (if ¬ x1.2 (q + 1) (Int.toNat a4) = a4 then ((f_X0_lossOf q a4 x1.2).bind fun x3 => zlet (am_upd x3.2 (b1 + 6) (Int.toNat a4) (o_max 0 (o_sub (x1.2 (b1 + 6) (Int.toNat a4)) (o_mul a2 x3.1)))) fun M4 => if M4 (q + 1) (Int.toNat a4) = (-1) then f_X0_loveThrough_122 (f_X0_loveThrough_5 n) q b1 a2 a3 a4 M4 else (zlet (am_upd M4 (b1 + 8) (Int.toNat a4) (o_add (M4 (b1 + 8) (Int.toNat a4)) a2)) fun M5 => f_X0_loveThrough_122 (f_X0_loveThrough_5 n) q b1 a2 a3 a4 M5)) else (zlet (am_upd x1.2 (b1 + 6) (Int.toNat a4) (o_min 9 (o_add (x1.2 (b1 + 6) (Int.toNat a4)) a2))) fun M6 => zlet (am_upd M6 (b1 + 7) (Int.toNat a4) (o_add (M6 (b1 + 7) (Int.toNat a4)) a2)) fun M7 => f_X0_loveThrough_5 n q b1 a2 a3 (o_add a4 1) M7)) else none) else f_X0_loveThrough_5 n q b1 a2 a3 (o_add a4 1) x1.2)
theorem e_X0_loveThrough_5 {Y : List (Nat × Nat)} (d : Nat) : ∀ (n : Nat) (q : Nat) (b1 : Nat) (a2 : Int) (a3 : Int) (a4 : Int) (M : AM) (x : Int) (N : AM), f_X0_loveThrough_5 n q b1 a2 a3 a4 M = some (x, N) → Ev Y (d + 1) m_X0_loveThrough 5 [some (vR q 10 0), some (vR b1 11 0), some (vI a2), some (vI a3), some (vI a4)] [] M (some (vI x)) N := by
  intro n
  induction n with
  | zero => intro q b1 a2 a3 a4 M x N h; cases h
  | succ n ih =>
    intro q b1 a2 a3 a4 M x N h
    simp only [f_X0_loveThrough_5] at h
    refine Z_blk k_X0_loveThrough 3 (pc' := 11) (lo' := [some (vR q 10 0), some (vR b1 11 0), some (vI a2), some (vI a3), some (vI a4)]) (st' := [vI (M b1 4), vI a4]) (M1 := M) rfl ?_
    refine Z_icmp k_X0_loveThrough rfl 160 rfl (fun hc => ?_) (fun hc => ?_)
    · replace h := of_pos hc h
      refine Z_blk k_X0_loveThrough 1 (pc' := 161) (lo' := [some (vR q 10 0), some (vR b1 11 0), some (vI a2), some (vI a3), some (vI a4)]) (st' := [vI a3]) (M1 := M) rfl ?_
      cases h
      exact Z_ret ⟨Or.inl rfl, _, rfl⟩ rfl
    · replace h := of_neg hc h
      refine Z_blk k_X0_loveThrough 2 (pc' := 17) (lo' := [some (vR q 10 0), some (vR b1 11 0), some (vI a2), some (vI a3), some (vI a4)]) (st' := [vI a4, vR b1 11 0]) (M1 := M) rfl ?_
      obtain ⟨x1, hx1, h⟩ := Option.bind_eq_some_iff.mp h
      refine Z_callV8 k_X0_loveThrough k_X1_isHolding rfl rfl (l_0_28) (ci := 1) rfl [vI a4] [] rfl rfl (Nat.le_of_ble_eq_true rfl) (Nat.le_of_ble_eq_true rfl) (e_X1_isHolding (d + 0) b1 a4 M _ _ hx1) ?_
      refine Z_if k_X0_loveThrough rfl 26 rfl (fun hc => ?_) (fun hc => ?_)
      · replace h := of_pos hc h
        refine Z_blk k_X0_loveThrough 3 (pc' := 32) (lo' := [some (vR q 10 0), some (vR b1 11 0), some (vI a2), some (vI a3), some (vI a4)]) (st' := [vI a4, vR (q + 1) 0 6]) (M1 := x1.2) rfl ?_
        obtain ⟨hc2, h⟩ := of_grd h
        refine Z_one k_X0_loveThrough rfl (pc' := 33) (lo' := [some (vR q 10 0), some (vR b1 11 0), some (vI a2), some (vI a3), some (vI a4)]) (st' := [vI (x1.2 (q + 1) (Int.toNat a4))]) (M1 := x1.2) (if_pos hc2) ?_
        refine Z_blk k_X0_loveThrough 1 (pc' := 35) (lo' := [some (vR q 10 0), some (vR b1 11 0), some (vI a2), some (vI a3), some (vI a4)]) (st' := [vI a4, vI (x1.2 (q + 1) (Int.toNat a4))]) (M1 := x1.2) rfl ?_
        refine Z_icmp k_X0_loveThrough rfl 73 rfl (fun hc => ?_) (fun hc => ?_)
        · replace h := of_pos hc h
          refine Z_blk k_X0_loveThrough 7 (pc' := 86) (lo' := [some (vR q 10 0), some (vR b1 11 0), some (vI a2), some (vI a3), some (vI a4)]) (st' := [vI a4, vR (b1 + 6) 0 6, vI 0, vI a4, vR (b1 + 6) 0 6]) (M1 := x1.2) rfl ?_
          refine Z_one k_X0_loveThrough rfl (pc' := 87) (lo' := [some (vR q 10 0), some (vR b1 11 0), some (vI a2), some (vI a3), some (vI a4)]) (st' := [vI (x1.2 (b1 + 6) (Int.toNat a4)), vI 0, vI a4, vR (b1 + 6) 0 6]) (M1 := x1.2) (if_pos hc2) ?_
          refine Z_blk k_X0_loveThrough 3 (pc' := 91) (lo' := [some (vR q 10 0), some (vR b1 11 0), some (vI a2), some (vI a3), some (vI a4)]) (st' := [vI a4, vR q 10 0, vI a2, vI (x1.2 (b1 + 6) (Int.toNat a4)), vI 0, vI a4, vR (b1 + 6) 0 6]) (M1 := x1.2) rfl ?_
          obtain ⟨x3, hx3, h⟩ := Option.bind_eq_some_iff.mp h
          refine Z_callV8 k_X0_loveThrough k_X0_lossOf rfl rfl (l_0_55) (ci := 0) rfl [vI a4] [vI a2, vI (x1.2 (b1 + 6) (Int.toNat a4)), vI 0, vI a4, vR (b1 + 6) 0 6] rfl rfl (Nat.le_of_ble_eq_true rfl) (Nat.le_of_ble_eq_true rfl) (e_X0_lossOf (d + 0) q a4 x1.2 _ _ hx3) ?_
          refine Z_blk k_X0_loveThrough 3 (pc' := 99) (lo' := [some (vR q 10 0), some (vR b1 11 0), some (vI a2), some (vI a3), some (vI a4)]) (st' := [vI (o_max 0 (o_sub (x1.2 (b1 + 6) (Int.toNat a4)) (o_mul a2 x3.1))), vI a4, vR (b1 + 6) 0 6]) (M1 := x3.2) rfl ?_
          obtain ⟨M4, eM4, h⟩ := of_zlet h
          refine Z_one k_X0_loveThrough rfl (pc' := 100) (lo' := [some (vR q 10 0), some (vR b1 11 0), some (vI a2), some (vI a3), some (vI a4)]) (st' := []) (M1 := M4) (by rw [eM4]; exact if_pos hc2) ?_
          refine Z_blk k_X0_loveThrough 3 (pc' := 106) (lo' := [some (vR q 10 0), some (vR b1 11 0), some (vI a2), some (vI a3), some (vI a4)]) (st' := [vI a4, vR (q + 1) 0 6]) (M1 := M4) rfl ?_
          refine Z_one k_X0_loveThrough rfl (pc' := 107) (lo' := [some (vR q 10 0), some (vR b1 11 0), some (vI a2), some (vI a3), some (vI a4)]) (st' := [vI (M4 (q + 1) (Int.toNat a4))]) (M1 := M4) (if_pos hc2) ?_
          refine Z_blk k_X0_loveThrough 1 (pc' := 108) (lo' := [some (vR q 10 0), some (vR b1 11 0), some (vI a2), some (vI a3), some (vI a4)]) (st' := [vI (-1), vI (M4 (q + 1) (Int.toNat a4))]) (M1 := M4) rfl ?_
          refine Z_icmp k_X0_loveThrough rfl 122 rfl (fun hc => ?_) (fun hc => ?_)
          · replace h := of_pos hc h
            refine Z_mask [true, true, true, true, true] (lo0 := [some (vR q 10 0), some (vR b1 11 0), some (vI a2), some (vI a3), some (vI a4)]) rfl ?_
            exact e_X0_loveThrough_122 d (f_X0_loveThrough_5 n) ih q b1 a2 a3 a4 M4 _ _ h
          · replace h := of_neg hc h
            refine Z_blk k_X0_loveThrough 4 (pc' := 118) (lo' := [some (vR q 10 0), some (vR b1 11 0), some (vI a2), some (vI a3), some (vI a4)]) (st' := [vI a4, vR (b1 + 8) 0 6, vI a4, vR (b1 + 8) 0 6]) (M1 := M4) rfl ?_
            refine Z_one k_X0_loveThrough rfl (pc' := 119) (lo' := [some (vR q 10 0), some (vR b1 11 0), some (vI a2), some (vI a3), some (vI a4)]) (st' := [vI (M4 (b1 + 8) (Int.toNat a4)), vI a4, vR (b1 + 8) 0 6]) (M1 := M4) (if_pos hc2) ?_
            refine Z_blk k_X0_loveThrough 2 (pc' := 121) (lo' := [some (vR q 10 0), some (vR b1 11 0), some (vI a2), some (vI a3), some (vI a4)]) (st' := [vI (o_add (M4 (b1 + 8) (Int.toNat a4)) a2), vI a4, vR (b1 + 8) 0 6]) (M1 := M4) rfl ?_
            obtain ⟨M5, eM5, h⟩ := of_zlet h
            refine Z_one k_X0_loveThrough rfl (pc' := 122) (lo' := [some (vR q 10 0), some (vR b1 11 0), some (vI a2), some (vI a3), some (vI a4)]) (st' := []) (M1 := M5) (by rw [eM5]; exact if_pos hc2) ?_
            refine Z_mask [true, true, true, true, true] (lo0 := [some (vR q 10 0), some (vR b1 11 0), some (vI a2), some (vI a3), some (vI a4)]) rfl ?_
            exact e_X0_loveThrough_122 d (f_X0_loveThrough_5 n) ih q b1 a2 a3 a4 M5 _ _ h
        · replace h := of_neg hc h
          refine Z_blk k_X0_loveThrough 7 (pc' := 52) (lo' := [some (vR q 10 0), some (vR b1 11 0), some (vI a2), some (vI a3), some (vI a4)]) (st' := [vI a4, vR (b1 + 6) 0 6, vI 9, vI a4, vR (b1 + 6) 0 6]) (M1 := x1.2) rfl ?_
          refine Z_one k_X0_loveThrough rfl (pc' := 53) (lo' := [some (vR q 10 0), some (vR b1 11 0), some (vI a2), some (vI a3), some (vI a4)]) (st' := [vI (x1.2 (b1 + 6) (Int.toNat a4)), vI 9, vI a4, vR (b1 + 6) 0 6]) (M1 := x1.2) (if_pos hc2) ?_
          refine Z_blk k_X0_loveThrough 3 (pc' := 58) (lo' := [some (vR q 10 0), some (vR b1 11 0), some (vI a2), some (vI a3), some (vI a4)]) (st' := [vI (o_min 9 (o_add (x1.2 (b1 + 6) (Int.toNat a4)) a2)), vI a4, vR (b1 + 6) 0 6]) (M1 := x1.2) rfl ?_
          obtain ⟨M6, eM6, h⟩ := of_zlet h
          refine Z_one k_X0_loveThrough rfl (pc' := 59) (lo' := [some (vR q 10 0), some (vR b1 11 0), some (vI a2), some (vI a3), some (vI a4)]) (st' := []) (M1 := M6) (by rw [eM6]; exact if_pos hc2) ?_
          refine Z_blk k_X0_loveThrough 4 (pc' := 66) (lo' := [some (vR q 10 0), some (vR b1 11 0), some (vI a2), some (vI a3), some (vI a4)]) (st' := [vI a4, vR (b1 + 7) 0 6, vI a4, vR (b1 + 7) 0 6]) (M1 := M6) rfl ?_
          refine Z_one k_X0_loveThrough rfl (pc' := 67) (lo' := [some (vR q 10 0), some (vR b1 11 0), some (vI a2), some (vI a3), some (vI a4)]) (st' := [vI (M6 (b1 + 7) (Int.toNat a4)), vI a4, vR (b1 + 7) 0 6]) (M1 := M6) (if_pos hc2) ?_
          refine Z_blk k_X0_loveThrough 2 (pc' := 69) (lo' := [some (vR q 10 0), some (vR b1 11 0), some (vI a2), some (vI a3), some (vI a4)]) (st' := [vI (o_add (M6 (b1 + 7) (Int.toNat a4)) a2), vI a4, vR (b1 + 7) 0 6]) (M1 := M6) rfl ?_
          obtain ⟨M7, eM7, h⟩ := of_zlet h
          refine Z_one k_X0_loveThrough rfl (pc' := 70) (lo' := [some (vR q 10 0), some (vR b1 11 0), some (vI a2), some (vI a3), some (vI a4)]) (st' := []) (M1 := M7) (by rw [eM7]; exact if_pos hc2) ?_
          refine Z_blk k_X0_loveThrough 3 (pc' := 5) (lo' := [some (vR q 10 0), some (vR b1 11 0), some (vI a2), some (vI a3), some (vI (o_add a4 1))]) (st' := []) (M1 := M7) rfl ?_
          refine Z_mask [true, true, true, true, true] (lo0 := [some (vR q 10 0), some (vR b1 11 0), some (vI a2), some (vI a3), some (vI (o_add a4 1))]) rfl ?_
          exact ih q b1 a2 a3 (o_add a4 1) M7 _ _ h
      · replace h := of_neg hc h
        refine Z_blk k_X0_loveThrough 3 (pc' := 5) (lo' := [some (vR q 10 0), some (vR b1 11 0), some (vI a2), some (vI a3), some (vI (o_add a4 1))]) (st' := []) (M1 := x1.2) rfl ?_
        refine Z_mask [true, true, true, true, true] (lo0 := [some (vR q 10 0), some (vR b1 11 0), some (vI a2), some (vI a3), some (vI (o_add a4 1))]) rfl ?_
        exact ih q b1 a2 a3 (o_add a4 1) x1.2 _ _ h
def f_X0_loveThrough (q : Nat) (b1 : Nat) (a2 : Int) (M : AM) : Option (Int × AM) := f_X0_loveThrough_5 zB q b1 a2 0 0 M
theorem e_X0_loveThrough {Y : List (Nat × Nat)} (d : Nat) (q : Nat) (b1 : Nat) (a2 : Int) (M : AM) (x : Int) (N : AM) (h : f_X0_loveThrough q b1 a2 M = some (x, N)) : Ev Y (d + 1) m_X0_loveThrough 0 [some (vR q 10 0), some (vR b1 11 0), some (vI a2), none, none] [] M (some (vI x)) N := by
  unfold f_X0_loveThrough at h
  refine Z_blk k_X0_loveThrough 4 (pc' := 5) (lo' := [some (vR q 10 0), some (vR b1 11 0), some (vI a2), some (vI 0), some (vI 0)]) (st' := []) (M1 := M) rfl ?_
  refine Z_mask [true, true, true, true, true] (lo0 := [some (vR q 10 0), some (vR b1 11 0), some (vI a2), some (vI 0), some (vI 0)]) rfl ?_
  exact e_X0_loveThrough_5 d zB q b1 a2 0 0 M _ _ h
def f_J7_fill_53178_5 : Nat → Nat → Nat → Int → Int → Int → AM → Option (AM)
  | 0, _, _, _, _, _, _ => none
  | n + 1, a0, n0, a1, a2, a3, M => if a3 ≤ a2 then some M else (if 0 ≤ a2 ∧ a2 < ((n0 : Nat) : Int) then (zlet (am_upd M a0 (Int.toNat a2) a1) fun M2 => f_J7_fill_53178_5 n a0 n0 a1 (o_add a2 1) a3 M2) else none)
theorem e_J7_fill_53178_5 {Y : List (Nat × Nat)} (d : Nat) : ∀ (n : Nat) (a0 : Nat) (n0 : Nat) (a1 : Int) (a2 : Int) (a3 : Int) (M : AM) (N : AM), f_J7_fill_53178_5 n a0 n0 a1 a2 a3 M = some N → Ev Y (d + 0) m_J7_fill_53178 5 [some (vR a0 0 n0), some (vI a1), some (vI a2), some (vI a3)] [] M none N := by
  intro n
  induction n with
  | zero => intro a0 n0 a1 a2 a3 M N h; cases h
  | succ n ih =>
    intro a0 n0 a1 a2 a3 M N h
    simp only [f_J7_fill_53178_5] at h
    refine Z_blk k_J7_fill_53178 2 (pc' := 7) (lo' := [some (vR a0 0 n0), some (vI a1), some (vI a2), some (vI a3)]) (st' := [vI a3, vI a2]) (M1 := M) rfl ?_
    refine Z_icmp k_J7_fill_53178 rfl 20 rfl (fun hc => ?_) (fun hc => ?_)
    · replace h := of_pos hc h
      cases h
      exact Z_ret ⟨rfl, _, rfl⟩ rfl
    · replace h := of_neg hc h
      refine Z_blk k_J7_fill_53178 3 (pc' := 13) (lo' := [some (vR a0 0 n0), some (vI a1), some (vI a2), some (vI a3)]) (st' := [vI a1, vI a2, vR a0 0 n0]) (M1 := M) rfl ?_
      obtain ⟨hc1, h⟩ := of_grd h
      obtain ⟨M2, eM2, h⟩ := of_zlet h
      refine Z_one k_J7_fill_53178 rfl (pc' := 14) (lo' := [some (vR a0 0 n0), some (vI a1), some (vI a2), some (vI a3)]) (st' := []) (M1 := M2) (by rw [eM2]; exact if_pos hc1) ?_
      refine Z_blk k_J7_fill_53178 2 (pc' := 5) (lo' := [some (vR a0 0 n0), some (vI a1), some (vI (o_add a2 1)), some (vI a3)]) (st' := []) (M1 := M2) rfl ?_
      refine Z_mask [true, true, true, true] (lo0 := [some (vR a0 0 n0), some (vI a1), some (vI (o_add a2 1)), some (vI a3)]) rfl ?_
      exact ih a0 n0 a1 (o_add a2 1) a3 M2 _ h
def f_J7_fill_53178 (a0 : Nat) (n0 : Nat) (a1 : Int) (M : AM) : Option (AM) := f_J7_fill_53178_5 zB a0 n0 a1 0 ((n0 : Nat) : Int) M
theorem e_J7_fill_53178 {Y : List (Nat × Nat)} (d : Nat) (a0 : Nat) (n0 : Nat) (a1 : Int) (M : AM) (N : AM) (h : f_J7_fill_53178 a0 n0 a1 M = some N) : Ev Y (d + 0) m_J7_fill_53178 0 [some (vR a0 0 n0), some (vI a1), none, none] [] M none N := by
  unfold f_J7_fill_53178 at h
  refine Z_blk k_J7_fill_53178 5 (pc' := 5) (lo' := [some (vR a0 0 n0), some (vI a1), some (vI 0), some (vI ((n0 : Nat) : Int))]) (st' := []) (M1 := M) rfl ?_
  refine Z_mask [true, true, true, true] (lo0 := [some (vR a0 0 n0), some (vI a1), some (vI 0), some (vI ((n0 : Nat) : Int))]) rfl ?_
  exact e_J7_fill_53178_5 d zB a0 n0 a1 0 ((n0 : Nat) : Int) M _ h
theorem l_1_108 : zhas 4040 (Jvm.Cond.methodLink "BellPullHouse$House" 108 yJ7_fill_53178) = true := by decide +kernel
def f_X1_measure_177 (k_144 : Nat → Int → AM → Option (AM)) (k_154 : Nat → Int → Int → AM → Option (AM)) : Nat → Nat → Int → Int → Int → Int → AM → Option (AM)
  | 0, _, _, _, _, _, _ => none
  | n + 1, q, a1, a2, a3, a4, M => if M q 2 ≤ a4 then k_154 q a1 (o_add a2 1) M else (if 1000 ≤ a3 then k_154 q a1 (o_add a2 1) M else (if a2 = a1 then k_154 q a1 (o_add a2 1) M else (if 0 ≤ o_add (o_mul a1 8) a4 ∧ o_add (o_mul a1 8) a4 < 64 then (zlet (o_add a3 (M (q + 10) (Int.toNat (o_add (o_mul a1 8) a4)))) fun v2 => if 0 ≤ o_add (o_mul a2 8) a4 ∧ o_add (o_mul a2 8) a4 < 64 then (if M (q + 10) (Int.toNat (o_add (o_mul a2 8) a4)) ≤ v2 then f_X1_measure_177 k_144 k_154 n q a1 a2 a3 (o_add a4 1) M else (zlet (am_upd M (q + 10) (Int.toNat (o_add (o_mul a2 8) a4)) v2) fun M4 => f_X1_measure_177 k_144 k_154 n q a1 a2 a3 (o_add a4 1) M4)) else none) else none)))
theorem e_X1_measure_177 {Y : List (Nat × Nat)} (d : Nat) (k_144 : Nat → Int → AM → Option (AM)) (k_154 : Nat → Int → Int → AM → Option (AM)) (hk_144 : ∀ (q : Nat) (a1 : Int) (M : AM) (N : AM), k_144 q a1 M = some N → Ev Y (d + 1) m_X1_measure 144 [some (vR q 11 0), some (vI a1), none, none, none, none] [] M none N) (hk_154 : ∀ (q : Nat) (a1 : Int) (a2 : Int) (M : AM) (N : AM), k_154 q a1 a2 M = some N → Ev Y (d + 1) m_X1_measure 154 [some (vR q 11 0), some (vI a1), some (vI a2), none, none, none] [] M none N) : ∀ (n : Nat) (q : Nat) (a1 : Int) (a2 : Int) (a3 : Int) (a4 : Int) (M : AM) (N : AM), f_X1_measure_177 k_144 k_154 n q a1 a2 a3 a4 M = some N → Ev Y (d + 1) m_X1_measure 177 [some (vR q 11 0), some (vI a1), some (vI a2), some (vI a3), some (vI a4), none] [] M none N := by
  intro n
  induction n with
  | zero => intro q a1 a2 a3 a4 M N h; cases h
  | succ n ih =>
    intro q a1 a2 a3 a4 M N h
    simp only [f_X1_measure_177] at h
    refine Z_blk k_X1_measure 3 (pc' := 183) (lo' := [some (vR q 11 0), some (vI a1), some (vI a2), some (vI a3), some (vI a4), none]) (st' := [vI (M q 2), vI a4]) (M1 := M) rfl ?_
    refine Z_icmp k_X1_measure rfl 251 rfl (fun hc => ?_) (fun hc => ?_)
    · replace h := of_pos hc h
      refine Z_blk k_X1_measure 2 (pc' := 154) (lo' := [some (vR q 11 0), some (vI a1), some (vI (o_add a2 1)), some (vI a3), some (vI a4), none]) (st' := []) (M1 := M) rfl ?_
      refine Z_mask [true, true, true, false, false, false] (lo0 := [some (vR q 11 0), some (vI a1), some (vI (o_add a2 1)), none, none, none]) rfl ?_
      exact hk_154 q a1 (o_add a2 1) M _ h
    · replace h := of_neg hc h
      refine Z_blk k_X1_measure 2 (pc' := 190) (lo' := [some (vR q 11 0), some (vI a1), some (vI a2), some (vI a3), some (vI a4), none]) (st' := [vI 1000, vI a3]) (M1 := M) rfl ?_
      refine Z_icmp k_X1_measure rfl 251 rfl (fun hc => ?_) (fun hc => ?_)
      · replace h := of_pos hc h
        refine Z_blk k_X1_measure 2 (pc' := 154) (lo' := [some (vR q 11 0), some (vI a1), some (vI (o_add a2 1)), some (vI a3), some (vI a4), none]) (st' := []) (M1 := M) rfl ?_
        refine Z_mask [true, true, true, false, false, false] (lo0 := [some (vR q 11 0), some (vI a1), some (vI (o_add a2 1)), none, none, none]) rfl ?_
        exact hk_154 q a1 (o_add a2 1) M _ h
      · replace h := of_neg hc h
        refine Z_blk k_X1_measure 2 (pc' := 195) (lo' := [some (vR q 11 0), some (vI a1), some (vI a2), some (vI a3), some (vI a4), none]) (st' := [vI a1, vI a2]) (M1 := M) rfl ?_
        refine Z_icmp k_X1_measure rfl 251 rfl (fun hc => ?_) (fun hc => ?_)
        · replace h := of_pos hc h
          refine Z_blk k_X1_measure 2 (pc' := 154) (lo' := [some (vR q 11 0), some (vI a1), some (vI (o_add a2 1)), some (vI a3), some (vI a4), none]) (st' := []) (M1 := M) rfl ?_
          refine Z_mask [true, true, true, false, false, false] (lo0 := [some (vR q 11 0), some (vI a1), some (vI (o_add a2 1)), none, none, none]) rfl ?_
          exact hk_154 q a1 (o_add a2 1) M _ h
        · replace h := of_neg hc h
          refine Z_blk k_X1_measure 8 (pc' := 210) (lo' := [some (vR q 11 0), some (vI a1), some (vI a2), some (vI a3), some (vI a4), none]) (st' := [vI (o_add (o_mul a1 8) a4), vR (q + 10) 0 64, vI a3]) (M1 := M) rfl ?_
          obtain ⟨hc1, h⟩ := of_grd h
          refine Z_one k_X1_measure rfl (pc' := 211) (lo' := [some (vR q 11 0), some (vI a1), some (vI a2), some (vI a3), some (vI a4), none]) (st' := [vI (M (q + 10) (Int.toNat (o_add (o_mul a1 8) a4))), vI a3]) (M1 := M) (if_pos hc1) ?_
          obtain ⟨v2, ev2, h⟩ := of_zlet h
          refine Z_blk k_X1_measure 2 (pc' := 214) (lo' := [some (vR q 11 0), some (vI a1), some (vI a2), some (vI a3), some (vI a4), some (vI v2)]) (st' := []) (M1 := M) (by rw [ev2]; rfl) ?_
          refine Z_blk k_X1_measure 8 (pc' := 227) (lo' := [some (vR q 11 0), some (vI a1), some (vI a2), some (vI a3), some (vI a4), some (vI v2)]) (st' := [vI (o_add (o_mul a2 8) a4), vR (q + 10) 0 64, vI v2]) (M1 := M) rfl ?_
          obtain ⟨hc3, h⟩ := of_grd h
          refine Z_one k_X1_measure rfl (pc' := 228) (lo' := [some (vR q 11 0), some (vI a1), some (vI a2), some (vI a3), some (vI a4), some (vI v2)]) (st' := [vI (M (q + 10) (Int.toNat (o_add (o_mul a2 8) a4))), vI v2]) (M1 := M) (if_pos hc3) ?_
          refine Z_icmp k_X1_measure rfl 245 rfl (fun hc => ?_) (fun hc => ?_)
          · replace h := of_pos hc h
            refine Z_blk k_X1_measure 2 (pc' := 177) (lo' := [some (vR q 11 0), some (vI a1), some (vI a2), some (vI a3), some (vI (o_add a4 1)), some (vI v2)]) (st' := []) (M1 := M) rfl ?_
            refine Z_mask [true, true, true, true, true, false] (lo0 := [some (vR q 11 0), some (vI a1), some (vI a2), some (vI a3), some (vI (o_add a4 1)), none]) rfl ?_
            exact ih q a1 a2 a3 (o_add a4 1) M _ h
          · replace h := of_neg hc h
            refine Z_blk k_X1_measure 8 (pc' := 244) (lo' := [some (vR q 11 0), some (vI a1), some (vI a2), some (vI a3), some (vI a4), some (vI v2)]) (st' := [vI v2, vI (o_add (o_mul a2 8) a4), vR (q + 10) 0 64]) (M1 := M) rfl ?_
            obtain ⟨M4, eM4, h⟩ := of_zlet h
            refine Z_one k_X1_measure rfl (pc' := 245) (lo' := [some (vR q 11 0), some (vI a1), some (vI a2), some (vI a3), some (vI a4), some (vI v2)]) (st' := []) (M1 := M4) (by rw [eM4]; exact if_pos hc3) ?_
            refine Z_blk k_X1_measure 2 (pc' := 177) (lo' := [some (vR q 11 0), some (vI a1), some (vI a2), some (vI a3), some (vI (o_add a4 1)), some (vI v2)]) (st' := []) (M1 := M4) rfl ?_
            refine Z_mask [true, true, true, true, true, false] (lo0 := [some (vR q 11 0), some (vI a1), some (vI a2), some (vI a3), some (vI (o_add a4 1)), none]) rfl ?_
            exact ih q a1 a2 a3 (o_add a4 1) M4 _ h
def f_X1_measure_154 (k_144 : Nat → Int → AM → Option (AM)) : Nat → Nat → Int → Int → AM → Option (AM)
  | 0, _, _, _, _ => none
  | n + 1, q, a1, a2, M => if M q 2 ≤ a2 then k_144 q (o_add a1 1) M else (if 0 ≤ o_add (o_mul a2 8) a1 ∧ o_add (o_mul a2 8) a1 < 64 then f_X1_measure_177 k_144 (f_X1_measure_154 k_144 n) zB q a1 a2 (M (q + 10) (Int.toNat (o_add (o_mul a2 8) a1))) 0 M else none)
theorem e_X1_measure_154 {Y : List (Nat × Nat)} (d : Nat) (k_144 : Nat → Int → AM → Option (AM)) (hk_144 : ∀ (q : Nat) (a1 : Int) (M : AM) (N : AM), k_144 q a1 M = some N → Ev Y (d + 1) m_X1_measure 144 [some (vR q 11 0), some (vI a1), none, none, none, none] [] M none N) : ∀ (n : Nat) (q : Nat) (a1 : Int) (a2 : Int) (M : AM) (N : AM), f_X1_measure_154 k_144 n q a1 a2 M = some N → Ev Y (d + 1) m_X1_measure 154 [some (vR q 11 0), some (vI a1), some (vI a2), none, none, none] [] M none N := by
  intro n
  induction n with
  | zero => intro q a1 a2 M N h; cases h
  | succ n ih =>
    intro q a1 a2 M N h
    simp only [f_X1_measure_154] at h
    refine Z_blk k_X1_measure 3 (pc' := 159) (lo' := [some (vR q 11 0), some (vI a1), some (vI a2), none, none, none]) (st' := [vI (M q 2), vI a2]) (M1 := M) rfl ?_
    refine Z_icmp k_X1_measure rfl 257 rfl (fun hc => ?_) (fun hc => ?_)
    · replace h := of_pos hc h
      refine Z_blk k_X1_measure 2 (pc' := 144) (lo' := [some (vR q 11 0), some (vI (o_add a1 1)), some (vI a2), none, none, none]) (st' := []) (M1 := M) rfl ?_
      refine Z_mask [true, true, false, false, false, false] (lo0 := [some (vR q 11 0), some (vI (o_add a1 1)), none, none, none, none]) rfl ?_
      exact hk_144 q (o_add a1 1) M _ h
    · replace h := of_neg hc h
      refine Z_blk k_X1_measure 7 (pc' := 172) (lo' := [some (vR q 11 0), some (vI a1), some (vI a2), none, none, none]) (st' := [vI (o_add (o_mul a2 8) a1), vR (q + 10) 0 64]) (M1 := M) rfl ?_
      obtain ⟨hc1, h⟩ := of_grd h
      refine Z_one k_X1_measure rfl (pc' := 173) (lo' := [some (vR q 11 0), some (vI a1), some (vI a2), none, none, none]) (st' := [vI (M (q + 10) (Int.toNat (o_add (o_mul a2 8) a1)))]) (M1 := M) (if_pos hc1) ?_
      refine Z_blk k_X1_measure 3 (pc' := 177) (lo' := [some (vR q 11 0), some (vI a1), some (vI a2), some (vI (M (q + 10) (Int.toNat (o_add (o_mul a2 8) a1)))), some (vI 0), none]) (st' := []) (M1 := M) rfl ?_
      refine Z_mask [true, true, true, true, true, false] (lo0 := [some (vR q 11 0), some (vI a1), some (vI a2), some (vI (M (q + 10) (Int.toNat (o_add (o_mul a2 8) a1)))), some (vI 0), none]) rfl ?_
      exact e_X1_measure_177 d k_144 (f_X1_measure_154 k_144 n) hk_144 ih zB q a1 a2 (M (q + 10) (Int.toNat (o_add (o_mul a2 8) a1))) 0 M _ h
def f_X1_measure_144 : Nat → Nat → Int → AM → Option (AM)
  | 0, _, _, _ => none
  | n + 1, q, a1, M => if M q 2 ≤ a1 then some M else f_X1_measure_154 (f_X1_measure_144 n) zB q a1 0 M
theorem e_X1_measure_144 {Y : List (Nat × Nat)} (d : Nat) : ∀ (n : Nat) (q : Nat) (a1 : Int) (M : AM) (N : AM), f_X1_measure_144 n q a1 M = some N → Ev Y (d + 1) m_X1_measure 144 [some (vR q 11 0), some (vI a1), none, none, none, none] [] M none N := by
  intro n
  induction n with
  | zero => intro q a1 M N h; cases h
  | succ n ih =>
    intro q a1 M N h
    simp only [f_X1_measure_144] at h
    refine Z_blk k_X1_measure 3 (pc' := 149) (lo' := [some (vR q 11 0), some (vI a1), none, none, none, none]) (st' := [vI (M q 2), vI a1]) (M1 := M) rfl ?_
    refine Z_icmp k_X1_measure rfl 263 rfl (fun hc => ?_) (fun hc => ?_)
    · replace h := of_pos hc h
      cases h
      exact Z_ret ⟨rfl, _, rfl⟩ rfl
    · replace h := of_neg hc h
      refine Z_blk k_X1_measure 2 (pc' := 154) (lo' := [some (vR q 11 0), some (vI a1), some (vI 0), none, none, none]) (st' := []) (M1 := M) rfl ?_
      refine Z_mask [true, true, true, false, false, false] (lo0 := [some (vR q 11 0), some (vI a1), some (vI 0), none, none, none]) rfl ?_
      exact e_X1_measure_154 d (f_X1_measure_144 n) ih zB q a1 0 M _ h
def f_X1_measure_53 : Nat → Nat → Int → AM → Option (AM)
  | 0, _, _, _ => none
  | n + 1, q, a1, M => if M q 3 ≤ a1 then f_X1_measure_144 zB q 0 M else (if o_and (o_shr (M q 7) a1) 1 = 0 then f_X1_measure_53 n q (o_add a1 1) M else (if 0 ≤ a1 ∧ a1 < 10 then (zlet (o_add (o_mul (M (q + 1) (Int.toNat a1)) 8) (M (q + 2) (Int.toNat a1))) fun v2 => if 0 ≤ v2 ∧ v2 < 64 then (zlet (o_min (M (q + 10) (Int.toNat v2)) (o_add 1 (M (q + 3) (Int.toNat a1)))) fun v4 => zlet (am_upd M (q + 10) (Int.toNat v2) v4) fun M5 => if 0 ≤ o_add (o_mul (M5 (q + 2) (Int.toNat a1)) 8) (M5 (q + 1) (Int.toNat a1)) ∧ o_add (o_mul (M5 (q + 2) (Int.toNat a1)) 8) (M5 (q + 1) (Int.toNat a1)) < 64 then (zlet (am_upd M5 (q + 10) (Int.toNat (o_add (o_mul (M5 (q + 2) (Int.toNat a1)) 8) (M5 (q + 1) (Int.toNat a1)))) v4) fun M7 => f_X1_measure_53 n q (o_add a1 1) M7) else none) else none) else none))
theorem e_X1_measure_53 {Y : List (Nat × Nat)} (d : Nat) : ∀ (n : Nat) (q : Nat) (a1 : Int) (M : AM) (N : AM), f_X1_measure_53 n q a1 M = some N → Ev Y (d + 1) m_X1_measure 53 [some (vR q 11 0), some (vI a1), none, none, none, none] [] M none N := by
  intro n
  induction n with
  | zero => intro q a1 M N h; cases h
  | succ n ih =>
    intro q a1 M N h
    simp only [f_X1_measure_53] at h
    refine Z_blk k_X1_measure 3 (pc' := 58) (lo' := [some (vR q 11 0), some (vI a1), none, none, none, none]) (st' := [vI (M q 3), vI a1]) (M1 := M) rfl ?_
    refine Z_icmp k_X1_measure rfl 142 rfl (fun hc => ?_) (fun hc => ?_)
    · replace h := of_pos hc h
      refine Z_blk k_X1_measure 2 (pc' := 144) (lo' := [some (vR q 11 0), some (vI 0), none, none, none, none]) (st' := []) (M1 := M) rfl ?_
      refine Z_mask [true, true, false, false, false, false] (lo0 := [some (vR q 11 0), some (vI 0), none, none, none, none]) rfl ?_
      exact e_X1_measure_144 d zB q 0 M _ h
    · replace h := of_neg hc h
      refine Z_blk k_X1_measure 6 (pc' := 69) (lo' := [some (vR q 11 0), some (vI a1), none, none, none, none]) (st' := [vI (o_and (o_shr (M q 7) a1) 1)]) (M1 := M) rfl ?_
      refine Z_if k_X1_measure rfl 136 rfl (fun hc => ?_) (fun hc => ?_)
      · replace h := of_pos hc h
        refine Z_blk k_X1_measure 2 (pc' := 53) (lo' := [some (vR q 11 0), some (vI (o_add a1 1)), none, none, none, none]) (st' := []) (M1 := M) rfl ?_
        refine Z_mask [true, true, false, false, false, false] (lo0 := [some (vR q 11 0), some (vI (o_add a1 1)), none, none, none, none]) rfl ?_
        exact ih q (o_add a1 1) M _ h
      · replace h := of_neg hc h
        refine Z_blk k_X1_measure 3 (pc' := 77) (lo' := [some (vR q 11 0), some (vI a1), none, none, none, none]) (st' := [vI a1, vR (q + 1) 0 10]) (M1 := M) rfl ?_
        obtain ⟨hc1, h⟩ := of_grd h
        refine Z_one k_X1_measure rfl (pc' := 78) (lo' := [some (vR q 11 0), some (vI a1), none, none, none, none]) (st' := [vI (M (q + 1) (Int.toNat a1))]) (M1 := M) (if_pos hc1) ?_
        refine Z_blk k_X1_measure 5 (pc' := 86) (lo' := [some (vR q 11 0), some (vI a1), none, none, none, none]) (st' := [vI a1, vR (q + 2) 0 10, vI (o_mul (M (q + 1) (Int.toNat a1)) 8)]) (M1 := M) rfl ?_
        refine Z_one k_X1_measure rfl (pc' := 87) (lo' := [some (vR q 11 0), some (vI a1), none, none, none, none]) (st' := [vI (M (q + 2) (Int.toNat a1)), vI (o_mul (M (q + 1) (Int.toNat a1)) 8)]) (M1 := M) (if_pos hc1) ?_
        obtain ⟨v2, ev2, h⟩ := of_zlet h
        refine Z_blk k_X1_measure 2 (pc' := 89) (lo' := [some (vR q 11 0), some (vI a1), some (vI v2), none, none, none]) (st' := []) (M1 := M) (by rw [ev2]; rfl) ?_
        refine Z_blk k_X1_measure 3 (pc' := 94) (lo' := [some (vR q 11 0), some (vI a1), some (vI v2), none, none, none]) (st' := [vI v2, vR (q + 10) 0 64]) (M1 := M) rfl ?_
        obtain ⟨hc3, h⟩ := of_grd h
        refine Z_one k_X1_measure rfl (pc' := 95) (lo' := [some (vR q 11 0), some (vI a1), some (vI v2), none, none, none]) (st' := [vI (M (q + 10) (Int.toNat v2))]) (M1 := M) (if_pos hc3) ?_
        refine Z_blk k_X1_measure 4 (pc' := 101) (lo' := [some (vR q 11 0), some (vI a1), some (vI v2), none, none, none]) (st' := [vI a1, vR (q + 3) 0 10, vI 1, vI (M (q + 10) (Int.toNat v2))]) (M1 := M) rfl ?_
        refine Z_one k_X1_measure rfl (pc' := 102) (lo' := [some (vR q 11 0), some (vI a1), some (vI v2), none, none, none]) (st' := [vI (M (q + 3) (Int.toNat a1)), vI 1, vI (M (q + 10) (Int.toNat v2))]) (M1 := M) (if_pos hc1) ?_
        obtain ⟨v4, ev4, h⟩ := of_zlet h
        refine Z_blk k_X1_measure 3 (pc' := 107) (lo' := [some (vR q 11 0), some (vI a1), some (vI v2), some (vI v4), none, none]) (st' := []) (M1 := M) (by rw [ev4]; rfl) ?_
        refine Z_blk k_X1_measure 4 (pc' := 113) (lo' := [some (vR q 11 0), some (vI a1), some (vI v2), some (vI v4), none, none]) (st' := [vI v4, vI v2, vR (q + 10) 0 64]) (M1 := M) rfl ?_
        obtain ⟨M5, eM5, h⟩ := of_zlet h
        refine Z_one k_X1_measure rfl (pc' := 114) (lo' := [some (vR q 11 0), some (vI a1), some (vI v2), some (vI v4), none, none]) (st' := []) (M1 := M5) (by rw [eM5]; exact if_pos hc3) ?_
        refine Z_blk k_X1_measure 5 (pc' := 123) (lo' := [some (vR q 11 0), some (vI a1), some (vI v2), some (vI v4), none, none]) (st' := [vI a1, vR (q + 2) 0 10, vR (q + 10) 0 64]) (M1 := M5) rfl ?_
        refine Z_one k_X1_measure rfl (pc' := 124) (lo' := [some (vR q 11 0), some (vI a1), some (vI v2), some (vI v4), none, none]) (st' := [vI (M5 (q + 2) (Int.toNat a1)), vR (q + 10) 0 64]) (M1 := M5) (if_pos hc1) ?_
        refine Z_blk k_X1_measure 5 (pc' := 132) (lo' := [some (vR q 11 0), some (vI a1), some (vI v2), some (vI v4), none, none]) (st' := [vI a1, vR (q + 1) 0 10, vI (o_mul (M5 (q + 2) (Int.toNat a1)) 8), vR (q + 10) 0 64]) (M1 := M5) rfl ?_
        refine Z_one k_X1_measure rfl (pc' := 133) (lo' := [some (vR q 11 0), some (vI a1), some (vI v2), some (vI v4), none, none]) (st' := [vI (M5 (q + 1) (Int.toNat a1)), vI (o_mul (M5 (q + 2) (Int.toNat a1)) 8), vR (q + 10) 0 64]) (M1 := M5) (if_pos hc1) ?_
        refine Z_blk k_X1_measure 2 (pc' := 135) (lo' := [some (vR q 11 0), some (vI a1), some (vI v2), some (vI v4), none, none]) (st' := [vI v4, vI (o_add (o_mul (M5 (q + 2) (Int.toNat a1)) 8) (M5 (q + 1) (Int.toNat a1))), vR (q + 10) 0 64]) (M1 := M5) rfl ?_
        obtain ⟨hc6, h⟩ := of_grd h
        obtain ⟨M7, eM7, h⟩ := of_zlet h
        refine Z_one k_X1_measure rfl (pc' := 136) (lo' := [some (vR q 11 0), some (vI a1), some (vI v2), some (vI v4), none, none]) (st' := []) (M1 := M7) (by rw [eM7]; exact if_pos hc6) ?_
        refine Z_blk k_X1_measure 2 (pc' := 53) (lo' := [some (vR q 11 0), some (vI (o_add a1 1)), some (vI v2), some (vI v4), none, none]) (st' := []) (M1 := M7) rfl ?_
        refine Z_mask [true, true, false, false, false, false] (lo0 := [some (vR q 11 0), some (vI (o_add a1 1)), none, none, none, none]) rfl ?_
        exact ih q (o_add a1 1) M7 _ h
def f_X1_measure_25 : Nat → Nat → Int → AM → Option (AM)
  | 0, _, _, _ => none
  | n + 1, q, a1, M => if M q 2 ≤ a1 then f_X1_measure_53 zB q 0 M else (if 0 ≤ o_add (o_mul a1 8) a1 ∧ o_add (o_mul a1 8) a1 < 64 then (zlet (am_upd M (q + 10) (Int.toNat (o_add (o_mul a1 8) a1)) 0) fun M2 => f_X1_measure_25 n q (o_add a1 1) M2) else none)
theorem e_X1_measure_25 {Y : List (Nat × Nat)} (d : Nat) : ∀ (n : Nat) (q : Nat) (a1 : Int) (M : AM) (N : AM), f_X1_measure_25 n q a1 M = some N → Ev Y (d + 1) m_X1_measure 25 [some (vR q 11 0), some (vI a1), none, none, none, none] [] M none N := by
  intro n
  induction n with
  | zero => intro q a1 M N h; cases h
  | succ n ih =>
    intro q a1 M N h
    simp only [f_X1_measure_25] at h
    refine Z_blk k_X1_measure 3 (pc' := 30) (lo' := [some (vR q 11 0), some (vI a1), none, none, none, none]) (st' := [vI (M q 2), vI a1]) (M1 := M) rfl ?_
    refine Z_icmp k_X1_measure rfl 51 rfl (fun hc => ?_) (fun hc => ?_)
    · replace h := of_pos hc h
      refine Z_blk k_X1_measure 2 (pc' := 53) (lo' := [some (vR q 11 0), some (vI 0), none, none, none, none]) (st' := []) (M1 := M) rfl ?_
      refine Z_mask [true, true, false, false, false, false] (lo0 := [some (vR q 11 0), some (vI 0), none, none, none, none]) rfl ?_
      exact e_X1_measure_53 d zB q 0 M _ h
    · replace h := of_neg hc h
      refine Z_blk k_X1_measure 8 (pc' := 44) (lo' := [some (vR q 11 0), some (vI a1), none, none, none, none]) (st' := [vI 0, vI (o_add (o_mul a1 8) a1), vR (q + 10) 0 64]) (M1 := M) rfl ?_
      obtain ⟨hc1, h⟩ := of_grd h
      obtain ⟨M2, eM2, h⟩ := of_zlet h
      refine Z_one k_X1_measure rfl (pc' := 45) (lo' := [some (vR q 11 0), some (vI a1), none, none, none, none]) (st' := []) (M1 := M2) (by rw [eM2]; exact if_pos hc1) ?_
      refine Z_blk k_X1_measure 2 (pc' := 25) (lo' := [some (vR q 11 0), some (vI (o_add a1 1)), none, none, none, none]) (st' := []) (M1 := M2) rfl ?_
      refine Z_mask [true, true, false, false, false, false] (lo0 := [some (vR q 11 0), some (vI (o_add a1 1)), none, none, none, none]) rfl ?_
      exact ih q (o_add a1 1) M2 _ h
def f_X1_measure (q : Nat) (M : AM) : Option (AM) := if M q 19 = 0 then (zlet (am_upd M q 19 1) fun M1 => (f_J7_fill_53178 (q + 10) 64 1000 M1).bind fun x2 => f_X1_measure_25 zB q 0 x2) else some M
theorem e_X1_measure {Y : List (Nat × Nat)} (d : Nat) (q : Nat) (M : AM) (N : AM) (h : f_X1_measure q M = some N) : Ev Y (d + 1) m_X1_measure 0 [some (vR q 11 0), none, none, none, none, none] [] M none N := by
  unfold f_X1_measure at h
  refine Z_blk k_X1_measure 2 (pc' := 4) (lo' := [some (vR q 11 0), none, none, none, none, none]) (st' := [vI (M q 19)]) (M1 := M) rfl ?_
  refine Z_if k_X1_measure rfl 8 rfl (fun hc => ?_) (fun hc => ?_)
  · replace h := of_pos hc h
    obtain ⟨M1, eM1, h⟩ := of_zlet h
    refine Z_blk k_X1_measure 3 (pc' := 13) (lo' := [some (vR q 11 0), none, none, none, none, none]) (st' := []) (M1 := M1) (by rw [eM1]; rfl) ?_
    refine Z_blk k_X1_measure 3 (pc' := 20) (lo' := [some (vR q 11 0), none, none, none, none, none]) (st' := [vI 1000, vR (q + 10) 0 64]) (M1 := M1) rfl ?_
    obtain ⟨x2, hx2, h⟩ := Option.bind_eq_some_iff.mp h
    refine Z_callS8 k_X1_measure k_J7_fill_53178 rfl rfl (l_1_108) [vR (q + 10) 0 64, vI 1000] [] rfl rfl (Nat.le_of_ble_eq_true rfl) (Nat.le_of_ble_eq_true rfl) (e_J7_fill_53178 (d + 0) (q + 10) 64 1000 M1 _ hx2) ?_
    refine Z_blk k_X1_measure 2 (pc' := 25) (lo' := [some (vR q 11 0), some (vI 0), none, none, none, none]) (st' := []) (M1 := x2) rfl ?_
    refine Z_mask [true, true, false, false, false, false] (lo0 := [some (vR q 11 0), some (vI 0), none, none, none, none]) rfl ?_
    exact e_X1_measure_25 d zB q 0 x2 _ h
  · replace h := of_neg hc h
    cases h
    exact Z_ret ⟨rfl, _, rfl⟩ rfl
theorem l_1_102 : zhas 4036 (Jvm.Cond.methodLink "BellPullHouse$House" 102 yX1_measure) = true := by decide +kernel
theorem l_1_126 : zhas 4098 (Jvm.Cond.methodLink "BellPullHouse$House" 126 yX1_isHolding) = true := by decide +kernel
def f_X1_answerOf_89 (k_14 : Nat → Int → Int → Int → Int → AM → Option (Int × AM)) (q : Nat) (a1 : Int) (a2 : Int) (a3 : Int) (a4 : Int) (a5 : Int) (s0 : Int) (M : AM) : Option (Int × AM) := if ¬ s0 = 0 then k_14 q a1 a4 a5 (o_add a4 1) M else (if ¬ a4 = a1 then k_14 q a1 a2 a3 (o_add a4 1) M else (if ¬ a5 = a3 then k_14 q a1 a2 a3 (o_add a4 1) M else k_14 q a1 a4 a5 (o_add a4 1) M))
theorem e_X1_answerOf_89 {Y : List (Nat × Nat)} (d : Nat) (k_14 : Nat → Int → Int → Int → Int → AM → Option (Int × AM)) (hk_14 : ∀ (q : Nat) (a1 : Int) (a2 : Int) (a3 : Int) (a4 : Int) (M : AM) (x : Int) (N : AM), k_14 q a1 a2 a3 a4 M = some (x, N) → Ev Y (d + 2) m_X1_answerOf 14 [some (vR q 11 0), some (vI a1), some (vI a2), some (vI a3), some (vI a4), none, none] [] M (some (vI x)) N) (q : Nat) (a1 : Int) (a2 : Int) (a3 : Int) (a4 : Int) (a5 : Int) (s0 : Int) (M : AM) (x : Int) (N : AM) (h : f_X1_answerOf_89 k_14 q a1 a2 a3 a4 a5 s0 M = some (x, N)) : Ev Y (d + 2) m_X1_answerOf 89 [some (vR q 11 0), some (vI a1), some (vI a2), some (vI a3), some (vI a4), some (vI a5), none] [vI s0] M (some (vI x)) N := by
  unfold f_X1_answerOf_89 at h
  refine Z_blk k_X1_answerOf 2 (pc' := 93) (lo' := [some (vR q 11 0), some (vI a1), some (vI a2), some (vI a3), some (vI a4), some (vI a5), some (vI s0)]) (st' := [vI s0]) (M1 := M) rfl ?_
  refine Z_if k_X1_answerOf rfl 108 rfl (fun hc => ?_) (fun hc => ?_)
  · replace h := of_pos hc h
    refine Z_blk k_X1_answerOf 6 (pc' := 14) (lo' := [some (vR q 11 0), some (vI a1), some (vI a4), some (vI a5), some (vI (o_add a4 1)), some (vI a5), some (vI s0)]) (st' := []) (M1 := M) rfl ?_
    refine Z_mask [true, true, true, true, true, false, false] (lo0 := [some (vR q 11 0), some (vI a1), some (vI a4), some (vI a5), some (vI (o_add a4 1)), none, none]) rfl ?_
    exact hk_14 q a1 a4 a5 (o_add a4 1) M _ _ h
  · replace h := of_neg hc h
    refine Z_blk k_X1_answerOf 2 (pc' := 99) (lo' := [some (vR q 11 0), some (vI a1), some (vI a2), some (vI a3), some (vI a4), some (vI a5), some (vI s0)]) (st' := [vI a1, vI a4]) (M1 := M) rfl ?_
    refine Z_icmp k_X1_answerOf rfl 114 rfl (fun hc => ?_) (fun hc => ?_)
    · replace h := of_pos hc h
      refine Z_blk k_X1_answerOf 2 (pc' := 14) (lo' := [some (vR q 11 0), some (vI a1), some (vI a2), some (vI a3), some (vI (o_add a4 1)), some (vI a5), some (vI s0)]) (st' := []) (M1 := M) rfl ?_
      refine Z_mask [true, true, true, true, true, false, false] (lo0 := [some (vR q 11 0), some (vI a1), some (vI a2), some (vI a3), some (vI (o_add a4 1)), none, none]) rfl ?_
      exact hk_14 q a1 a2 a3 (o_add a4 1) M _ _ h
    · replace h := of_neg hc h
      refine Z_blk k_X1_answerOf 2 (pc' := 105) (lo' := [some (vR q 11 0), some (vI a1), some (vI a2), some (vI a3), some (vI a4), some (vI a5), some (vI s0)]) (st' := [vI a3, vI a5]) (M1 := M) rfl ?_
      refine Z_icmp k_X1_answerOf rfl 114 rfl (fun hc => ?_) (fun hc => ?_)
      · replace h := of_pos hc h
        refine Z_blk k_X1_answerOf 2 (pc' := 14) (lo' := [some (vR q 11 0), some (vI a1), some (vI a2), some (vI a3), some (vI (o_add a4 1)), some (vI a5), some (vI s0)]) (st' := []) (M1 := M) rfl ?_
        refine Z_mask [true, true, true, true, true, false, false] (lo0 := [some (vR q 11 0), some (vI a1), some (vI a2), some (vI a3), some (vI (o_add a4 1)), none, none]) rfl ?_
        exact hk_14 q a1 a2 a3 (o_add a4 1) M _ _ h
      · replace h := of_neg hc h
        refine Z_blk k_X1_answerOf 6 (pc' := 14) (lo' := [some (vR q 11 0), some (vI a1), some (vI a4), some (vI a5), some (vI (o_add a4 1)), some (vI a5), some (vI s0)]) (st' := []) (M1 := M) rfl ?_
        refine Z_mask [true, true, true, true, true, false, false] (lo0 := [some (vR q 11 0), some (vI a1), some (vI a4), some (vI a5), some (vI (o_add a4 1)), none, none]) rfl ?_
        exact hk_14 q a1 a4 a5 (o_add a4 1) M _ _ h
def f_X1_answerOf_14 : Nat → Nat → Int → Int → Int → Int → AM → Option (Int × AM)
  | 0, _, _, _, _, _, _ => none
  | n + 1, q, a1, a2, a3, a4, M => if M q 4 ≤ a4 then some (a2, M) else ((f_X1_isHolding q a4 M).bind fun x1 => if x1.1 = 0 then f_X1_answerOf_14 n q a1 a2 a3 (o_add a4 1) x1.2 else (if 0 ≤ a4 ∧ a4 < 6 then (if 0 ≤ a1 ∧ a1 < 6 then (if 0 ≤ o_add (o_mul (x1.2 (q + 4) (Int.toNat a4)) 8) (x1.2 (q + 5) (Int.toNat a1)) ∧ o_add (o_mul (x1.2 (q + 4) (Int.toNat a4)) 8) (x1.2 (q + 5) (Int.toNat a1)) < 64 then (zlet (x1.2 (q + 10) (Int.toNat (o_add (o_mul (x1.2 (q + 4) (Int.toNat a4)) 8) (x1.2 (q + 5) (Int.toNat a1))))) fun v5 => if ¬ a2 = (-1) then (if a3 ≤ v5 then f_X1_answerOf_89 (f_X1_answerOf_14 n) q a1 a2 a3 a4 v5 0 x1.2 else f_X1_answerOf_89 (f_X1_answerOf_14 n) q a1 a2 a3 a4 v5 1 x1.2) else (if x1.2 q 0 < v5 then f_X1_answerOf_89 (f_X1_answerOf_14 n) q a1 a2 a3 a4 v5 0 x1.2 else f_X1_answerOf_89 (f_X1_answerOf_14 n) q a1 a2 a3 a4 v5 1 x1.2)) else none) else none) else none))
theorem e_X1_answerOf_14 {Y : List (Nat × Nat)} (d : Nat) : ∀ (n : Nat) (q : Nat) (a1 : Int) (a2 : Int) (a3 : Int) (a4 : Int) (M : AM) (x : Int) (N : AM), f_X1_answerOf_14 n q a1 a2 a3 a4 M = some (x, N) → Ev Y (d + 2) m_X1_answerOf 14 [some (vR q 11 0), some (vI a1), some (vI a2), some (vI a3), some (vI a4), none, none] [] M (some (vI x)) N := by
  intro n
  induction n with
  | zero => intro q a1 a2 a3 a4 M x N h; cases h
  | succ n ih =>
    intro q a1 a2 a3 a4 M x N h
    simp only [f_X1_answerOf_14] at h
    refine Z_blk k_X1_answerOf 3 (pc' := 20) (lo' := [some (vR q 11 0), some (vI a1), some (vI a2), some (vI a3), some (vI a4), none, none]) (st' := [vI (M q 4), vI a4]) (M1 := M) rfl ?_
    refine Z_icmp k_X1_answerOf rfl 120 rfl (fun hc => ?_) (fun hc => ?_)
    · replace h := of_pos hc h
      refine Z_blk k_X1_answerOf 1 (pc' := 121) (lo' := [some (vR q 11 0), some (vI a1), some (vI a2), some (vI a3), some (vI a4), none, none]) (st' := [vI a2]) (M1 := M) rfl ?_
      cases h
      exact Z_ret ⟨Or.inl rfl, _, rfl⟩ rfl
    · replace h := of_neg hc h
      refine Z_blk k_X1_answerOf 2 (pc' := 26) (lo' := [some (vR q 11 0), some (vI a1), some (vI a2), some (vI a3), some (vI a4), none, none]) (st' := [vI a4, vR q 11 0]) (M1 := M) rfl ?_
      obtain ⟨x1, hx1, h⟩ := Option.bind_eq_some_iff.mp h
      refine Z_callV8 k_X1_answerOf k_X1_isHolding rfl rfl (l_1_126) (ci := 1) rfl [vI a4] [] rfl rfl (Nat.le_of_ble_eq_true rfl) (Nat.le_of_ble_eq_true rfl) (e_X1_isHolding (d + 1) q a4 M _ _ hx1) ?_
      refine Z_if k_X1_answerOf rfl 114 rfl (fun hc => ?_) (fun hc => ?_)
      · replace h := of_pos hc h
        refine Z_blk k_X1_answerOf 2 (pc' := 14) (lo' := [some (vR q 11 0), some (vI a1), some (vI a2), some (vI a3), some (vI (o_add a4 1)), none, none]) (st' := []) (M1 := x1.2) rfl ?_
        refine Z_mask [true, true, true, true, true, false, false] (lo0 := [some (vR q 11 0), some (vI a1), some (vI a2), some (vI a3), some (vI (o_add a4 1)), none, none]) rfl ?_
        exact ih q a1 a2 a3 (o_add a4 1) x1.2 _ _ h
      · replace h := of_neg hc h
        refine Z_blk k_X1_answerOf 5 (pc' := 42) (lo' := [some (vR q 11 0), some (vI a1), some (vI a2), some (vI a3), some (vI a4), none, none]) (st' := [vI a4, vR (q + 4) 0 6, vR (q + 10) 0 64]) (M1 := x1.2) rfl ?_
        obtain ⟨hc2, h⟩ := of_grd h
        refine Z_one k_X1_answerOf rfl (pc' := 43) (lo' := [some (vR q 11 0), some (vI a1), some (vI a2), some (vI a3), some (vI a4), none, none]) (st' := [vI (x1.2 (q + 4) (Int.toNat a4)), vR (q + 10) 0 64]) (M1 := x1.2) (if_pos hc2) ?_
        refine Z_blk k_X1_answerOf 5 (pc' := 51) (lo' := [some (vR q 11 0), some (vI a1), some (vI a2), some (vI a3), some (vI a4), none, none]) (st' := [vI a1, vR (q + 5) 0 6, vI (o_mul (x1.2 (q + 4) (Int.toNat a4)) 8), vR (q + 10) 0 64]) (M1 := x1.2) rfl ?_
        obtain ⟨hc3, h⟩ := of_grd h
        refine Z_one k_X1_answerOf rfl (pc' := 52) (lo' := [some (vR q 11 0), some (vI a1), some (vI a2), some (vI a3), some (vI a4), none, none]) (st' := [vI (x1.2 (q + 5) (Int.toNat a1)), vI (o_mul (x1.2 (q + 4) (Int.toNat a4)) 8), vR (q + 10) 0 64]) (M1 := x1.2) (if_pos hc3) ?_
        refine Z_blk k_X1_answerOf 1 (pc' := 53) (lo' := [some (vR q 11 0), some (vI a1), some (vI a2), some (vI a3), some (vI a4), none, none]) (st' := [vI (o_add (o_mul (x1.2 (q + 4) (Int.toNat a4)) 8) (x1.2 (q + 5) (Int.toNat a1))), vR (q + 10) 0 64]) (M1 := x1.2) rfl ?_
        obtain ⟨hc4, h⟩ := of_grd h
        refine Z_one k_X1_answerOf rfl (pc' := 54) (lo' := [some (vR q 11 0), some (vI a1), some (vI a2), some (vI a3), some (vI a4), none, none]) (st' := [vI (x1.2 (q + 10) (Int.toNat (o_add (o_mul (x1.2 (q + 4) (Int.toNat a4)) 8) (x1.2 (q + 5) (Int.toNat a1)))))]) (M1 := x1.2) (if_pos hc4) ?_
        obtain ⟨v5, ev5, h⟩ := of_zlet h
        refine Z_blk k_X1_answerOf 1 (pc' := 56) (lo' := [some (vR q 11 0), some (vI a1), some (vI a2), some (vI a3), some (vI a4), some (vI v5), none]) (st' := []) (M1 := x1.2) (by rw [ev5]; rfl) ?_
        refine Z_blk k_X1_answerOf 2 (pc' := 58) (lo' := [some (vR q 11 0), some (vI a1), some (vI a2), some (vI a3), some (vI a4), some (vI v5), none]) (st' := [vI (-1), vI a2]) (M1 := x1.2) rfl ?_
        refine Z_icmp k_X1_answerOf rfl 78 rfl (fun hc => ?_) (fun hc => ?_)
        · replace h := of_pos hc h
          refine Z_blk k_X1_answerOf 2 (pc' := 81) (lo' := [some (vR q 11 0), some (vI a1), some (vI a2), some (vI a3), some (vI a4), some (vI v5), none]) (st' := [vI a3, vI v5]) (M1 := x1.2) rfl ?_
          refine Z_icmp k_X1_answerOf rfl 88 rfl (fun hc => ?_) (fun hc => ?_)
          · replace h := of_pos hc h
            refine Z_blk k_X1_answerOf 1 (pc' := 89) (lo' := [some (vR q 11 0), some (vI a1), some (vI a2), some (vI a3), some (vI a4), some (vI v5), none]) (st' := [vI 0]) (M1 := x1.2) rfl ?_
            refine Z_mask [true, true, true, true, true, true, false] (lo0 := [some (vR q 11 0), some (vI a1), some (vI a2), some (vI a3), some (vI a4), some (vI v5), none]) rfl ?_
            exact e_X1_answerOf_89 d (f_X1_answerOf_14 n) ih q a1 a2 a3 a4 v5 0 x1.2 _ _ h
          · replace h := of_neg hc h
            refine Z_blk k_X1_answerOf 2 (pc' := 89) (lo' := [some (vR q 11 0), some (vI a1), some (vI a2), some (vI a3), some (vI a4), some (vI v5), none]) (st' := [vI 1]) (M1 := x1.2) rfl ?_
            refine Z_mask [true, true, true, true, true, true, false] (lo0 := [some (vR q 11 0), some (vI a1), some (vI a2), some (vI a3), some (vI a4), some (vI v5), none]) rfl ?_
            exact e_X1_answerOf_89 d (f_X1_answerOf_14 n) ih q a1 a2 a3 a4 v5 1 x1.2 _ _ h
        · replace h := of_neg hc h
          refine Z_blk k_X1_answerOf 3 (pc' := 67) (lo' := [some (vR q 11 0), some (vI a1), some (vI a2), some (vI a3), some (vI a4), some (vI v5), none]) (st' := [vI (x1.2 q 0), vI v5]) (M1 := x1.2) rfl ?_
          refine Z_icmp k_X1_answerOf rfl 74 rfl (fun hc => ?_) (fun hc => ?_)
          · replace h := of_pos hc h
            refine Z_blk k_X1_answerOf 2 (pc' := 89) (lo' := [some (vR q 11 0), some (vI a1), some (vI a2), some (vI a3), some (vI a4), some (vI v5), none]) (st' := [vI 0]) (M1 := x1.2) rfl ?_
            refine Z_mask [true, true, true, true, true, true, false] (lo0 := [some (vR q 11 0), some (vI a1), some (vI a2), some (vI a3), some (vI a4), some (vI v5), none]) rfl ?_
            exact e_X1_answerOf_89 d (f_X1_answerOf_14 n) ih q a1 a2 a3 a4 v5 0 x1.2 _ _ h
          · replace h := of_neg hc h
            refine Z_blk k_X1_answerOf 2 (pc' := 89) (lo' := [some (vR q 11 0), some (vI a1), some (vI a2), some (vI a3), some (vI a4), some (vI v5), none]) (st' := [vI 1]) (M1 := x1.2) rfl ?_
            refine Z_mask [true, true, true, true, true, true, false] (lo0 := [some (vR q 11 0), some (vI a1), some (vI a2), some (vI a3), some (vI a4), some (vI v5), none]) rfl ?_
            exact e_X1_answerOf_89 d (f_X1_answerOf_14 n) ih q a1 a2 a3 a4 v5 1 x1.2 _ _ h
def f_X1_answerOf (q : Nat) (a1 : Int) (M : AM) : Option (Int × AM) := (f_X1_measure q M).bind fun x1 => f_X1_answerOf_14 zB q a1 (-1) (x1 q 0) 0 x1
theorem e_X1_answerOf {Y : List (Nat × Nat)} (d : Nat) (q : Nat) (a1 : Int) (M : AM) (x : Int) (N : AM) (h : f_X1_answerOf q a1 M = some (x, N)) : Ev Y (d + 2) m_X1_answerOf 0 [some (vR q 11 0), some (vI a1), none, none, none, none, none] [] M (some (vI x)) N := by
  unfold f_X1_answerOf at h
  refine Z_blk k_X1_answerOf 1 (pc' := 1) (lo' := [some (vR q 11 0), some (vI a1), none, none, none, none, none]) (st' := [vR q 11 0]) (M1 := M) rfl ?_
  obtain ⟨x1, hx1, h⟩ := Option.bind_eq_some_iff.mp h
  refine Z_callV8 k_X1_answerOf k_X1_measure rfl rfl (l_1_102) (ci := 1) rfl [] [] rfl rfl (Nat.le_of_ble_eq_true rfl) (Nat.le_of_ble_eq_true rfl) (e_X1_measure (d + 0) q M _ hx1) ?_
  refine Z_blk k_X1_answerOf 7 (pc' := 14) (lo' := [some (vR q 11 0), some (vI a1), some (vI (-1)), some (vI (x1 q 0)), some (vI 0), none, none]) (st' := []) (M1 := x1) rfl ?_
  refine Z_mask [true, true, true, true, true, false, false] (lo0 := [some (vR q 11 0), some (vI a1), some (vI (-1)), some (vI (x1 q 0)), some (vI 0), none, none]) rfl ?_
  exact e_X1_answerOf_14 d zB q a1 (-1) (x1 q 0) 0 x1 _ _ h
def f_X1_stretchAll_2 : Nat → Nat → Int → AM → Option (AM)
  | 0, _, _, _ => none
  | n + 1, q, a1, M => if M q 3 ≤ a1 then some M else ((f_X1_isWhole q a1 M).bind fun x1 => if x1.1 = 0 then f_X1_stretchAll_2 n q (o_add a1 1) x1.2 else (if 0 ≤ a1 ∧ a1 < 10 then (if 9 ≤ x1.2 (q + 3) (Int.toNat a1) then f_X1_stretchAll_2 n q (o_add a1 1) x1.2 else (zlet (am_upd x1.2 (q + 3) (Int.toNat a1) (o_add (x1.2 (q + 3) (Int.toNat a1)) 1)) fun M3 => zlet (am_upd M3 q 19 0) fun M4 => f_X1_stretchAll_2 n q (o_add a1 1) M4)) else none))
theorem e_X1_stretchAll_2 {Y : List (Nat × Nat)} (d : Nat) : ∀ (n : Nat) (q : Nat) (a1 : Int) (M : AM) (N : AM), f_X1_stretchAll_2 n q a1 M = some N → Ev Y (d + 1) m_X1_stretchAll 2 [some (vR q 11 0), some (vI a1)] [] M none N := by
  intro n
  induction n with
  | zero => intro q a1 M N h; cases h
  | succ n ih =>
    intro q a1 M N h
    simp only [f_X1_stretchAll_2] at h
    refine Z_blk k_X1_stretchAll 3 (pc' := 7) (lo' := [some (vR q 11 0), some (vI a1)]) (st' := [vI (M q 3), vI a1]) (M1 := M) rfl ?_
    refine Z_icmp k_X1_stretchAll rfl 50 rfl (fun hc => ?_) (fun hc => ?_)
    · replace h := of_pos hc h
      cases h
      exact Z_ret ⟨rfl, _, rfl⟩ rfl
    · replace h := of_neg hc h
      refine Z_blk k_X1_stretchAll 2 (pc' := 12) (lo' := [some (vR q 11 0), some (vI a1)]) (st' := [vI a1, vR q 11 0]) (M1 := M) rfl ?_
      obtain ⟨x1, hx1, h⟩ := Option.bind_eq_some_iff.mp h
      refine Z_callV8 k_X1_stretchAll k_X1_isWhole rfl rfl (l_1_87) (ci := 1) rfl [vI a1] [] rfl rfl (Nat.le_of_ble_eq_true rfl) (Nat.le_of_ble_eq_true rfl) (e_X1_isWhole (d + 0) q a1 M _ _ hx1) ?_
      refine Z_if k_X1_stretchAll rfl 44 rfl (fun hc => ?_) (fun hc => ?_)
      · replace h := of_pos hc h
        refine Z_blk k_X1_stretchAll 2 (pc' := 2) (lo' := [some (vR q 11 0), some (vI (o_add a1 1))]) (st' := []) (M1 := x1.2) rfl ?_
        refine Z_mask [true, true] (lo0 := [some (vR q 11 0), some (vI (o_add a1 1))]) rfl ?_
        exact ih q (o_add a1 1) x1.2 _ h
      · replace h := of_neg hc h
        refine Z_blk k_X1_stretchAll 3 (pc' := 23) (lo' := [some (vR q 11 0), some (vI a1)]) (st' := [vI a1, vR (q + 3) 0 10]) (M1 := x1.2) rfl ?_
        obtain ⟨hc2, h⟩ := of_grd h
        refine Z_one k_X1_stretchAll rfl (pc' := 24) (lo' := [some (vR q 11 0), some (vI a1)]) (st' := [vI (x1.2 (q + 3) (Int.toNat a1))]) (M1 := x1.2) (if_pos hc2) ?_
        refine Z_blk k_X1_stretchAll 1 (pc' := 26) (lo' := [some (vR q 11 0), some (vI a1)]) (st' := [vI 9, vI (x1.2 (q + 3) (Int.toNat a1))]) (M1 := x1.2) rfl ?_
        refine Z_icmp k_X1_stretchAll rfl 44 rfl (fun hc => ?_) (fun hc => ?_)
        · replace h := of_pos hc h
          refine Z_blk k_X1_stretchAll 2 (pc' := 2) (lo' := [some (vR q 11 0), some (vI (o_add a1 1))]) (st' := []) (M1 := x1.2) rfl ?_
          refine Z_mask [true, true] (lo0 := [some (vR q 11 0), some (vI (o_add a1 1))]) rfl ?_
          exact ih q (o_add a1 1) x1.2 _ h
        · replace h := of_neg hc h
          refine Z_blk k_X1_stretchAll 4 (pc' := 35) (lo' := [some (vR q 11 0), some (vI a1)]) (st' := [vI a1, vR (q + 3) 0 10, vI a1, vR (q + 3) 0 10]) (M1 := x1.2) rfl ?_
          refine Z_one k_X1_stretchAll rfl (pc' := 36) (lo' := [some (vR q 11 0), some (vI a1)]) (st' := [vI (x1.2 (q + 3) (Int.toNat a1)), vI a1, vR (q + 3) 0 10]) (M1 := x1.2) (if_pos hc2) ?_
          refine Z_blk k_X1_stretchAll 2 (pc' := 38) (lo' := [some (vR q 11 0), some (vI a1)]) (st' := [vI (o_add (x1.2 (q + 3) (Int.toNat a1)) 1), vI a1, vR (q + 3) 0 10]) (M1 := x1.2) rfl ?_
          obtain ⟨M3, eM3, h⟩ := of_zlet h
          refine Z_one k_X1_stretchAll rfl (pc' := 39) (lo' := [some (vR q 11 0), some (vI a1)]) (st' := []) (M1 := M3) (by rw [eM3]; exact if_pos hc2) ?_
          obtain ⟨M4, eM4, h⟩ := of_zlet h
          refine Z_blk k_X1_stretchAll 3 (pc' := 44) (lo' := [some (vR q 11 0), some (vI a1)]) (st' := []) (M1 := M4) (by rw [eM4]; rfl) ?_
          refine Z_blk k_X1_stretchAll 2 (pc' := 2) (lo' := [some (vR q 11 0), some (vI (o_add a1 1))]) (st' := []) (M1 := M4) rfl ?_
          refine Z_mask [true, true] (lo0 := [some (vR q 11 0), some (vI (o_add a1 1))]) rfl ?_
          exact ih q (o_add a1 1) M4 _ h
def f_X1_stretchAll (q : Nat) (M : AM) : Option (AM) := f_X1_stretchAll_2 zB q 0 M
theorem e_X1_stretchAll {Y : List (Nat × Nat)} (d : Nat) (q : Nat) (M : AM) (N : AM) (h : f_X1_stretchAll q M = some N) : Ev Y (d + 1) m_X1_stretchAll 0 [some (vR q 11 0), none] [] M none N := by
  unfold f_X1_stretchAll at h
  refine Z_blk k_X1_stretchAll 2 (pc' := 2) (lo' := [some (vR q 11 0), some (vI 0)]) (st' := []) (M1 := M) rfl ?_
  refine Z_mask [true, true] (lo0 := [some (vR q 11 0), some (vI 0)]) rfl ?_
  exact e_X1_stretchAll_2 d zB q 0 M _ h
theorem l_0_32 : zhas 4094 (Jvm.Cond.methodLink "BellPullHouse$Days" 32 yX1_answerOf) = true := by decide +kernel
theorem l_0_36 : zhas 4099 (Jvm.Cond.methodLink "BellPullHouse$Days" 36 yX0_alikeDays) = true := by decide +kernel
theorem l_0_45 : zhas 4114 (Jvm.Cond.methodLink "BellPullHouse$Days" 45 yX0_loveThrough) = true := by decide +kernel
theorem l_0_52 : zhas 4118 (Jvm.Cond.methodLink "BellPullHouse$Days" 52 yX1_stretchAll) = true := by decide +kernel
def f_X0_passSpan_9 : Nat → Nat → Nat → Int → Int → AM → Option (Int × AM)
  | 0, _, _, _, _, _ => none
  | n + 1, q, b1, a2, a3, M => if M b1 4 ≤ a3 then ((f_X0_alikeDays q b1 a2 M).bind fun x1 => (f_X0_loveThrough q b1 (o_max 1 x1.1) x1.2).bind fun x2 => (f_X1_isStretching b1 x2.2).bind fun x3 => if x3.1 = 0 then (zlet (am_upd x3.2 b1 5 (o_add (x3.2 b1 5) (o_max 1 x1.1))) fun M4 => some (x2.1, M4)) else ((f_X1_stretchAll b1 x3.2).bind fun x5 => zlet (am_upd x5 b1 5 (o_add (x5 b1 5) (o_max 1 x1.1))) fun M6 => some (x2.1, M6))) else ((f_X1_isHolding b1 a3 M).bind fun x7 => if x7.1 = 0 then (if 0 ≤ a3 ∧ a3 < 6 then (zlet (am_upd x7.2 (q + 1) (Int.toNat a3) (-1)) fun M9 => f_X0_passSpan_9 n q b1 a2 (o_add a3 1) M9) else none) else ((f_X1_answerOf b1 a3 x7.2).bind fun x10 => if 0 ≤ a3 ∧ a3 < 6 then (zlet (am_upd x10.2 (q + 1) (Int.toNat a3) x10.1) fun M12 => f_X0_passSpan_9 n q b1 a2 (o_add a3 1) M12) else none))
theorem e_X0_passSpan_9 {Y : List (Nat × Nat)} (d : Nat) : ∀ (n : Nat) (q : Nat) (b1 : Nat) (a2 : Int) (a3 : Int) (M : AM) (x : Int) (N : AM), f_X0_passSpan_9 n q b1 a2 a3 M = some (x, N) → Ev Y (d + 3) m_X0_passSpan 9 [some (vR q 10 0), some (vR b1 11 0), some (vI a2), some (vI a3), none] [] M (some (vI x)) N := by
  intro n
  induction n with
  | zero => intro q b1 a2 a3 M x N h; cases h
  | succ n ih =>
    intro q b1 a2 a3 M x N h
    simp only [f_X0_passSpan_9] at h
    refine Z_blk k_X0_passSpan 3 (pc' := 14) (lo' := [some (vR q 10 0), some (vR b1 11 0), some (vI a2), some (vI a3), none]) (st' := [vI (M b1 4), vI a3]) (M1 := M) rfl ?_
    refine Z_icmp k_X0_passSpan rfl 46 rfl (fun hc => ?_) (fun hc => ?_)
    · replace h := of_pos hc h
      refine Z_blk k_X0_passSpan 4 (pc' := 50) (lo' := [some (vR q 10 0), some (vR b1 11 0), some (vI a2), some (vI a3), none]) (st' := [vI a2, vR b1 11 0, vR q 10 0, vI 1]) (M1 := M) rfl ?_
      obtain ⟨x1, hx1, h⟩ := Option.bind_eq_some_iff.mp h
      refine Z_callV8 k_X0_passSpan k_X0_alikeDays rfl rfl (l_0_36) (ci := 0) rfl [vR b1 11 0, vI a2] [vI 1] rfl rfl (Nat.le_of_ble_eq_true rfl) (Nat.le_of_ble_eq_true rfl) (e_X0_alikeDays (d + 0) q b1 a2 M _ _ hx1) ?_
      refine Z_blk k_X0_passSpan 5 (pc' := 60) (lo' := [some (vR q 10 0), some (vR b1 11 0), some (vI a2), some (vI (o_max 1 x1.1)), none]) (st' := [vI (o_max 1 x1.1), vR b1 11 0, vR q 10 0]) (M1 := x1.2) rfl ?_
      obtain ⟨x2, hx2, h⟩ := Option.bind_eq_some_iff.mp h
      refine Z_callV8 k_X0_passSpan k_X0_loveThrough rfl rfl (l_0_45) (ci := 0) rfl [vR b1 11 0, vI (o_max 1 x1.1)] [] rfl rfl (Nat.le_of_ble_eq_true rfl) (Nat.le_of_ble_eq_true rfl) (e_X0_loveThrough (d + 1) q b1 (o_max 1 x1.1) x1.2 _ _ hx2) ?_
      refine Z_blk k_X0_passSpan 2 (pc' := 66) (lo' := [some (vR q 10 0), some (vR b1 11 0), some (vI a2), some (vI (o_max 1 x1.1)), some (vI x2.1)]) (st' := [vR b1 11 0]) (M1 := x2.2) rfl ?_
      obtain ⟨x3, hx3, h⟩ := Option.bind_eq_some_iff.mp h
      refine Z_callV8 k_X0_passSpan k_X1_isStretching rfl rfl (l_0_48) (ci := 1) rfl [] [] rfl rfl (Nat.le_of_ble_eq_true rfl) (Nat.le_of_ble_eq_true rfl) (e_X1_isStretching (d + 1) b1 x2.2 _ _ hx3) ?_
      refine Z_if k_X0_passSpan rfl 76 rfl (fun hc => ?_) (fun hc => ?_)
      · replace h := of_pos hc h
        obtain ⟨M4, eM4, h⟩ := of_zlet h
        refine Z_blk k_X0_passSpan 6 (pc' := 86) (lo' := [some (vR q 10 0), some (vR b1 11 0), some (vI a2), some (vI (o_max 1 x1.1)), some (vI x2.1)]) (st' := []) (M1 := M4) (by rw [eM4]; rfl) ?_
        refine Z_blk k_X0_passSpan 1 (pc' := 88) (lo' := [some (vR q 10 0), some (vR b1 11 0), some (vI a2), some (vI (o_max 1 x1.1)), some (vI x2.1)]) (st' := [vI x2.1]) (M1 := M4) rfl ?_
        cases h
        exact Z_ret ⟨Or.inl rfl, _, rfl⟩ rfl
      · replace h := of_neg hc h
        refine Z_blk k_X0_passSpan 1 (pc' := 73) (lo' := [some (vR q 10 0), some (vR b1 11 0), some (vI a2), some (vI (o_max 1 x1.1)), some (vI x2.1)]) (st' := [vR b1 11 0]) (M1 := x3.2) rfl ?_
        obtain ⟨x5, hx5, h⟩ := Option.bind_eq_some_iff.mp h
        refine Z_callV8 k_X0_passSpan k_X1_stretchAll rfl rfl (l_0_52) (ci := 1) rfl [] [] rfl rfl (Nat.le_of_ble_eq_true rfl) (Nat.le_of_ble_eq_true rfl) (e_X1_stretchAll (d + 1) b1 x3.2 _ hx5) ?_
        obtain ⟨M6, eM6, h⟩ := of_zlet h
        refine Z_blk k_X0_passSpan 6 (pc' := 86) (lo' := [some (vR q 10 0), some (vR b1 11 0), some (vI a2), some (vI (o_max 1 x1.1)), some (vI x2.1)]) (st' := []) (M1 := M6) (by rw [eM6]; rfl) ?_
        refine Z_blk k_X0_passSpan 1 (pc' := 88) (lo' := [some (vR q 10 0), some (vR b1 11 0), some (vI a2), some (vI (o_max 1 x1.1)), some (vI x2.1)]) (st' := [vI x2.1]) (M1 := M6) rfl ?_
        cases h
        exact Z_ret ⟨Or.inl rfl, _, rfl⟩ rfl
    · replace h := of_neg hc h
      refine Z_blk k_X0_passSpan 5 (pc' := 24) (lo' := [some (vR q 10 0), some (vR b1 11 0), some (vI a2), some (vI a3), none]) (st' := [vI a3, vR b1 11 0, vI a3, vR (q + 1) 0 6]) (M1 := M) rfl ?_
      obtain ⟨x7, hx7, h⟩ := Option.bind_eq_some_iff.mp h
      refine Z_callV8 k_X0_passSpan k_X1_isHolding rfl rfl (l_0_28) (ci := 1) rfl [vI a3] [vI a3, vR (q + 1) 0 6] rfl rfl (Nat.le_of_ble_eq_true rfl) (Nat.le_of_ble_eq_true rfl) (e_X1_isHolding (d + 2) b1 a3 M _ _ hx7) ?_
      refine Z_if k_X0_passSpan rfl 38 rfl (fun hc => ?_) (fun hc => ?_)
      · replace h := of_pos hc h
        refine Z_blk k_X0_passSpan 1 (pc' := 39) (lo' := [some (vR q 10 0), some (vR b1 11 0), some (vI a2), some (vI a3), none]) (st' := [vI (-1), vI a3, vR (q + 1) 0 6]) (M1 := x7.2) rfl ?_
        obtain ⟨hc8, h⟩ := of_grd h
        obtain ⟨M9, eM9, h⟩ := of_zlet h
        refine Z_one k_X0_passSpan rfl (pc' := 40) (lo' := [some (vR q 10 0), some (vR b1 11 0), some (vI a2), some (vI a3), none]) (st' := []) (M1 := M9) (by rw [eM9]; exact if_pos hc8) ?_
        refine Z_blk k_X0_passSpan 2 (pc' := 9) (lo' := [some (vR q 10 0), some (vR b1 11 0), some (vI a2), some (vI (o_add a3 1)), none]) (st' := []) (M1 := M9) rfl ?_
        refine Z_mask [true, true, true, true, false] (lo0 := [some (vR q 10 0), some (vR b1 11 0), some (vI a2), some (vI (o_add a3 1)), none]) rfl ?_
        exact ih q b1 a2 (o_add a3 1) M9 _ _ h
      · replace h := of_neg hc h
        refine Z_blk k_X0_passSpan 2 (pc' := 32) (lo' := [some (vR q 10 0), some (vR b1 11 0), some (vI a2), some (vI a3), none]) (st' := [vI a3, vR b1 11 0, vI a3, vR (q + 1) 0 6]) (M1 := x7.2) rfl ?_
        obtain ⟨x10, hx10, h⟩ := Option.bind_eq_some_iff.mp h
        refine Z_callV8 k_X0_passSpan k_X1_answerOf rfl rfl (l_0_32) (ci := 1) rfl [vI a3] [vI a3, vR (q + 1) 0 6] rfl rfl (Nat.le_of_ble_eq_true rfl) (Nat.le_of_ble_eq_true rfl) (e_X1_answerOf (d + 0) b1 a3 x7.2 _ _ hx10) ?_
        refine Z_blk k_X0_passSpan 1 (pc' := 39) (lo' := [some (vR q 10 0), some (vR b1 11 0), some (vI a2), some (vI a3), none]) (st' := [vI x10.1, vI a3, vR (q + 1) 0 6]) (M1 := x10.2) rfl ?_
        obtain ⟨hc11, h⟩ := of_grd h
        obtain ⟨M12, eM12, h⟩ := of_zlet h
        refine Z_one k_X0_passSpan rfl (pc' := 40) (lo' := [some (vR q 10 0), some (vR b1 11 0), some (vI a2), some (vI a3), none]) (st' := []) (M1 := M12) (by rw [eM12]; exact if_pos hc11) ?_
        refine Z_blk k_X0_passSpan 2 (pc' := 9) (lo' := [some (vR q 10 0), some (vR b1 11 0), some (vI a2), some (vI (o_add a3 1)), none]) (st' := []) (M1 := M12) rfl ?_
        refine Z_mask [true, true, true, true, false] (lo0 := [some (vR q 10 0), some (vR b1 11 0), some (vI a2), some (vI (o_add a3 1)), none]) rfl ?_
        exact ih q b1 a2 (o_add a3 1) M12 _ _ h
def f_X0_passSpan (q : Nat) (b1 : Nat) (a2 : Int) (M : AM) : Option (Int × AM) := if 1 ≤ a2 then f_X0_passSpan_9 zB q b1 a2 0 M else some (0, M)
theorem e_X0_passSpan {Y : List (Nat × Nat)} (d : Nat) (q : Nat) (b1 : Nat) (a2 : Int) (M : AM) (x : Int) (N : AM) (h : f_X0_passSpan q b1 a2 M = some (x, N)) : Ev Y (d + 3) m_X0_passSpan 0 [some (vR q 10 0), some (vR b1 11 0), some (vI a2), none, none] [] M (some (vI x)) N := by
  unfold f_X0_passSpan at h
  refine Z_blk k_X0_passSpan 2 (pc' := 2) (lo' := [some (vR q 10 0), some (vR b1 11 0), some (vI a2), none, none]) (st' := [vI 1, vI a2]) (M1 := M) rfl ?_
  refine Z_icmp k_X0_passSpan rfl 7 rfl (fun hc => ?_) (fun hc => ?_)
  · replace h := of_pos hc h
    refine Z_blk k_X0_passSpan 2 (pc' := 9) (lo' := [some (vR q 10 0), some (vR b1 11 0), some (vI a2), some (vI 0), none]) (st' := []) (M1 := M) rfl ?_
    refine Z_mask [true, true, true, true, false] (lo0 := [some (vR q 10 0), some (vR b1 11 0), some (vI a2), some (vI 0), none]) rfl ?_
    exact e_X0_passSpan_9 d zB q b1 a2 0 M _ _ h
  · replace h := of_neg hc h
    refine Z_blk k_X0_passSpan 1 (pc' := 6) (lo' := [some (vR q 10 0), some (vR b1 11 0), some (vI a2), none, none]) (st' := [vI 0]) (M1 := M) rfl ?_
    cases h
    exact Z_ret ⟨Or.inl rfl, _, rfl⟩ rfl
theorem l_0_21 : zhas 4089 (Jvm.Cond.methodLink "BellPullHouse$Days" 21 yX0_passSpan) = true := by decide +kernel
def f_X0_pass_13 : Nat → Nat → Nat → Int → Int → Int → Int → AM → Option (Int × AM)
  | 0, _, _, _, _, _, _, _ => none
  | n + 1, q, b1, a2, a3, a4, a5, M => if a2 ≤ a5 then some (a3, M) else (if a4 ≤ M b1 5 then some (a3, M) else ((f_X0_passSpan q b1 (o_sub a4 (M b1 5)) M).bind fun x1 => f_X0_pass_13 n q b1 a2 (o_or a3 x1.1) a4 (o_add a5 1) x1.2))
theorem e_X0_pass_13 {Y : List (Nat × Nat)} (d : Nat) : ∀ (n : Nat) (q : Nat) (b1 : Nat) (a2 : Int) (a3 : Int) (a4 : Int) (a5 : Int) (M : AM) (x : Int) (N : AM), f_X0_pass_13 n q b1 a2 a3 a4 a5 M = some (x, N) → Ev Y (d + 4) m_X0_pass 13 [some (vR q 10 0), some (vR b1 11 0), some (vI a2), some (vI a3), some (vI a4), some (vI a5)] [] M (some (vI x)) N := by
  intro n
  induction n with
  | zero => intro q b1 a2 a3 a4 a5 M x N h; cases h
  | succ n ih =>
    intro q b1 a2 a3 a4 a5 M x N h
    simp only [f_X0_pass_13] at h
    refine Z_blk k_X0_pass 2 (pc' := 16) (lo' := [some (vR q 10 0), some (vR b1 11 0), some (vI a2), some (vI a3), some (vI a4), some (vI a5)]) (st' := [vI a2, vI a5]) (M1 := M) rfl ?_
    refine Z_icmp k_X0_pass rfl 49 rfl (fun hc => ?_) (fun hc => ?_)
    · replace h := of_pos hc h
      refine Z_blk k_X0_pass 1 (pc' := 50) (lo' := [some (vR q 10 0), some (vR b1 11 0), some (vI a2), some (vI a3), some (vI a4), some (vI a5)]) (st' := [vI a3]) (M1 := M) rfl ?_
      cases h
      exact Z_ret ⟨Or.inl rfl, _, rfl⟩ rfl
    · replace h := of_neg hc h
      refine Z_blk k_X0_pass 3 (pc' := 25) (lo' := [some (vR q 10 0), some (vR b1 11 0), some (vI a2), some (vI a3), some (vI a4), some (vI a5)]) (st' := [vI a4, vI (M b1 5)]) (M1 := M) rfl ?_
      refine Z_icmp k_X0_pass rfl 49 rfl (fun hc => ?_) (fun hc => ?_)
      · replace h := of_pos hc h
        refine Z_blk k_X0_pass 1 (pc' := 50) (lo' := [some (vR q 10 0), some (vR b1 11 0), some (vI a2), some (vI a3), some (vI a4), some (vI a5)]) (st' := [vI a3]) (M1 := M) rfl ?_
        cases h
        exact Z_ret ⟨Or.inl rfl, _, rfl⟩ rfl
      · replace h := of_neg hc h
        refine Z_blk k_X0_pass 7 (pc' := 38) (lo' := [some (vR q 10 0), some (vR b1 11 0), some (vI a2), some (vI a3), some (vI a4), some (vI a5)]) (st' := [vI (o_sub a4 (M b1 5)), vR b1 11 0, vR q 10 0, vI a3]) (M1 := M) rfl ?_
        obtain ⟨x1, hx1, h⟩ := Option.bind_eq_some_iff.mp h
        refine Z_callV8 k_X0_pass k_X0_passSpan rfl rfl (l_0_21) (ci := 0) rfl [vR b1 11 0, vI (o_sub a4 (M b1 5))] [vI a3] rfl rfl (Nat.le_of_ble_eq_true rfl) (Nat.le_of_ble_eq_true rfl) (e_X0_passSpan (d + 0) q b1 (o_sub a4 (M b1 5)) M _ _ hx1) ?_
        refine Z_blk k_X0_pass 4 (pc' := 13) (lo' := [some (vR q 10 0), some (vR b1 11 0), some (vI a2), some (vI (o_or a3 x1.1)), some (vI a4), some (vI (o_add a5 1))]) (st' := []) (M1 := x1.2) rfl ?_
        refine Z_mask [true, true, true, true, true, true] (lo0 := [some (vR q 10 0), some (vR b1 11 0), some (vI a2), some (vI (o_or a3 x1.1)), some (vI a4), some (vI (o_add a5 1))]) rfl ?_
        exact ih q b1 a2 (o_or a3 x1.1) a4 (o_add a5 1) x1.2 _ _ h
def f_X0_pass (q : Nat) (b1 : Nat) (a2 : Int) (M : AM) : Option (Int × AM) := f_X0_pass_13 zB q b1 a2 0 (o_add (M b1 5) a2) 0 M
theorem e_X0_pass {Y : List (Nat × Nat)} (d : Nat) (q : Nat) (b1 : Nat) (a2 : Int) (M : AM) (x : Int) (N : AM) (h : f_X0_pass q b1 a2 M = some (x, N)) : Ev Y (d + 4) m_X0_pass 0 [some (vR q 10 0), some (vR b1 11 0), some (vI a2), none, none, none] [] M (some (vI x)) N := by
  unfold f_X0_pass at h
  refine Z_blk k_X0_pass 9 (pc' := 13) (lo' := [some (vR q 10 0), some (vR b1 11 0), some (vI a2), some (vI 0), some (vI (o_add (M b1 5) a2)), some (vI 0)]) (st' := []) (M1 := M) rfl ?_
  refine Z_mask [true, true, true, true, true, true] (lo0 := [some (vR q 10 0), some (vR b1 11 0), some (vI a2), some (vI 0), some (vI (o_add (M b1 5) a2)), some (vI 0)]) rfl ?_
  exact e_X0_pass_13 d zB q b1 a2 0 (o_add (M b1 5) a2) 0 M _ _ h
def f_J7_fill_d0a16_6 : Nat → Nat → Nat → Int → Int → Int → AM → Option (AM)
  | 0, _, _, _, _, _, _ => none
  | n + 1, a0, n0, a1, a3, a4, M => if a4 ≤ a3 then some M else (if 0 ≤ a3 ∧ a3 < ((n0 : Nat) : Int) then (zlet (am_upd M a0 (Int.toNat a3) a1) fun M2 => f_J7_fill_d0a16_6 n a0 n0 a1 (o_add a3 1) a4 M2) else none)
theorem e_J7_fill_d0a16_6 {Y : List (Nat × Nat)} (d : Nat) : ∀ (n : Nat) (a0 : Nat) (n0 : Nat) (a1 : Int) (a3 : Int) (a4 : Int) (M : AM) (N : AM), f_J7_fill_d0a16_6 n a0 n0 a1 a3 a4 M = some N → Ev Y (d + 0) m_J7_fill_d0a16 6 [some (vR a0 1 n0), some (vL a1), none, some (vI a3), some (vI a4)] [] M none N := by
  intro n
  induction n with
  | zero => intro a0 n0 a1 a3 a4 M N h; cases h
  | succ n ih =>
    intro a0 n0 a1 a3 a4 M N h
    simp only [f_J7_fill_d0a16_6] at h
    refine Z_blk k_J7_fill_d0a16 2 (pc' := 9) (lo' := [some (vR a0 1 n0), some (vL a1), none, some (vI a3), some (vI a4)]) (st' := [vI a4, vI a3]) (M1 := M) rfl ?_
    refine Z_icmp k_J7_fill_d0a16 rfl 22 rfl (fun hc => ?_) (fun hc => ?_)
    · replace h := of_pos hc h
      cases h
      exact Z_ret ⟨rfl, _, rfl⟩ rfl
    · replace h := of_neg hc h
      refine Z_blk k_J7_fill_d0a16 3 (pc' := 15) (lo' := [some (vR a0 1 n0), some (vL a1), none, some (vI a3), some (vI a4)]) (st' := [vL a1, vI a3, vR a0 1 n0]) (M1 := M) rfl ?_
      obtain ⟨hc1, h⟩ := of_grd h
      obtain ⟨M2, eM2, h⟩ := of_zlet h
      refine Z_one k_J7_fill_d0a16 rfl (pc' := 16) (lo' := [some (vR a0 1 n0), some (vL a1), none, some (vI a3), some (vI a4)]) (st' := []) (M1 := M2) (by rw [eM2]; exact if_pos hc1) ?_
      refine Z_blk k_J7_fill_d0a16 2 (pc' := 6) (lo' := [some (vR a0 1 n0), some (vL a1), none, some (vI (o_add a3 1)), some (vI a4)]) (st' := []) (M1 := M2) rfl ?_
      refine Z_mask [true, true, false, true, true] (lo0 := [some (vR a0 1 n0), some (vL a1), none, some (vI (o_add a3 1)), some (vI a4)]) rfl ?_
      exact ih a0 n0 a1 (o_add a3 1) a4 M2 _ h
def f_J7_fill_d0a16 (a0 : Nat) (n0 : Nat) (a1 : Int) (M : AM) : Option (AM) := f_J7_fill_d0a16_6 zB a0 n0 a1 0 ((n0 : Nat) : Int) M
theorem e_J7_fill_d0a16 {Y : List (Nat × Nat)} (d : Nat) (a0 : Nat) (n0 : Nat) (a1 : Int) (M : AM) (N : AM) (h : f_J7_fill_d0a16 a0 n0 a1 M = some N) : Ev Y (d + 0) m_J7_fill_d0a16 0 [some (vR a0 1 n0), some (vL a1), none, none, none] [] M none N := by
  unfold f_J7_fill_d0a16 at h
  refine Z_blk k_J7_fill_d0a16 5 (pc' := 6) (lo' := [some (vR a0 1 n0), some (vL a1), none, some (vI 0), some (vI ((n0 : Nat) : Int))]) (st' := []) (M1 := M) rfl ?_
  refine Z_mask [true, true, false, true, true] (lo0 := [some (vR a0 1 n0), some (vL a1), none, some (vI 0), some (vI ((n0 : Nat) : Int))]) rfl ?_
  exact e_J7_fill_d0a16_6 d zB a0 n0 a1 0 ((n0 : Nat) : Int) M _ h
theorem l_1_75 : zhas 3110 (Jvm.Cond.methodLink "BellPullHouse$House" 75 yJ7_fill_d0a16) = true := by decide +kernel
def f_X1_clear (q : Nat) (M : AM) : Option (AM) := zlet (am_upd M q 0 8) fun M1 => zlet (am_upd M1 q 1 2) fun M2 => zlet (am_upd M2 q 2 0) fun M3 => zlet (am_upd M3 q 3 0) fun M4 => zlet (am_upd M4 q 4 0) fun M5 => zlet (am_upd M5 q 5 0) fun M6 => zlet (am_upd M6 q 6 0) fun M7 => zlet (am_upd M7 q 7 0) fun M8 => zlet (am_upd M8 q 8 0) fun M9 => zlet (am_upd M9 q 19 0) fun M10 => (f_J7_fill_d0a16 (q + 9) 24 0 M10).bind fun x11 => some x11
theorem e_X1_clear {Y : List (Nat × Nat)} (d : Nat) (q : Nat) (M : AM) (N : AM) (h : f_X1_clear q M = some N) : Ev Y (d + 1) m_X1_clear 0 [some (vR q 11 0)] [] M none N := by
  unfold f_X1_clear at h
  obtain ⟨M1, eM1, h⟩ := of_zlet h
  refine Z_blk k_X1_clear 3 (pc' := 6) (lo' := [some (vR q 11 0)]) (st' := []) (M1 := M1) (by rw [eM1]; rfl) ?_
  obtain ⟨M2, eM2, h⟩ := of_zlet h
  refine Z_blk k_X1_clear 3 (pc' := 11) (lo' := [some (vR q 11 0)]) (st' := []) (M1 := M2) (by rw [eM2]; rfl) ?_
  obtain ⟨M3, eM3, h⟩ := of_zlet h
  refine Z_blk k_X1_clear 3 (pc' := 16) (lo' := [some (vR q 11 0)]) (st' := []) (M1 := M3) (by rw [eM3]; rfl) ?_
  obtain ⟨M4, eM4, h⟩ := of_zlet h
  refine Z_blk k_X1_clear 3 (pc' := 21) (lo' := [some (vR q 11 0)]) (st' := []) (M1 := M4) (by rw [eM4]; rfl) ?_
  obtain ⟨M5, eM5, h⟩ := of_zlet h
  refine Z_blk k_X1_clear 3 (pc' := 26) (lo' := [some (vR q 11 0)]) (st' := []) (M1 := M5) (by rw [eM5]; rfl) ?_
  obtain ⟨M6, eM6, h⟩ := of_zlet h
  refine Z_blk k_X1_clear 3 (pc' := 31) (lo' := [some (vR q 11 0)]) (st' := []) (M1 := M6) (by rw [eM6]; rfl) ?_
  obtain ⟨M7, eM7, h⟩ := of_zlet h
  refine Z_blk k_X1_clear 3 (pc' := 36) (lo' := [some (vR q 11 0)]) (st' := []) (M1 := M7) (by rw [eM7]; rfl) ?_
  obtain ⟨M8, eM8, h⟩ := of_zlet h
  refine Z_blk k_X1_clear 3 (pc' := 41) (lo' := [some (vR q 11 0)]) (st' := []) (M1 := M8) (by rw [eM8]; rfl) ?_
  obtain ⟨M9, eM9, h⟩ := of_zlet h
  refine Z_blk k_X1_clear 3 (pc' := 46) (lo' := [some (vR q 11 0)]) (st' := []) (M1 := M9) (by rw [eM9]; rfl) ?_
  obtain ⟨M10, eM10, h⟩ := of_zlet h
  refine Z_blk k_X1_clear 3 (pc' := 51) (lo' := [some (vR q 11 0)]) (st' := []) (M1 := M10) (by rw [eM10]; rfl) ?_
  refine Z_blk k_X1_clear 3 (pc' := 56) (lo' := [some (vR q 11 0)]) (st' := [vL 0, vR (q + 9) 1 24]) (M1 := M10) rfl ?_
  obtain ⟨x11, hx11, h⟩ := Option.bind_eq_some_iff.mp h
  refine Z_callS8 k_X1_clear k_J7_fill_d0a16 rfl rfl (l_1_75) [vR (q + 9) 1 24, vL 0] [] rfl rfl (Nat.le_of_ble_eq_true rfl) (Nat.le_of_ble_eq_true rfl) (e_J7_fill_d0a16 (d + 0) (q + 9) 24 0 M10 _ hx11) ?_
  cases h
  exact Z_ret ⟨rfl, _, rfl⟩ rfl
def f_X1_copyFrom (q : Nat) (b1 : Nat) (M : AM) : Option (AM) := zlet (am_upd M q 0 (M b1 0)) fun M1 => zlet (am_upd M1 q 1 (M1 b1 1)) fun M2 => zlet (am_upd M2 q 2 (M2 b1 2)) fun M3 => zlet (am_upd M3 q 3 (M3 b1 3)) fun M4 => zlet (am_upd M4 q 4 (M4 b1 4)) fun M5 => zlet (am_upd M5 q 5 (M5 b1 5)) fun M6 => if M6 b1 6 = 0 ∨ M6 b1 6 = 1 then (zlet (am_upd M6 q 6 (M6 b1 6)) fun M8 => zlet (am_upd M8 q 7 (M8 b1 7)) fun M9 => zlet (am_upd M9 q 8 (M9 b1 8)) fun M10 => if M10 b1 19 = 0 ∨ M10 b1 19 = 1 then (zlet (am_upd M10 q 19 (M10 b1 19)) fun M12 => zlet (am_row M12 (q + 1) (cp_row (M12 (b1 + 1)) (M12 (q + 1)) (Int.toNat 0) (Int.toNat 0) (Int.toNat 10))) fun M13 => zlet (am_row M13 (q + 2) (cp_row (M13 (b1 + 2)) (M13 (q + 2)) (Int.toNat 0) (Int.toNat 0) (Int.toNat 10))) fun M14 => zlet (am_row M14 (q + 3) (cp_row (M14 (b1 + 3)) (M14 (q + 3)) (Int.toNat 0) (Int.toNat 0) (Int.toNat 10))) fun M15 => zlet (am_row M15 (q + 4) (cp_row (M15 (b1 + 4)) (M15 (q + 4)) (Int.toNat 0) (Int.toNat 0) (Int.toNat 6))) fun M16 => zlet (am_row M16 (q + 5) (cp_row (M16 (b1 + 5)) (M16 (q + 5)) (Int.toNat 0) (Int.toNat 0) (Int.toNat 6))) fun M17 => zlet (am_row M17 (q + 6) (cp_row (M17 (b1 + 6)) (M17 (q + 6)) (Int.toNat 0) (Int.toNat 0) (Int.toNat 6))) fun M18 => zlet (am_row M18 (q + 7) (cp_row (M18 (b1 + 7)) (M18 (q + 7)) (Int.toNat 0) (Int.toNat 0) (Int.toNat 6))) fun M19 => zlet (am_row M19 (q + 8) (cp_row (M19 (b1 + 8)) (M19 (q + 8)) (Int.toNat 0) (Int.toNat 0) (Int.toNat 6))) fun M20 => zlet (am_row M20 (q + 9) (cp_row (M20 (b1 + 9)) (M20 (q + 9)) (Int.toNat 0) (Int.toNat 0) (Int.toNat 24))) fun M21 => zlet (am_row M21 (q + 10) (cp_row (M21 (b1 + 10)) (M21 (q + 10)) (Int.toNat 0) (Int.toNat 0) (Int.toNat 64))) fun M22 => some M22) else none) else none
theorem e_X1_copyFrom {Y : List (Nat × Nat)} (d : Nat) (q : Nat) (b1 : Nat) (M : AM) (N : AM) (h : f_X1_copyFrom q b1 M = some N) : Ev Y (d + 0) m_X1_copyFrom 0 [some (vR q 11 0), some (vR b1 11 0)] [] M none N := by
  unfold f_X1_copyFrom at h
  obtain ⟨M1, eM1, h⟩ := of_zlet h
  refine Z_blk k_X1_copyFrom 4 (pc' := 8) (lo' := [some (vR q 11 0), some (vR b1 11 0)]) (st' := []) (M1 := M1) (by rw [eM1]; rfl) ?_
  obtain ⟨M2, eM2, h⟩ := of_zlet h
  refine Z_blk k_X1_copyFrom 4 (pc' := 16) (lo' := [some (vR q 11 0), some (vR b1 11 0)]) (st' := []) (M1 := M2) (by rw [eM2]; rfl) ?_
  obtain ⟨M3, eM3, h⟩ := of_zlet h
  refine Z_blk k_X1_copyFrom 4 (pc' := 24) (lo' := [some (vR q 11 0), some (vR b1 11 0)]) (st' := []) (M1 := M3) (by rw [eM3]; rfl) ?_
  obtain ⟨M4, eM4, h⟩ := of_zlet h
  refine Z_blk k_X1_copyFrom 4 (pc' := 32) (lo' := [some (vR q 11 0), some (vR b1 11 0)]) (st' := []) (M1 := M4) (by rw [eM4]; rfl) ?_
  obtain ⟨M5, eM5, h⟩ := of_zlet h
  refine Z_blk k_X1_copyFrom 4 (pc' := 40) (lo' := [some (vR q 11 0), some (vR b1 11 0)]) (st' := []) (M1 := M5) (by rw [eM5]; rfl) ?_
  obtain ⟨M6, eM6, h⟩ := of_zlet h
  refine Z_blk k_X1_copyFrom 4 (pc' := 48) (lo' := [some (vR q 11 0), some (vR b1 11 0)]) (st' := []) (M1 := M6) (by rw [eM6]; rfl) ?_
  refine Z_blk k_X1_copyFrom 3 (pc' := 53) (lo' := [some (vR q 11 0), some (vR b1 11 0)]) (st' := [vI (M6 b1 6), vR q 11 0]) (M1 := M6) rfl ?_
  obtain ⟨hc7, h⟩ := of_grd h
  obtain ⟨M8, eM8, h⟩ := of_zlet h
  refine Z_one k_X1_copyFrom rfl (pc' := 56) (lo' := [some (vR q 11 0), some (vR b1 11 0)]) (st' := []) (M1 := M8) (by rw [eM8]; exact if_pos hc7) ?_
  obtain ⟨M9, eM9, h⟩ := of_zlet h
  refine Z_blk k_X1_copyFrom 4 (pc' := 64) (lo' := [some (vR q 11 0), some (vR b1 11 0)]) (st' := []) (M1 := M9) (by rw [eM9]; rfl) ?_
  obtain ⟨M10, eM10, h⟩ := of_zlet h
  refine Z_blk k_X1_copyFrom 4 (pc' := 72) (lo' := [some (vR q 11 0), some (vR b1 11 0)]) (st' := []) (M1 := M10) (by rw [eM10]; rfl) ?_
  refine Z_blk k_X1_copyFrom 3 (pc' := 77) (lo' := [some (vR q 11 0), some (vR b1 11 0)]) (st' := [vI (M10 b1 19), vR q 11 0]) (M1 := M10) rfl ?_
  obtain ⟨hc11, h⟩ := of_grd h
  obtain ⟨M12, eM12, h⟩ := of_zlet h
  refine Z_one k_X1_copyFrom rfl (pc' := 80) (lo' := [some (vR q 11 0), some (vR b1 11 0)]) (st' := []) (M1 := M12) (by rw [eM12]; exact if_pos hc11) ?_
  refine Z_blk k_X1_copyFrom 7 (pc' := 92) (lo' := [some (vR q 11 0), some (vR b1 11 0)]) (st' := [vI 10, vI 0, vR (q + 1) 0 10, vI 0, vR (b1 + 1) 0 10]) (M1 := M12) rfl ?_
  obtain ⟨M13, eM13, h⟩ := of_zlet h
  refine Z_one k_X1_copyFrom rfl (pc' := 95) (lo' := [some (vR q 11 0), some (vR b1 11 0)]) (st' := []) (M1 := M13) (by rw [eM13]; exact rfl) ?_
  refine Z_blk k_X1_copyFrom 7 (pc' := 107) (lo' := [some (vR q 11 0), some (vR b1 11 0)]) (st' := [vI 10, vI 0, vR (q + 2) 0 10, vI 0, vR (b1 + 2) 0 10]) (M1 := M13) rfl ?_
  obtain ⟨M14, eM14, h⟩ := of_zlet h
  refine Z_one k_X1_copyFrom rfl (pc' := 110) (lo' := [some (vR q 11 0), some (vR b1 11 0)]) (st' := []) (M1 := M14) (by rw [eM14]; exact rfl) ?_
  refine Z_blk k_X1_copyFrom 7 (pc' := 122) (lo' := [some (vR q 11 0), some (vR b1 11 0)]) (st' := [vI 10, vI 0, vR (q + 3) 0 10, vI 0, vR (b1 + 3) 0 10]) (M1 := M14) rfl ?_
  obtain ⟨M15, eM15, h⟩ := of_zlet h
  refine Z_one k_X1_copyFrom rfl (pc' := 125) (lo' := [some (vR q 11 0), some (vR b1 11 0)]) (st' := []) (M1 := M15) (by rw [eM15]; exact rfl) ?_
  refine Z_blk k_X1_copyFrom 7 (pc' := 137) (lo' := [some (vR q 11 0), some (vR b1 11 0)]) (st' := [vI 6, vI 0, vR (q + 4) 0 6, vI 0, vR (b1 + 4) 0 6]) (M1 := M15) rfl ?_
  obtain ⟨M16, eM16, h⟩ := of_zlet h
  refine Z_one k_X1_copyFrom rfl (pc' := 140) (lo' := [some (vR q 11 0), some (vR b1 11 0)]) (st' := []) (M1 := M16) (by rw [eM16]; exact rfl) ?_
  refine Z_blk k_X1_copyFrom 7 (pc' := 152) (lo' := [some (vR q 11 0), some (vR b1 11 0)]) (st' := [vI 6, vI 0, vR (q + 5) 0 6, vI 0, vR (b1 + 5) 0 6]) (M1 := M16) rfl ?_
  obtain ⟨M17, eM17, h⟩ := of_zlet h
  refine Z_one k_X1_copyFrom rfl (pc' := 155) (lo' := [some (vR q 11 0), some (vR b1 11 0)]) (st' := []) (M1 := M17) (by rw [eM17]; exact rfl) ?_
  refine Z_blk k_X1_copyFrom 7 (pc' := 167) (lo' := [some (vR q 11 0), some (vR b1 11 0)]) (st' := [vI 6, vI 0, vR (q + 6) 0 6, vI 0, vR (b1 + 6) 0 6]) (M1 := M17) rfl ?_
  obtain ⟨M18, eM18, h⟩ := of_zlet h
  refine Z_one k_X1_copyFrom rfl (pc' := 170) (lo' := [some (vR q 11 0), some (vR b1 11 0)]) (st' := []) (M1 := M18) (by rw [eM18]; exact rfl) ?_
  refine Z_blk k_X1_copyFrom 7 (pc' := 182) (lo' := [some (vR q 11 0), some (vR b1 11 0)]) (st' := [vI 6, vI 0, vR (q + 7) 0 6, vI 0, vR (b1 + 7) 0 6]) (M1 := M18) rfl ?_
  obtain ⟨M19, eM19, h⟩ := of_zlet h
  refine Z_one k_X1_copyFrom rfl (pc' := 185) (lo' := [some (vR q 11 0), some (vR b1 11 0)]) (st' := []) (M1 := M19) (by rw [eM19]; exact rfl) ?_
  refine Z_blk k_X1_copyFrom 7 (pc' := 197) (lo' := [some (vR q 11 0), some (vR b1 11 0)]) (st' := [vI 6, vI 0, vR (q + 8) 0 6, vI 0, vR (b1 + 8) 0 6]) (M1 := M19) rfl ?_
  obtain ⟨M20, eM20, h⟩ := of_zlet h
  refine Z_one k_X1_copyFrom rfl (pc' := 200) (lo' := [some (vR q 11 0), some (vR b1 11 0)]) (st' := []) (M1 := M20) (by rw [eM20]; exact rfl) ?_
  refine Z_blk k_X1_copyFrom 7 (pc' := 212) (lo' := [some (vR q 11 0), some (vR b1 11 0)]) (st' := [vI 24, vI 0, vR (q + 9) 1 24, vI 0, vR (b1 + 9) 1 24]) (M1 := M20) rfl ?_
  obtain ⟨M21, eM21, h⟩ := of_zlet h
  refine Z_one k_X1_copyFrom rfl (pc' := 215) (lo' := [some (vR q 11 0), some (vR b1 11 0)]) (st' := []) (M1 := M21) (by rw [eM21]; exact rfl) ?_
  refine Z_blk k_X1_copyFrom 7 (pc' := 227) (lo' := [some (vR q 11 0), some (vR b1 11 0)]) (st' := [vI 64, vI 0, vR (q + 10) 0 64, vI 0, vR (b1 + 10) 0 64]) (M1 := M21) rfl ?_
  obtain ⟨M22, eM22, h⟩ := of_zlet h
  refine Z_one k_X1_copyFrom rfl (pc' := 230) (lo' := [some (vR q 11 0), some (vR b1 11 0)]) (st' := []) (M1 := M22) (by rw [eM22]; exact rfl) ?_
  cases h
  exact Z_ret ⟨rfl, _, rfl⟩ rfl
def f_X1_isRoom (q : Nat) (a1 : Int) (M : AM) : Option (Int × AM) := if a1 < 0 then some (0, M) else (if M q 2 ≤ a1 then some (0, M) else some (1, M))
theorem e_X1_isRoom {Y : List (Nat × Nat)} (d : Nat) (q : Nat) (a1 : Int) (M : AM) (x : Int) (N : AM) (h : f_X1_isRoom q a1 M = some (x, N)) : Ev Y (d + 0) m_X1_isRoom 0 [some (vR q 11 0), some (vI a1)] [] M (some (vI x)) N := by
  unfold f_X1_isRoom at h
  refine Z_blk k_X1_isRoom 1 (pc' := 1) (lo' := [some (vR q 11 0), some (vI a1)]) (st' := [vI a1]) (M1 := M) rfl ?_
  refine Z_if k_X1_isRoom rfl 16 rfl (fun hc => ?_) (fun hc => ?_)
  · replace h := of_pos hc h
    refine Z_blk k_X1_isRoom 1 (pc' := 17) (lo' := [some (vR q 11 0), some (vI a1)]) (st' := [vI 0]) (M1 := M) rfl ?_
    cases h
    exact Z_ret ⟨Or.inr ⟨rfl, Or.inl rfl⟩, _, rfl⟩ rfl
  · replace h := of_neg hc h
    refine Z_blk k_X1_isRoom 3 (pc' := 9) (lo' := [some (vR q 11 0), some (vI a1)]) (st' := [vI (M q 2), vI a1]) (M1 := M) rfl ?_
    refine Z_icmp k_X1_isRoom rfl 16 rfl (fun hc => ?_) (fun hc => ?_)
    · replace h := of_pos hc h
      refine Z_blk k_X1_isRoom 1 (pc' := 17) (lo' := [some (vR q 11 0), some (vI a1)]) (st' := [vI 0]) (M1 := M) rfl ?_
      cases h
      exact Z_ret ⟨Or.inr ⟨rfl, Or.inl rfl⟩, _, rfl⟩ rfl
    · replace h := of_neg hc h
      refine Z_blk k_X1_isRoom 2 (pc' := 17) (lo' := [some (vR q 11 0), some (vI a1)]) (st' := [vI 1]) (M1 := M) rfl ?_
      cases h
      exact Z_ret ⟨Or.inr ⟨rfl, Or.inr rfl⟩, _, rfl⟩ rfl
def f_X1_isWire (q : Nat) (a1 : Int) (M : AM) : Option (Int × AM) := if a1 < 0 then some (0, M) else (if M q 3 ≤ a1 then some (0, M) else some (1, M))
theorem e_X1_isWire {Y : List (Nat × Nat)} (d : Nat) (q : Nat) (a1 : Int) (M : AM) (x : Int) (N : AM) (h : f_X1_isWire q a1 M = some (x, N)) : Ev Y (d + 0) m_X1_isWire 0 [some (vR q 11 0), some (vI a1)] [] M (some (vI x)) N := by
  unfold f_X1_isWire at h
  refine Z_blk k_X1_isWire 1 (pc' := 1) (lo' := [some (vR q 11 0), some (vI a1)]) (st' := [vI a1]) (M1 := M) rfl ?_
  refine Z_if k_X1_isWire rfl 16 rfl (fun hc => ?_) (fun hc => ?_)
  · replace h := of_pos hc h
    refine Z_blk k_X1_isWire 1 (pc' := 17) (lo' := [some (vR q 11 0), some (vI a1)]) (st' := [vI 0]) (M1 := M) rfl ?_
    cases h
    exact Z_ret ⟨Or.inr ⟨rfl, Or.inl rfl⟩, _, rfl⟩ rfl
  · replace h := of_neg hc h
    refine Z_blk k_X1_isWire 3 (pc' := 9) (lo' := [some (vR q 11 0), some (vI a1)]) (st' := [vI (M q 3), vI a1]) (M1 := M) rfl ?_
    refine Z_icmp k_X1_isWire rfl 16 rfl (fun hc => ?_) (fun hc => ?_)
    · replace h := of_pos hc h
      refine Z_blk k_X1_isWire 1 (pc' := 17) (lo' := [some (vR q 11 0), some (vI a1)]) (st' := [vI 0]) (M1 := M) rfl ?_
      cases h
      exact Z_ret ⟨Or.inr ⟨rfl, Or.inl rfl⟩, _, rfl⟩ rfl
    · replace h := of_neg hc h
      refine Z_blk k_X1_isWire 2 (pc' := 17) (lo' := [some (vR q 11 0), some (vI a1)]) (st' := [vI 1]) (M1 := M) rfl ?_
      cases h
      exact Z_ret ⟨Or.inr ⟨rfl, Or.inr rfl⟩, _, rfl⟩ rfl
def f_X1_isCouple (q : Nat) (a1 : Int) (M : AM) : Option (Int × AM) := if a1 < 0 then some (0, M) else (if M q 4 ≤ a1 then some (0, M) else some (1, M))
theorem e_X1_isCouple {Y : List (Nat × Nat)} (d : Nat) (q : Nat) (a1 : Int) (M : AM) (x : Int) (N : AM) (h : f_X1_isCouple q a1 M = some (x, N)) : Ev Y (d + 0) m_X1_isCouple 0 [some (vR q 11 0), some (vI a1)] [] M (some (vI x)) N := by
  unfold f_X1_isCouple at h
  refine Z_blk k_X1_isCouple 1 (pc' := 1) (lo' := [some (vR q 11 0), some (vI a1)]) (st' := [vI a1]) (M1 := M) rfl ?_
  refine Z_if k_X1_isCouple rfl 16 rfl (fun hc => ?_) (fun hc => ?_)
  · replace h := of_pos hc h
    refine Z_blk k_X1_isCouple 1 (pc' := 17) (lo' := [some (vR q 11 0), some (vI a1)]) (st' := [vI 0]) (M1 := M) rfl ?_
    cases h
    exact Z_ret ⟨Or.inr ⟨rfl, Or.inl rfl⟩, _, rfl⟩ rfl
  · replace h := of_neg hc h
    refine Z_blk k_X1_isCouple 3 (pc' := 9) (lo' := [some (vR q 11 0), some (vI a1)]) (st' := [vI (M q 4), vI a1]) (M1 := M) rfl ?_
    refine Z_icmp k_X1_isCouple rfl 16 rfl (fun hc => ?_) (fun hc => ?_)
    · replace h := of_pos hc h
      refine Z_blk k_X1_isCouple 1 (pc' := 17) (lo' := [some (vR q 11 0), some (vI a1)]) (st' := [vI 0]) (M1 := M) rfl ?_
      cases h
      exact Z_ret ⟨Or.inr ⟨rfl, Or.inl rfl⟩, _, rfl⟩ rfl
    · replace h := of_neg hc h
      refine Z_blk k_X1_isCouple 2 (pc' := 17) (lo' := [some (vR q 11 0), some (vI a1)]) (st' := [vI 1]) (M1 := M) rfl ?_
      cases h
      exact Z_ret ⟨Or.inr ⟨rfl, Or.inr rfl⟩, _, rfl⟩ rfl
def f_X1_isMendable (q : Nat) (a1 : Int) (M : AM) : Option (Int × AM) := (f_X1_isWhole q a1 M).bind fun x1 => if x1.1 = 0 then some (1, x1.2) else (if 0 ≤ a1 ∧ a1 < 10 then (if x1.2 (q + 3) (Int.toNat a1) ≤ 0 then some (0, x1.2) else some (1, x1.2)) else none)
theorem e_X1_isMendable {Y : List (Nat × Nat)} (d : Nat) (q : Nat) (a1 : Int) (M : AM) (x : Int) (N : AM) (h : f_X1_isMendable q a1 M = some (x, N)) : Ev Y (d + 1) m_X1_isMendable 0 [some (vR q 11 0), some (vI a1)] [] M (some (vI x)) N := by
  unfold f_X1_isMendable at h
  refine Z_blk k_X1_isMendable 2 (pc' := 2) (lo' := [some (vR q 11 0), some (vI a1)]) (st' := [vI a1, vR q 11 0]) (M1 := M) rfl ?_
  obtain ⟨x1, hx1, h⟩ := Option.bind_eq_some_iff.mp h
  refine Z_callV8 k_X1_isMendable k_X1_isWhole rfl rfl (l_1_87) (ci := 1) rfl [vI a1] [] rfl rfl (Nat.le_of_ble_eq_true rfl) (Nat.le_of_ble_eq_true rfl) (e_X1_isWhole (d + 0) q a1 M _ _ hx1) ?_
  refine Z_if k_X1_isMendable rfl 17 rfl (fun hc => ?_) (fun hc => ?_)
  · replace h := of_pos hc h
    refine Z_blk k_X1_isMendable 2 (pc' := 22) (lo' := [some (vR q 11 0), some (vI a1)]) (st' := [vI 1]) (M1 := x1.2) rfl ?_
    cases h
    exact Z_ret ⟨Or.inr ⟨rfl, Or.inr rfl⟩, _, rfl⟩ rfl
  · replace h := of_neg hc h
    refine Z_blk k_X1_isMendable 3 (pc' := 13) (lo' := [some (vR q 11 0), some (vI a1)]) (st' := [vI a1, vR (q + 3) 0 10]) (M1 := x1.2) rfl ?_
    obtain ⟨hc2, h⟩ := of_grd h
    refine Z_one k_X1_isMendable rfl (pc' := 14) (lo' := [some (vR q 11 0), some (vI a1)]) (st' := [vI (x1.2 (q + 3) (Int.toNat a1))]) (M1 := x1.2) (if_pos hc2) ?_
    refine Z_if k_X1_isMendable rfl 21 rfl (fun hc => ?_) (fun hc => ?_)
    · replace h := of_pos hc h
      refine Z_blk k_X1_isMendable 1 (pc' := 22) (lo' := [some (vR q 11 0), some (vI a1)]) (st' := [vI 0]) (M1 := x1.2) rfl ?_
      cases h
      exact Z_ret ⟨Or.inr ⟨rfl, Or.inl rfl⟩, _, rfl⟩ rfl
    · replace h := of_neg hc h
      refine Z_blk k_X1_isMendable 2 (pc' := 22) (lo' := [some (vR q 11 0), some (vI a1)]) (st' := [vI 1]) (M1 := x1.2) rfl ?_
      cases h
      exact Z_ret ⟨Or.inr ⟨rfl, Or.inr rfl⟩, _, rfl⟩ rfl
def f_X1_findName_3 : Nat → Nat → Int → Int → Int → Int → AM → Option (Int × AM)
  | 0, _, _, _, _, _, _ => none
  | n + 1, q, a1, a2, a3, a5, M => if a2 ≤ a5 then some ((-1), M) else (if 24 ≤ o_add a1 a5 then some ((-1), M) else (if 0 ≤ o_add a1 a5 ∧ o_add a1 a5 < 24 then (if ¬ l_cmp (M (q + 9) (Int.toNat (o_add a1 a5))) a3 = 0 then f_X1_findName_3 n q a1 a2 a3 (o_add a5 1) M else some (a5, M)) else none))
theorem e_X1_findName_3 {Y : List (Nat × Nat)} (d : Nat) : ∀ (n : Nat) (q : Nat) (a1 : Int) (a2 : Int) (a3 : Int) (a5 : Int) (M : AM) (x : Int) (N : AM), f_X1_findName_3 n q a1 a2 a3 a5 M = some (x, N) → Ev Y (d + 0) m_X1_findName 3 [some (vR q 11 0), some (vI a1), some (vI a2), some (vL a3), none, some (vI a5)] [] M (some (vI x)) N := by
  intro n
  induction n with
  | zero => intro q a1 a2 a3 a5 M x N h; cases h
  | succ n ih =>
    intro q a1 a2 a3 a5 M x N h
    simp only [f_X1_findName_3] at h
    refine Z_blk k_X1_findName 2 (pc' := 6) (lo' := [some (vR q 11 0), some (vI a1), some (vI a2), some (vL a3), none, some (vI a5)]) (st' := [vI a2, vI a5]) (M1 := M) rfl ?_
    refine Z_icmp k_X1_findName rfl 41 rfl (fun hc => ?_) (fun hc => ?_)
    · replace h := of_pos hc h
      refine Z_blk k_X1_findName 1 (pc' := 42) (lo' := [some (vR q 11 0), some (vI a1), some (vI a2), some (vL a3), none, some (vI a5)]) (st' := [vI (-1)]) (M1 := M) rfl ?_
      cases h
      exact Z_ret ⟨Or.inl rfl, _, rfl⟩ rfl
    · replace h := of_neg hc h
      refine Z_blk k_X1_findName 4 (pc' := 15) (lo' := [some (vR q 11 0), some (vI a1), some (vI a2), some (vL a3), none, some (vI a5)]) (st' := [vI 24, vI (o_add a1 a5)]) (M1 := M) rfl ?_
      refine Z_icmp k_X1_findName rfl 41 rfl (fun hc => ?_) (fun hc => ?_)
      · replace h := of_pos hc h
        refine Z_blk k_X1_findName 1 (pc' := 42) (lo' := [some (vR q 11 0), some (vI a1), some (vI a2), some (vL a3), none, some (vI a5)]) (st' := [vI (-1)]) (M1 := M) rfl ?_
        cases h
        exact Z_ret ⟨Or.inl rfl, _, rfl⟩ rfl
      · replace h := of_neg hc h
        refine Z_blk k_X1_findName 5 (pc' := 26) (lo' := [some (vR q 11 0), some (vI a1), some (vI a2), some (vL a3), none, some (vI a5)]) (st' := [vI (o_add a1 a5), vR (q + 9) 1 24]) (M1 := M) rfl ?_
        obtain ⟨hc1, h⟩ := of_grd h
        refine Z_one k_X1_findName rfl (pc' := 27) (lo' := [some (vR q 11 0), some (vI a1), some (vI a2), some (vL a3), none, some (vI a5)]) (st' := [vL (M (q + 9) (Int.toNat (o_add a1 a5)))]) (M1 := M) (if_pos hc1) ?_
        refine Z_blk k_X1_findName 2 (pc' := 29) (lo' := [some (vR q 11 0), some (vI a1), some (vI a2), some (vL a3), none, some (vI a5)]) (st' := [vI (l_cmp (M (q + 9) (Int.toNat (o_add a1 a5))) a3)]) (M1 := M) rfl ?_
        refine Z_if k_X1_findName rfl 35 rfl (fun hc => ?_) (fun hc => ?_)
        · replace h := of_pos hc h
          refine Z_blk k_X1_findName 2 (pc' := 3) (lo' := [some (vR q 11 0), some (vI a1), some (vI a2), some (vL a3), none, some (vI (o_add a5 1))]) (st' := []) (M1 := M) rfl ?_
          refine Z_mask [true, true, true, true, false, true] (lo0 := [some (vR q 11 0), some (vI a1), some (vI a2), some (vL a3), none, some (vI (o_add a5 1))]) rfl ?_
          exact ih q a1 a2 a3 (o_add a5 1) M _ _ h
        · replace h := of_neg hc h
          refine Z_blk k_X1_findName 1 (pc' := 34) (lo' := [some (vR q 11 0), some (vI a1), some (vI a2), some (vL a3), none, some (vI a5)]) (st' := [vI a5]) (M1 := M) rfl ?_
          cases h
          exact Z_ret ⟨Or.inl rfl, _, rfl⟩ rfl
def f_X1_findName (q : Nat) (a1 : Int) (a2 : Int) (a3 : Int) (M : AM) : Option (Int × AM) := f_X1_findName_3 zB q a1 a2 a3 0 M
theorem e_X1_findName {Y : List (Nat × Nat)} (d : Nat) (q : Nat) (a1 : Int) (a2 : Int) (a3 : Int) (M : AM) (x : Int) (N : AM) (h : f_X1_findName q a1 a2 a3 M = some (x, N)) : Ev Y (d + 0) m_X1_findName 0 [some (vR q 11 0), some (vI a1), some (vI a2), some (vL a3), none, none] [] M (some (vI x)) N := by
  unfold f_X1_findName at h
  refine Z_blk k_X1_findName 2 (pc' := 3) (lo' := [some (vR q 11 0), some (vI a1), some (vI a2), some (vL a3), none, some (vI 0)]) (st' := []) (M1 := M) rfl ?_
  refine Z_mask [true, true, true, true, false, true] (lo0 := [some (vR q 11 0), some (vI a1), some (vI a2), some (vL a3), none, some (vI 0)]) rfl ?_
  exact e_X1_findName_3 d zB q a1 a2 a3 0 M _ _ h
theorem l_1_91 : zhas 3152 (Jvm.Cond.methodLink "BellPullHouse$House" 91 yX1_findName) = true := by decide +kernel
def f_X1_isTaken (q : Nat) (a1 : Int) (M : AM) : Option (Int × AM) := (f_X1_findName q 0 24 a1 M).bind fun x1 => if x1.1 = (-1) then some (0, x1.2) else some (1, x1.2)
theorem e_X1_isTaken {Y : List (Nat × Nat)} (d : Nat) (q : Nat) (a1 : Int) (M : AM) (x : Int) (N : AM) (h : f_X1_isTaken q a1 M = some (x, N)) : Ev Y (d + 1) m_X1_isTaken 0 [some (vR q 11 0), some (vL a1), none] [] M (some (vI x)) N := by
  unfold f_X1_isTaken at h
  refine Z_blk k_X1_isTaken 4 (pc' := 5) (lo' := [some (vR q 11 0), some (vL a1), none]) (st' := [vL a1, vI 24, vI 0, vR q 11 0]) (M1 := M) rfl ?_
  obtain ⟨x1, hx1, h⟩ := Option.bind_eq_some_iff.mp h
  refine Z_callV8 k_X1_isTaken k_X1_findName rfl rfl (l_1_91) (ci := 1) rfl [vI 0, vI 24, vL a1] [] rfl rfl (Nat.le_of_ble_eq_true rfl) (Nat.le_of_ble_eq_true rfl) (e_X1_findName (d + 0) q 0 24 a1 M _ _ hx1) ?_
  refine Z_blk k_X1_isTaken 1 (pc' := 9) (lo' := [some (vR q 11 0), some (vL a1), none]) (st' := [vI (-1), vI x1.1]) (M1 := x1.2) rfl ?_
  refine Z_icmp k_X1_isTaken rfl 16 rfl (fun hc => ?_) (fun hc => ?_)
  · replace h := of_pos hc h
    refine Z_blk k_X1_isTaken 1 (pc' := 17) (lo' := [some (vR q 11 0), some (vL a1), none]) (st' := [vI 0]) (M1 := x1.2) rfl ?_
    cases h
    exact Z_ret ⟨Or.inr ⟨rfl, Or.inl rfl⟩, _, rfl⟩ rfl
  · replace h := of_neg hc h
    refine Z_blk k_X1_isTaken 2 (pc' := 17) (lo' := [some (vR q 11 0), some (vL a1), none]) (st' := [vI 1]) (M1 := x1.2) rfl ?_
    cases h
    exact Z_ret ⟨Or.inr ⟨rfl, Or.inr rfl⟩, _, rfl⟩ rfl
def f_X1_findRoom (q : Nat) (a1 : Int) (M : AM) : Option (Int × AM) := (f_X1_findName q 0 (M q 2) a1 M).bind fun x1 => some (x1.1, x1.2)
theorem e_X1_findRoom {Y : List (Nat × Nat)} (d : Nat) (q : Nat) (a1 : Int) (M : AM) (x : Int) (N : AM) (h : f_X1_findRoom q a1 M = some (x, N)) : Ev Y (d + 1) m_X1_findRoom 0 [some (vR q 11 0), some (vL a1), none] [] M (some (vI x)) N := by
  unfold f_X1_findRoom at h
  refine Z_blk k_X1_findRoom 5 (pc' := 7) (lo' := [some (vR q 11 0), some (vL a1), none]) (st' := [vL a1, vI (M q 2), vI 0, vR q 11 0]) (M1 := M) rfl ?_
  obtain ⟨x1, hx1, h⟩ := Option.bind_eq_some_iff.mp h
  refine Z_callV8 k_X1_findRoom k_X1_findName rfl rfl (l_1_91) (ci := 1) rfl [vI 0, vI (M q 2), vL a1] [] rfl rfl (Nat.le_of_ble_eq_true rfl) (Nat.le_of_ble_eq_true rfl) (e_X1_findName (d + 0) q 0 (M q 2) a1 M _ _ hx1) ?_
  cases h
  exact Z_ret ⟨Or.inl rfl, _, rfl⟩ rfl
def f_X1_findWire (q : Nat) (a1 : Int) (M : AM) : Option (Int × AM) := (f_X1_findName q 8 (M q 3) a1 M).bind fun x1 => some (x1.1, x1.2)
theorem e_X1_findWire {Y : List (Nat × Nat)} (d : Nat) (q : Nat) (a1 : Int) (M : AM) (x : Int) (N : AM) (h : f_X1_findWire q a1 M = some (x, N)) : Ev Y (d + 1) m_X1_findWire 0 [some (vR q 11 0), some (vL a1), none] [] M (some (vI x)) N := by
  unfold f_X1_findWire at h
  refine Z_blk k_X1_findWire 5 (pc' := 8) (lo' := [some (vR q 11 0), some (vL a1), none]) (st' := [vL a1, vI (M q 3), vI 8, vR q 11 0]) (M1 := M) rfl ?_
  obtain ⟨x1, hx1, h⟩ := Option.bind_eq_some_iff.mp h
  refine Z_callV8 k_X1_findWire k_X1_findName rfl rfl (l_1_91) (ci := 1) rfl [vI 8, vI (M q 3), vL a1] [] rfl rfl (Nat.le_of_ble_eq_true rfl) (Nat.le_of_ble_eq_true rfl) (e_X1_findName (d + 0) q 8 (M q 3) a1 M _ _ hx1) ?_
  cases h
  exact Z_ret ⟨Or.inl rfl, _, rfl⟩ rfl
def f_X1_findCouple (q : Nat) (a1 : Int) (M : AM) : Option (Int × AM) := (f_X1_findName q 18 (M q 4) a1 M).bind fun x1 => some (x1.1, x1.2)
theorem e_X1_findCouple {Y : List (Nat × Nat)} (d : Nat) (q : Nat) (a1 : Int) (M : AM) (x : Int) (N : AM) (h : f_X1_findCouple q a1 M = some (x, N)) : Ev Y (d + 1) m_X1_findCouple 0 [some (vR q 11 0), some (vL a1), none] [] M (some (vI x)) N := by
  unfold f_X1_findCouple at h
  refine Z_blk k_X1_findCouple 5 (pc' := 8) (lo' := [some (vR q 11 0), some (vL a1), none]) (st' := [vL a1, vI (M q 4), vI 18, vR q 11 0]) (M1 := M) rfl ?_
  obtain ⟨x1, hx1, h⟩ := Option.bind_eq_some_iff.mp h
  refine Z_callV8 k_X1_findCouple k_X1_findName rfl rfl (l_1_91) (ci := 1) rfl [vI 18, vI (M q 4), vL a1] [] rfl rfl (Nat.le_of_ble_eq_true rfl) (Nat.le_of_ble_eq_true rfl) (e_X1_findName (d + 0) q 18 (M q 4) a1 M _ _ hx1) ?_
  cases h
  exact Z_ret ⟨Or.inl rfl, _, rfl⟩ rfl
def f_X1_addWire (q : Nat) (a1 : Int) (a2 : Int) (a3 : Int) (M : AM) : Option (AM) := if 10 ≤ M q 3 then some M else (if 0 ≤ M q 3 ∧ M q 3 < 10 then (zlet (am_upd M (q + 1) (Int.toNat (M q 3)) a1) fun M2 => if 0 ≤ M2 q 3 ∧ M2 q 3 < 10 then (zlet (am_upd M2 (q + 2) (Int.toNat (M2 q 3)) a2) fun M4 => if 0 ≤ M4 q 3 ∧ M4 q 3 < 10 then (zlet (am_upd M4 (q + 3) (Int.toNat (M4 q 3)) a3) fun M6 => zlet (am_upd M6 q 7 (o_or (M6 q 7) (o_shl 1 (M6 q 3)))) fun M7 => zlet (am_upd M7 q 3 (o_add (M7 q 3) 1)) fun M8 => zlet (am_upd M8 q 19 0) fun M9 => some M9) else none) else none) else none)
theorem e_X1_addWire {Y : List (Nat × Nat)} (d : Nat) (q : Nat) (a1 : Int) (a2 : Int) (a3 : Int) (M : AM) (N : AM) (h : f_X1_addWire q a1 a2 a3 M = some N) : Ev Y (d + 0) m_X1_addWire 0 [some (vR q 11 0), some (vI a1), some (vI a2), some (vI a3)] [] M none N := by
  unfold f_X1_addWire at h
  refine Z_blk k_X1_addWire 3 (pc' := 6) (lo' := [some (vR q 11 0), some (vI a1), some (vI a2), some (vI a3)]) (st' := [vI 10, vI (M q 3)]) (M1 := M) rfl ?_
  refine Z_icmp k_X1_addWire rfl 69 rfl (fun hc => ?_) (fun hc => ?_)
  · replace h := of_pos hc h
    cases h
    exact Z_ret ⟨rfl, _, rfl⟩ rfl
  · replace h := of_neg hc h
    refine Z_blk k_X1_addWire 5 (pc' := 18) (lo' := [some (vR q 11 0), some (vI a1), some (vI a2), some (vI a3)]) (st' := [vI a1, vI (M q 3), vR (q + 1) 0 10]) (M1 := M) rfl ?_
    obtain ⟨hc1, h⟩ := of_grd h
    obtain ⟨M2, eM2, h⟩ := of_zlet h
    refine Z_one k_X1_addWire rfl (pc' := 19) (lo' := [some (vR q 11 0), some (vI a1), some (vI a2), some (vI a3)]) (st' := []) (M1 := M2) (by rw [eM2]; exact if_pos hc1) ?_
    refine Z_blk k_X1_addWire 5 (pc' := 28) (lo' := [some (vR q 11 0), some (vI a1), some (vI a2), some (vI a3)]) (st' := [vI a2, vI (M2 q 3), vR (q + 2) 0 10]) (M1 := M2) rfl ?_
    obtain ⟨hc3, h⟩ := of_grd h
    obtain ⟨M4, eM4, h⟩ := of_zlet h
    refine Z_one k_X1_addWire rfl (pc' := 29) (lo' := [some (vR q 11 0), some (vI a1), some (vI a2), some (vI a3)]) (st' := []) (M1 := M4) (by rw [eM4]; exact if_pos hc3) ?_
    refine Z_blk k_X1_addWire 5 (pc' := 38) (lo' := [some (vR q 11 0), some (vI a1), some (vI a2), some (vI a3)]) (st' := [vI a3, vI (M4 q 3), vR (q + 3) 0 10]) (M1 := M4) rfl ?_
    obtain ⟨hc5, h⟩ := of_grd h
    obtain ⟨M6, eM6, h⟩ := of_zlet h
    refine Z_one k_X1_addWire rfl (pc' := 39) (lo' := [some (vR q 11 0), some (vI a1), some (vI a2), some (vI a3)]) (st' := []) (M1 := M6) (by rw [eM6]; exact if_pos hc5) ?_
    obtain ⟨M7, eM7, h⟩ := of_zlet h
    refine Z_blk k_X1_addWire 9 (pc' := 54) (lo' := [some (vR q 11 0), some (vI a1), some (vI a2), some (vI a3)]) (st' := []) (M1 := M7) (by rw [eM7]; rfl) ?_
    obtain ⟨M8, eM8, h⟩ := of_zlet h
    refine Z_blk k_X1_addWire 6 (pc' := 64) (lo' := [some (vR q 11 0), some (vI a1), some (vI a2), some (vI a3)]) (st' := []) (M1 := M8) (by rw [eM8]; rfl) ?_
    obtain ⟨M9, eM9, h⟩ := of_zlet h
    refine Z_blk k_X1_addWire 3 (pc' := 69) (lo' := [some (vR q 11 0), some (vI a1), some (vI a2), some (vI a3)]) (st' := []) (M1 := M9) (by rw [eM9]; rfl) ?_
    cases h
    exact Z_ret ⟨rfl, _, rfl⟩ rfl
def f_X1_addCouple (q : Nat) (a1 : Int) (a2 : Int) (a3 : Int) (M : AM) : Option (AM) := if 6 ≤ M q 4 then some M else (if 0 ≤ M q 4 ∧ M q 4 < 6 then (zlet (am_upd M (q + 4) (Int.toNat (M q 4)) a1) fun M2 => if 0 ≤ M2 q 4 ∧ M2 q 4 < 6 then (zlet (am_upd M2 (q + 5) (Int.toNat (M2 q 4)) a2) fun M4 => if 0 ≤ M4 q 4 ∧ M4 q 4 < 6 then (zlet (am_upd M4 (q + 6) (Int.toNat (M4 q 4)) a3) fun M6 => if 0 ≤ M6 q 4 ∧ M6 q 4 < 6 then (zlet (am_upd M6 (q + 7) (Int.toNat (M6 q 4)) 0) fun M8 => if 0 ≤ M8 q 4 ∧ M8 q 4 < 6 then (zlet (am_upd M8 (q + 8) (Int.toNat (M8 q 4)) 0) fun M10 => zlet (am_upd M10 q 8 (o_or (M10 q 8) (o_shl 1 (M10 q 4)))) fun M11 => zlet (am_upd M11 q 4 (o_add (M11 q 4) 1)) fun M12 => some M12) else none) else none) else none) else none) else none)
theorem e_X1_addCouple {Y : List (Nat × Nat)} (d : Nat) (q : Nat) (a1 : Int) (a2 : Int) (a3 : Int) (M : AM) (N : AM) (h : f_X1_addCouple q a1 a2 a3 M = some N) : Ev Y (d + 0) m_X1_addCouple 0 [some (vR q 11 0), some (vI a1), some (vI a2), some (vI a3)] [] M none N := by
  unfold f_X1_addCouple at h
  refine Z_blk k_X1_addCouple 3 (pc' := 6) (lo' := [some (vR q 11 0), some (vI a1), some (vI a2), some (vI a3)]) (st' := [vI 6, vI (M q 4)]) (M1 := M) rfl ?_
  refine Z_icmp k_X1_addCouple rfl 84 rfl (fun hc => ?_) (fun hc => ?_)
  · replace h := of_pos hc h
    cases h
    exact Z_ret ⟨rfl, _, rfl⟩ rfl
  · replace h := of_neg hc h
    refine Z_blk k_X1_addCouple 5 (pc' := 18) (lo' := [some (vR q 11 0), some (vI a1), some (vI a2), some (vI a3)]) (st' := [vI a1, vI (M q 4), vR (q + 4) 0 6]) (M1 := M) rfl ?_
    obtain ⟨hc1, h⟩ := of_grd h
    obtain ⟨M2, eM2, h⟩ := of_zlet h
    refine Z_one k_X1_addCouple rfl (pc' := 19) (lo' := [some (vR q 11 0), some (vI a1), some (vI a2), some (vI a3)]) (st' := []) (M1 := M2) (by rw [eM2]; exact if_pos hc1) ?_
    refine Z_blk k_X1_addCouple 5 (pc' := 28) (lo' := [some (vR q 11 0), some (vI a1), some (vI a2), some (vI a3)]) (st' := [vI a2, vI (M2 q 4), vR (q + 5) 0 6]) (M1 := M2) rfl ?_
    obtain ⟨hc3, h⟩ := of_grd h
    obtain ⟨M4, eM4, h⟩ := of_zlet h
    refine Z_one k_X1_addCouple rfl (pc' := 29) (lo' := [some (vR q 11 0), some (vI a1), some (vI a2), some (vI a3)]) (st' := []) (M1 := M4) (by rw [eM4]; exact if_pos hc3) ?_
    refine Z_blk k_X1_addCouple 5 (pc' := 38) (lo' := [some (vR q 11 0), some (vI a1), some (vI a2), some (vI a3)]) (st' := [vI a3, vI (M4 q 4), vR (q + 6) 0 6]) (M1 := M4) rfl ?_
    obtain ⟨hc5, h⟩ := of_grd h
    obtain ⟨M6, eM6, h⟩ := of_zlet h
    refine Z_one k_X1_addCouple rfl (pc' := 39) (lo' := [some (vR q 11 0), some (vI a1), some (vI a2), some (vI a3)]) (st' := []) (M1 := M6) (by rw [eM6]; exact if_pos hc5) ?_
    refine Z_blk k_X1_addCouple 5 (pc' := 48) (lo' := [some (vR q 11 0), some (vI a1), some (vI a2), some (vI a3)]) (st' := [vI 0, vI (M6 q 4), vR (q + 7) 0 6]) (M1 := M6) rfl ?_
    obtain ⟨hc7, h⟩ := of_grd h
    obtain ⟨M8, eM8, h⟩ := of_zlet h
    refine Z_one k_X1_addCouple rfl (pc' := 49) (lo' := [some (vR q 11 0), some (vI a1), some (vI a2), some (vI a3)]) (st' := []) (M1 := M8) (by rw [eM8]; exact if_pos hc7) ?_
    refine Z_blk k_X1_addCouple 5 (pc' := 58) (lo' := [some (vR q 11 0), some (vI a1), some (vI a2), some (vI a3)]) (st' := [vI 0, vI (M8 q 4), vR (q + 8) 0 6]) (M1 := M8) rfl ?_
    obtain ⟨hc9, h⟩ := of_grd h
    obtain ⟨M10, eM10, h⟩ := of_zlet h
    refine Z_one k_X1_addCouple rfl (pc' := 59) (lo' := [some (vR q 11 0), some (vI a1), some (vI a2), some (vI a3)]) (st' := []) (M1 := M10) (by rw [eM10]; exact if_pos hc9) ?_
    obtain ⟨M11, eM11, h⟩ := of_zlet h
    refine Z_blk k_X1_addCouple 9 (pc' := 74) (lo' := [some (vR q 11 0), some (vI a1), some (vI a2), some (vI a3)]) (st' := []) (M1 := M11) (by rw [eM11]; rfl) ?_
    obtain ⟨M12, eM12, h⟩ := of_zlet h
    refine Z_blk k_X1_addCouple 6 (pc' := 84) (lo' := [some (vR q 11 0), some (vI a1), some (vI a2), some (vI a3)]) (st' := []) (M1 := M12) (by rw [eM12]; rfl) ?_
    cases h
    exact Z_ret ⟨rfl, _, rfl⟩ rfl
def f_X1_cutWire (q : Nat) (a1 : Int) (M : AM) : Option (AM) := zlet (am_upd M q 7 (o_and (M q 7) (o_xor (o_shl 1 a1) (-1)))) fun M1 => zlet (am_upd M1 q 19 0) fun M2 => some M2
theorem e_X1_cutWire {Y : List (Nat × Nat)} (d : Nat) (q : Nat) (a1 : Int) (M : AM) (N : AM) (h : f_X1_cutWire q a1 M = some N) : Ev Y (d + 0) m_X1_cutWire 0 [some (vR q 11 0), some (vI a1)] [] M none N := by
  unfold f_X1_cutWire at h
  obtain ⟨M1, eM1, h⟩ := of_zlet h
  refine Z_blk k_X1_cutWire 10 (pc' := 14) (lo' := [some (vR q 11 0), some (vI a1)]) (st' := []) (M1 := M1) (by rw [eM1]; rfl) ?_
  obtain ⟨M2, eM2, h⟩ := of_zlet h
  refine Z_blk k_X1_cutWire 3 (pc' := 19) (lo' := [some (vR q 11 0), some (vI a1)]) (st' := []) (M1 := M2) (by rw [eM2]; rfl) ?_
  cases h
  exact Z_ret ⟨rfl, _, rfl⟩ rfl
theorem l_1_99 : zhas 4150 (Jvm.Cond.methodLink "BellPullHouse$House" 99 yX1_isWire) = true := by decide +kernel
def f_X1_setSlack (q : Nat) (a1 : Int) (a2 : Int) (M : AM) : Option (AM) := (f_X1_isWire q a1 M).bind fun x1 => if x1.1 = 0 then some x1.2 else (if 0 ≤ a1 ∧ a1 < 10 then (zlet (am_upd x1.2 (q + 3) (Int.toNat a1) a2) fun M3 => zlet (am_upd M3 q 19 0) fun M4 => some M4) else none)
theorem e_X1_setSlack {Y : List (Nat × Nat)} (d : Nat) (q : Nat) (a1 : Int) (a2 : Int) (M : AM) (N : AM) (h : f_X1_setSlack q a1 a2 M = some N) : Ev Y (d + 1) m_X1_setSlack 0 [some (vR q 11 0), some (vI a1), some (vI a2)] [] M none N := by
  unfold f_X1_setSlack at h
  refine Z_blk k_X1_setSlack 2 (pc' := 2) (lo' := [some (vR q 11 0), some (vI a1), some (vI a2)]) (st' := [vI a1, vR q 11 0]) (M1 := M) rfl ?_
  obtain ⟨x1, hx1, h⟩ := Option.bind_eq_some_iff.mp h
  refine Z_callV8 k_X1_setSlack k_X1_isWire rfl rfl (l_1_99) (ci := 1) rfl [vI a1] [] rfl rfl (Nat.le_of_ble_eq_true rfl) (Nat.le_of_ble_eq_true rfl) (e_X1_isWire (d + 0) q a1 M _ _ hx1) ?_
  refine Z_if k_X1_setSlack rfl 20 rfl (fun hc => ?_) (fun hc => ?_)
  · replace h := of_pos hc h
    cases h
    exact Z_ret ⟨rfl, _, rfl⟩ rfl
  · replace h := of_neg hc h
    refine Z_blk k_X1_setSlack 4 (pc' := 14) (lo' := [some (vR q 11 0), some (vI a1), some (vI a2)]) (st' := [vI a2, vI a1, vR (q + 3) 0 10]) (M1 := x1.2) rfl ?_
    obtain ⟨hc2, h⟩ := of_grd h
    obtain ⟨M3, eM3, h⟩ := of_zlet h
    refine Z_one k_X1_setSlack rfl (pc' := 15) (lo' := [some (vR q 11 0), some (vI a1), some (vI a2)]) (st' := []) (M1 := M3) (by rw [eM3]; exact if_pos hc2) ?_
    obtain ⟨M4, eM4, h⟩ := of_zlet h
    refine Z_blk k_X1_setSlack 3 (pc' := 20) (lo' := [some (vR q 11 0), some (vI a1), some (vI a2)]) (st' := []) (M1 := M4) (by rw [eM4]; rfl) ?_
    cases h
    exact Z_ret ⟨rfl, _, rfl⟩ rfl
theorem l_1_95 : zhas 4146 (Jvm.Cond.methodLink "BellPullHouse$House" 95 yX1_setSlack) = true := by decide +kernel
def f_X1_mendWire (q : Nat) (a1 : Int) (M : AM) : Option (AM) := zlet (am_upd M q 7 (o_or (M q 7) (o_shl 1 a1))) fun M1 => (f_X1_setSlack q a1 0 M1).bind fun x2 => some x2
theorem e_X1_mendWire {Y : List (Nat × Nat)} (d : Nat) (q : Nat) (a1 : Int) (M : AM) (N : AM) (h : f_X1_mendWire q a1 M = some N) : Ev Y (d + 2) m_X1_mendWire 0 [some (vR q 11 0), some (vI a1)] [] M none N := by
  unfold f_X1_mendWire at h
  obtain ⟨M1, eM1, h⟩ := of_zlet h
  refine Z_blk k_X1_mendWire 8 (pc' := 12) (lo' := [some (vR q 11 0), some (vI a1)]) (st' := []) (M1 := M1) (by rw [eM1]; rfl) ?_
  refine Z_blk k_X1_mendWire 3 (pc' := 15) (lo' := [some (vR q 11 0), some (vI a1)]) (st' := [vI 0, vI a1, vR q 11 0]) (M1 := M1) rfl ?_
  obtain ⟨x2, hx2, h⟩ := Option.bind_eq_some_iff.mp h
  refine Z_callV8 k_X1_mendWire k_X1_setSlack rfl rfl (l_1_95) (ci := 1) rfl [vI a1, vI 0] [] rfl rfl (Nat.le_of_ble_eq_true rfl) (Nat.le_of_ble_eq_true rfl) (e_X1_setSlack (d + 0) q a1 0 M1 _ hx2) ?_
  cases h
  exact Z_ret ⟨rfl, _, rfl⟩ rfl
theorem l_1_105 : zhas 4044 (Jvm.Cond.methodLink "BellPullHouse$House" 105 yX1_isRoom) = true := by decide +kernel
def f_X1_distance (q : Nat) (a1 : Int) (a2 : Int) (M : AM) : Option (Int × AM) := (f_X1_measure q M).bind fun x1 => (f_X1_isRoom q a1 x1).bind fun x2 => if x2.1 = 0 then some (1000, x2.2) else ((f_X1_isRoom q a2 x2.2).bind fun x3 => if x3.1 = 0 then some (1000, x3.2) else (if 0 ≤ o_add (o_mul a1 8) a2 ∧ o_add (o_mul a1 8) a2 < 64 then some (x3.2 (q + 10) (Int.toNat (o_add (o_mul a1 8) a2)), x3.2) else none))
theorem e_X1_distance {Y : List (Nat × Nat)} (d : Nat) (q : Nat) (a1 : Int) (a2 : Int) (M : AM) (x : Int) (N : AM) (h : f_X1_distance q a1 a2 M = some (x, N)) : Ev Y (d + 2) m_X1_distance 0 [some (vR q 11 0), some (vI a1), some (vI a2)] [] M (some (vI x)) N := by
  unfold f_X1_distance at h
  refine Z_blk k_X1_distance 1 (pc' := 1) (lo' := [some (vR q 11 0), some (vI a1), some (vI a2)]) (st' := [vR q 11 0]) (M1 := M) rfl ?_
  obtain ⟨x1, hx1, h⟩ := Option.bind_eq_some_iff.mp h
  refine Z_callV8 k_X1_distance k_X1_measure rfl rfl (l_1_102) (ci := 1) rfl [] [] rfl rfl (Nat.le_of_ble_eq_true rfl) (Nat.le_of_ble_eq_true rfl) (e_X1_measure (d + 0) q M _ hx1) ?_
  refine Z_blk k_X1_distance 2 (pc' := 6) (lo' := [some (vR q 11 0), some (vI a1), some (vI a2)]) (st' := [vI a1, vR q 11 0]) (M1 := x1) rfl ?_
  obtain ⟨x2, hx2, h⟩ := Option.bind_eq_some_iff.mp h
  refine Z_callV8 k_X1_distance k_X1_isRoom rfl rfl (l_1_105) (ci := 1) rfl [vI a1] [] rfl rfl (Nat.le_of_ble_eq_true rfl) (Nat.le_of_ble_eq_true rfl) (e_X1_isRoom (d + 1) q a1 x1 _ _ hx2) ?_
  refine Z_if k_X1_distance rfl 34 rfl (fun hc => ?_) (fun hc => ?_)
  · replace h := of_pos hc h
    refine Z_blk k_X1_distance 1 (pc' := 37) (lo' := [some (vR q 11 0), some (vI a1), some (vI a2)]) (st' := [vI 1000]) (M1 := x2.2) rfl ?_
    cases h
    exact Z_ret ⟨Or.inl rfl, _, rfl⟩ rfl
  · replace h := of_neg hc h
    refine Z_blk k_X1_distance 2 (pc' := 14) (lo' := [some (vR q 11 0), some (vI a1), some (vI a2)]) (st' := [vI a2, vR q 11 0]) (M1 := x2.2) rfl ?_
    obtain ⟨x3, hx3, h⟩ := Option.bind_eq_some_iff.mp h
    refine Z_callV8 k_X1_distance k_X1_isRoom rfl rfl (l_1_105) (ci := 1) rfl [vI a2] [] rfl rfl (Nat.le_of_ble_eq_true rfl) (Nat.le_of_ble_eq_true rfl) (e_X1_isRoom (d + 1) q a2 x2.2 _ _ hx3) ?_
    refine Z_if k_X1_distance rfl 34 rfl (fun hc => ?_) (fun hc => ?_)
    · replace h := of_pos hc h
      refine Z_blk k_X1_distance 1 (pc' := 37) (lo' := [some (vR q 11 0), some (vI a1), some (vI a2)]) (st' := [vI 1000]) (M1 := x3.2) rfl ?_
      cases h
      exact Z_ret ⟨Or.inl rfl, _, rfl⟩ rfl
    · replace h := of_neg hc h
      refine Z_blk k_X1_distance 7 (pc' := 30) (lo' := [some (vR q 11 0), some (vI a1), some (vI a2)]) (st' := [vI (o_add (o_mul a1 8) a2), vR (q + 10) 0 64]) (M1 := x3.2) rfl ?_
      obtain ⟨hc4, h⟩ := of_grd h
      refine Z_one k_X1_distance rfl (pc' := 31) (lo' := [some (vR q 11 0), some (vI a1), some (vI a2)]) (st' := [vI (x3.2 (q + 10) (Int.toNat (o_add (o_mul a1 8) a2)))]) (M1 := x3.2) (if_pos hc4) ?_
      refine Z_blk k_X1_distance 1 (pc' := 37) (lo' := [some (vR q 11 0), some (vI a1), some (vI a2)]) (st' := [vI (x3.2 (q + 10) (Int.toNat (o_add (o_mul a1 8) a2)))]) (M1 := x3.2) rfl ?_
      cases h
      exact Z_ret ⟨Or.inl rfl, _, rfl⟩ rfl
def f_X1_shortestWire_65 (k_7 : Nat → Int → Int → Int → Int → AM → Option (Int × AM)) (q : Nat) (a1 : Int) (a2 : Int) (a3 : Int) (a4 : Int) (s0 : Int) (M : AM) : Option (Int × AM) := if s0 = 0 then k_7 q a1 a2 a3 (o_add a4 1) M else ((f_X1_isWhole q a4 M).bind fun x1 => if x1.1 = 0 then k_7 q a1 a2 a3 (o_add a4 1) x1.2 else (if 0 ≤ a4 ∧ a4 < 10 then k_7 q a1 a2 (o_min a3 (o_add 1 (x1.2 (q + 3) (Int.toNat a4)))) (o_add a4 1) x1.2 else none))
theorem e_X1_shortestWire_65 {Y : List (Nat × Nat)} (d : Nat) (k_7 : Nat → Int → Int → Int → Int → AM → Option (Int × AM)) (hk_7 : ∀ (q : Nat) (a1 : Int) (a2 : Int) (a3 : Int) (a4 : Int) (M : AM) (x : Int) (N : AM), k_7 q a1 a2 a3 a4 M = some (x, N) → Ev Y (d + 1) m_X1_shortestWire 7 [some (vR q 11 0), some (vI a1), some (vI a2), some (vI a3), some (vI a4), none] [] M (some (vI x)) N) (q : Nat) (a1 : Int) (a2 : Int) (a3 : Int) (a4 : Int) (s0 : Int) (M : AM) (x : Int) (N : AM) (h : f_X1_shortestWire_65 k_7 q a1 a2 a3 a4 s0 M = some (x, N)) : Ev Y (d + 1) m_X1_shortestWire 65 [some (vR q 11 0), some (vI a1), some (vI a2), some (vI a3), some (vI a4), none] [vI s0] M (some (vI x)) N := by
  unfold f_X1_shortestWire_65 at h
  refine Z_blk k_X1_shortestWire 2 (pc' := 69) (lo' := [some (vR q 11 0), some (vI a1), some (vI a2), some (vI a3), some (vI a4), some (vI s0)]) (st' := [vI s0]) (M1 := M) rfl ?_
  refine Z_if k_X1_shortestWire rfl 95 rfl (fun hc => ?_) (fun hc => ?_)
  · replace h := of_pos hc h
    refine Z_blk k_X1_shortestWire 2 (pc' := 7) (lo' := [some (vR q 11 0), some (vI a1), some (vI a2), some (vI a3), some (vI (o_add a4 1)), some (vI s0)]) (st' := []) (M1 := M) rfl ?_
    refine Z_mask [true, true, true, true, true, false] (lo0 := [some (vR q 11 0), some (vI a1), some (vI a2), some (vI a3), some (vI (o_add a4 1)), none]) rfl ?_
    exact hk_7 q a1 a2 a3 (o_add a4 1) M _ _ h
  · replace h := of_neg hc h
    refine Z_blk k_X1_shortestWire 2 (pc' := 75) (lo' := [some (vR q 11 0), some (vI a1), some (vI a2), some (vI a3), some (vI a4), some (vI s0)]) (st' := [vI a4, vR q 11 0]) (M1 := M) rfl ?_
    obtain ⟨x1, hx1, h⟩ := Option.bind_eq_some_iff.mp h
    refine Z_callV8 k_X1_shortestWire k_X1_isWhole rfl rfl (l_1_87) (ci := 1) rfl [vI a4] [] rfl rfl (Nat.le_of_ble_eq_true rfl) (Nat.le_of_ble_eq_true rfl) (e_X1_isWhole (d + 0) q a4 M _ _ hx1) ?_
    refine Z_if k_X1_shortestWire rfl 95 rfl (fun hc => ?_) (fun hc => ?_)
    · replace h := of_pos hc h
      refine Z_blk k_X1_shortestWire 2 (pc' := 7) (lo' := [some (vR q 11 0), some (vI a1), some (vI a2), some (vI a3), some (vI (o_add a4 1)), some (vI s0)]) (st' := []) (M1 := x1.2) rfl ?_
      refine Z_mask [true, true, true, true, true, false] (lo0 := [some (vR q 11 0), some (vI a1), some (vI a2), some (vI a3), some (vI (o_add a4 1)), none]) rfl ?_
      exact hk_7 q a1 a2 a3 (o_add a4 1) x1.2 _ _ h
    · replace h := of_neg hc h
      refine Z_blk k_X1_shortestWire 5 (pc' := 89) (lo' := [some (vR q 11 0), some (vI a1), some (vI a2), some (vI a3), some (vI a4), some (vI s0)]) (st' := [vI a4, vR (q + 3) 0 10, vI 1, vI a3]) (M1 := x1.2) rfl ?_
      obtain ⟨hc2, h⟩ := of_grd h
      refine Z_one k_X1_shortestWire rfl (pc' := 90) (lo' := [some (vR q 11 0), some (vI a1), some (vI a2), some (vI a3), some (vI a4), some (vI s0)]) (st' := [vI (x1.2 (q + 3) (Int.toNat a4)), vI 1, vI a3]) (M1 := x1.2) (if_pos hc2) ?_
      refine Z_blk k_X1_shortestWire 5 (pc' := 7) (lo' := [some (vR q 11 0), some (vI a1), some (vI a2), some (vI (o_min a3 (o_add 1 (x1.2 (q + 3) (Int.toNat a4))))), some (vI (o_add a4 1)), some (vI s0)]) (st' := []) (M1 := x1.2) rfl ?_
      refine Z_mask [true, true, true, true, true, false] (lo0 := [some (vR q 11 0), some (vI a1), some (vI a2), some (vI (o_min a3 (o_add 1 (x1.2 (q + 3) (Int.toNat a4))))), some (vI (o_add a4 1)), none]) rfl ?_
      exact hk_7 q a1 a2 (o_min a3 (o_add 1 (x1.2 (q + 3) (Int.toNat a4)))) (o_add a4 1) x1.2 _ _ h
def f_X1_shortestWire_38 (k_7 : Nat → Int → Int → Int → Int → AM → Option (Int × AM)) (q : Nat) (a1 : Int) (a2 : Int) (a3 : Int) (a4 : Int) (M : AM) : Option (Int × AM) := if 0 ≤ a4 ∧ a4 < 10 then (if ¬ M (q + 1) (Int.toNat a4) = a2 then f_X1_shortestWire_65 k_7 q a1 a2 a3 a4 0 M else (if ¬ M (q + 2) (Int.toNat a4) = a1 then f_X1_shortestWire_65 k_7 q a1 a2 a3 a4 0 M else f_X1_shortestWire_65 k_7 q a1 a2 a3 a4 1 M)) else none
theorem e_X1_shortestWire_38 {Y : List (Nat × Nat)} (d : Nat) (k_7 : Nat → Int → Int → Int → Int → AM → Option (Int × AM)) (hk_7 : ∀ (q : Nat) (a1 : Int) (a2 : Int) (a3 : Int) (a4 : Int) (M : AM) (x : Int) (N : AM), k_7 q a1 a2 a3 a4 M = some (x, N) → Ev Y (d + 1) m_X1_shortestWire 7 [some (vR q 11 0), some (vI a1), some (vI a2), some (vI a3), some (vI a4), none] [] M (some (vI x)) N) (q : Nat) (a1 : Int) (a2 : Int) (a3 : Int) (a4 : Int) (M : AM) (x : Int) (N : AM) (h : f_X1_shortestWire_38 k_7 q a1 a2 a3 a4 M = some (x, N)) : Ev Y (d + 1) m_X1_shortestWire 38 [some (vR q 11 0), some (vI a1), some (vI a2), some (vI a3), some (vI a4), none] [] M (some (vI x)) N := by
  unfold f_X1_shortestWire_38 at h
  refine Z_blk k_X1_shortestWire 3 (pc' := 44) (lo' := [some (vR q 11 0), some (vI a1), some (vI a2), some (vI a3), some (vI a4), none]) (st' := [vI a4, vR (q + 1) 0 10]) (M1 := M) rfl ?_
  obtain ⟨hc1, h⟩ := of_grd h
  refine Z_one k_X1_shortestWire rfl (pc' := 45) (lo' := [some (vR q 11 0), some (vI a1), some (vI a2), some (vI a3), some (vI a4), none]) (st' := [vI (M (q + 1) (Int.toNat a4))]) (M1 := M) (if_pos hc1) ?_
  refine Z_blk k_X1_shortestWire 1 (pc' := 46) (lo' := [some (vR q 11 0), some (vI a1), some (vI a2), some (vI a3), some (vI a4), none]) (st' := [vI a2, vI (M (q + 1) (Int.toNat a4))]) (M1 := M) rfl ?_
  refine Z_icmp k_X1_shortestWire rfl 64 rfl (fun hc => ?_) (fun hc => ?_)
  · replace h := of_pos hc h
    refine Z_blk k_X1_shortestWire 1 (pc' := 65) (lo' := [some (vR q 11 0), some (vI a1), some (vI a2), some (vI a3), some (vI a4), none]) (st' := [vI 0]) (M1 := M) rfl ?_
    refine Z_mask [true, true, true, true, true, false] (lo0 := [some (vR q 11 0), some (vI a1), some (vI a2), some (vI a3), some (vI a4), none]) rfl ?_
    exact e_X1_shortestWire_65 d k_7 hk_7 q a1 a2 a3 a4 0 M _ _ h
  · replace h := of_neg hc h
    refine Z_blk k_X1_shortestWire 3 (pc' := 55) (lo' := [some (vR q 11 0), some (vI a1), some (vI a2), some (vI a3), some (vI a4), none]) (st' := [vI a4, vR (q + 2) 0 10]) (M1 := M) rfl ?_
    refine Z_one k_X1_shortestWire rfl (pc' := 56) (lo' := [some (vR q 11 0), some (vI a1), some (vI a2), some (vI a3), some (vI a4), none]) (st' := [vI (M (q + 2) (Int.toNat a4))]) (M1 := M) (if_pos hc1) ?_
    refine Z_blk k_X1_shortestWire 1 (pc' := 57) (lo' := [some (vR q 11 0), some (vI a1), some (vI a2), some (vI a3), some (vI a4), none]) (st' := [vI a1, vI (M (q + 2) (Int.toNat a4))]) (M1 := M) rfl ?_
    refine Z_icmp k_X1_shortestWire rfl 64 rfl (fun hc => ?_) (fun hc => ?_)
    · replace h := of_pos hc h
      refine Z_blk k_X1_shortestWire 1 (pc' := 65) (lo' := [some (vR q 11 0), some (vI a1), some (vI a2), some (vI a3), some (vI a4), none]) (st' := [vI 0]) (M1 := M) rfl ?_
      refine Z_mask [true, true, true, true, true, false] (lo0 := [some (vR q 11 0), some (vI a1), some (vI a2), some (vI a3), some (vI a4), none]) rfl ?_
      exact e_X1_shortestWire_65 d k_7 hk_7 q a1 a2 a3 a4 0 M _ _ h
    · replace h := of_neg hc h
      refine Z_blk k_X1_shortestWire 2 (pc' := 65) (lo' := [some (vR q 11 0), some (vI a1), some (vI a2), some (vI a3), some (vI a4), none]) (st' := [vI 1]) (M1 := M) rfl ?_
      refine Z_mask [true, true, true, true, true, false] (lo0 := [some (vR q 11 0), some (vI a1), some (vI a2), some (vI a3), some (vI a4), none]) rfl ?_
      exact e_X1_shortestWire_65 d k_7 hk_7 q a1 a2 a3 a4 1 M _ _ h
def f_X1_shortestWire_7 : Nat → Nat → Int → Int → Int → Int → AM → Option (Int × AM)
  | 0, _, _, _, _, _, _ => none
  | n + 1, q, a1, a2, a3, a4, M => if M q 3 ≤ a4 then some (a3, M) else (if 0 ≤ a4 ∧ a4 < 10 then (if ¬ M (q + 1) (Int.toNat a4) = a1 then f_X1_shortestWire_38 (f_X1_shortestWire_7 n) q a1 a2 a3 a4 M else (if M (q + 2) (Int.toNat a4) = a2 then f_X1_shortestWire_65 (f_X1_shortestWire_7 n) q a1 a2 a3 a4 1 M else f_X1_shortestWire_38 (f_X1_shortestWire_7 n) q a1 a2 a3 a4 M)) else none)
theorem e_X1_shortestWire_7 {Y : List (Nat × Nat)} (d : Nat) : ∀ (n : Nat) (q : Nat) (a1 : Int) (a2 : Int) (a3 : Int) (a4 : Int) (M : AM) (x : Int) (N : AM), f_X1_shortestWire_7 n q a1 a2 a3 a4 M = some (x, N) → Ev Y (d + 1) m_X1_shortestWire 7 [some (vR q 11 0), some (vI a1), some (vI a2), some (vI a3), some (vI a4), none] [] M (some (vI x)) N := by
  intro n
  induction n with
  | zero => intro q a1 a2 a3 a4 M x N h; cases h
  | succ n ih =>
    intro q a1 a2 a3 a4 M x N h
    simp only [f_X1_shortestWire_7] at h
    refine Z_blk k_X1_shortestWire 3 (pc' := 13) (lo' := [some (vR q 11 0), some (vI a1), some (vI a2), some (vI a3), some (vI a4), none]) (st' := [vI (M q 3), vI a4]) (M1 := M) rfl ?_
    refine Z_icmp k_X1_shortestWire rfl 101 rfl (fun hc => ?_) (fun hc => ?_)
    · replace h := of_pos hc h
      refine Z_blk k_X1_shortestWire 1 (pc' := 102) (lo' := [some (vR q 11 0), some (vI a1), some (vI a2), some (vI a3), some (vI a4), none]) (st' := [vI a3]) (M1 := M) rfl ?_
      cases h
      exact Z_ret ⟨Or.inl rfl, _, rfl⟩ rfl
    · replace h := of_neg hc h
      refine Z_blk k_X1_shortestWire 3 (pc' := 22) (lo' := [some (vR q 11 0), some (vI a1), some (vI a2), some (vI a3), some (vI a4), none]) (st' := [vI a4, vR (q + 1) 0 10]) (M1 := M) rfl ?_
      obtain ⟨hc1, h⟩ := of_grd h
      refine Z_one k_X1_shortestWire rfl (pc' := 23) (lo' := [some (vR q 11 0), some (vI a1), some (vI a2), some (vI a3), some (vI a4), none]) (st' := [vI (M (q + 1) (Int.toNat a4))]) (M1 := M) (if_pos hc1) ?_
      refine Z_blk k_X1_shortestWire 1 (pc' := 24) (lo' := [some (vR q 11 0), some (vI a1), some (vI a2), some (vI a3), some (vI a4), none]) (st' := [vI a1, vI (M (q + 1) (Int.toNat a4))]) (M1 := M) rfl ?_
      refine Z_icmp k_X1_shortestWire rfl 38 rfl (fun hc => ?_) (fun hc => ?_)
      · replace h := of_pos hc h
        refine Z_mask [true, true, true, true, true, false] (lo0 := [some (vR q 11 0), some (vI a1), some (vI a2), some (vI a3), some (vI a4), none]) rfl ?_
        exact e_X1_shortestWire_38 d (f_X1_shortestWire_7 n) ih q a1 a2 a3 a4 M _ _ h
      · replace h := of_neg hc h
        refine Z_blk k_X1_shortestWire 3 (pc' := 33) (lo' := [some (vR q 11 0), some (vI a1), some (vI a2), some (vI a3), some (vI a4), none]) (st' := [vI a4, vR (q + 2) 0 10]) (M1 := M) rfl ?_
        refine Z_one k_X1_shortestWire rfl (pc' := 34) (lo' := [some (vR q 11 0), some (vI a1), some (vI a2), some (vI a3), some (vI a4), none]) (st' := [vI (M (q + 2) (Int.toNat a4))]) (M1 := M) (if_pos hc1) ?_
        refine Z_blk k_X1_shortestWire 1 (pc' := 35) (lo' := [some (vR q 11 0), some (vI a1), some (vI a2), some (vI a3), some (vI a4), none]) (st' := [vI a2, vI (M (q + 2) (Int.toNat a4))]) (M1 := M) rfl ?_
        refine Z_icmp k_X1_shortestWire rfl 60 rfl (fun hc => ?_) (fun hc => ?_)
        · replace h := of_pos hc h
          refine Z_blk k_X1_shortestWire 2 (pc' := 65) (lo' := [some (vR q 11 0), some (vI a1), some (vI a2), some (vI a3), some (vI a4), none]) (st' := [vI 1]) (M1 := M) rfl ?_
          refine Z_mask [true, true, true, true, true, false] (lo0 := [some (vR q 11 0), some (vI a1), some (vI a2), some (vI a3), some (vI a4), none]) rfl ?_
          exact e_X1_shortestWire_65 d (f_X1_shortestWire_7 n) ih q a1 a2 a3 a4 1 M _ _ h
        · replace h := of_neg hc h
          refine Z_mask [true, true, true, true, true, false] (lo0 := [some (vR q 11 0), some (vI a1), some (vI a2), some (vI a3), some (vI a4), none]) rfl ?_
          exact e_X1_shortestWire_38 d (f_X1_shortestWire_7 n) ih q a1 a2 a3 a4 M _ _ h
def f_X1_shortestWire (q : Nat) (a1 : Int) (a2 : Int) (M : AM) : Option (Int × AM) := f_X1_shortestWire_7 zB q a1 a2 1000 0 M
theorem e_X1_shortestWire {Y : List (Nat × Nat)} (d : Nat) (q : Nat) (a1 : Int) (a2 : Int) (M : AM) (x : Int) (N : AM) (h : f_X1_shortestWire q a1 a2 M = some (x, N)) : Ev Y (d + 1) m_X1_shortestWire 0 [some (vR q 11 0), some (vI a1), some (vI a2), none, none, none] [] M (some (vI x)) N := by
  unfold f_X1_shortestWire at h
  refine Z_blk k_X1_shortestWire 4 (pc' := 7) (lo' := [some (vR q 11 0), some (vI a1), some (vI a2), some (vI 1000), some (vI 0), none]) (st' := []) (M1 := M) rfl ?_
  refine Z_mask [true, true, true, true, true, false] (lo0 := [some (vR q 11 0), some (vI a1), some (vI a2), some (vI 1000), some (vI 0), none]) rfl ?_
  exact e_X1_shortestWire_7 d zB q a1 a2 1000 0 M _ _ h
theorem l_1_117 : zhas 4208 (Jvm.Cond.methodLink "BellPullHouse$House" 117 yX1_shortestWire) = true := by decide +kernel
theorem l_1_120 : zhas 4032 (Jvm.Cond.methodLink "BellPullHouse$House" 120 yX1_distance) = true := by decide +kernel
def f_X1_nextOnWay_2 : Nat → Nat → Int → Int → Int → AM → Option (Int × AM)
  | 0, _, _, _, _, _ => none
  | n + 1, q, a1, a2, a3, M => if M q 2 ≤ a3 then some (a2, M) else ((f_X1_shortestWire q a1 a3 M).bind fun x1 => if 1000 ≤ x1.1 then f_X1_nextOnWay_2 n q a1 a2 (o_add a3 1) x1.2 else ((f_X1_distance q a3 a2 x1.2).bind fun x2 => (f_X1_distance q a1 a2 x2.2).bind fun x3 => if ¬ o_add x1.1 x2.1 = x3.1 then f_X1_nextOnWay_2 n q a1 a2 (o_add a3 1) x3.2 else some (a3, x3.2)))
theorem e_X1_nextOnWay_2 {Y : List (Nat × Nat)} (d : Nat) : ∀ (n : Nat) (q : Nat) (a1 : Int) (a2 : Int) (a3 : Int) (M : AM) (x : Int) (N : AM), f_X1_nextOnWay_2 n q a1 a2 a3 M = some (x, N) → Ev Y (d + 3) m_X1_nextOnWay 2 [some (vR q 11 0), some (vI a1), some (vI a2), some (vI a3), none] [] M (some (vI x)) N := by
  intro n
  induction n with
  | zero => intro q a1 a2 a3 M x N h; cases h
  | succ n ih =>
    intro q a1 a2 a3 M x N h
    simp only [f_X1_nextOnWay_2] at h
    refine Z_blk k_X1_nextOnWay 3 (pc' := 7) (lo' := [some (vR q 11 0), some (vI a1), some (vI a2), some (vI a3), none]) (st' := [vI (M q 2), vI a3]) (M1 := M) rfl ?_
    refine Z_icmp k_X1_nextOnWay rfl 52 rfl (fun hc => ?_) (fun hc => ?_)
    · replace h := of_pos hc h
      refine Z_blk k_X1_nextOnWay 1 (pc' := 53) (lo' := [some (vR q 11 0), some (vI a1), some (vI a2), some (vI a3), none]) (st' := [vI a2]) (M1 := M) rfl ?_
      cases h
      exact Z_ret ⟨Or.inl rfl, _, rfl⟩ rfl
    · replace h := of_neg hc h
      refine Z_blk k_X1_nextOnWay 3 (pc' := 13) (lo' := [some (vR q 11 0), some (vI a1), some (vI a2), some (vI a3), none]) (st' := [vI a3, vI a1, vR q 11 0]) (M1 := M) rfl ?_
      obtain ⟨x1, hx1, h⟩ := Option.bind_eq_some_iff.mp h
      refine Z_callV8 k_X1_nextOnWay k_X1_shortestWire rfl rfl (l_1_117) (ci := 1) rfl [vI a1, vI a3] [] rfl rfl (Nat.le_of_ble_eq_true rfl) (Nat.le_of_ble_eq_true rfl) (e_X1_shortestWire (d + 1) q a1 a3 M _ _ hx1) ?_
      refine Z_blk k_X1_nextOnWay 3 (pc' := 23) (lo' := [some (vR q 11 0), some (vI a1), some (vI a2), some (vI a3), some (vI x1.1)]) (st' := [vI 1000, vI x1.1]) (M1 := x1.2) rfl ?_
      refine Z_icmp k_X1_nextOnWay rfl 46 rfl (fun hc => ?_) (fun hc => ?_)
      · replace h := of_pos hc h
        refine Z_blk k_X1_nextOnWay 2 (pc' := 2) (lo' := [some (vR q 11 0), some (vI a1), some (vI a2), some (vI (o_add a3 1)), some (vI x1.1)]) (st' := []) (M1 := x1.2) rfl ?_
        refine Z_mask [true, true, true, true, false] (lo0 := [some (vR q 11 0), some (vI a1), some (vI a2), some (vI (o_add a3 1)), none]) rfl ?_
        exact ih q a1 a2 (o_add a3 1) x1.2 _ _ h
      · replace h := of_neg hc h
        refine Z_blk k_X1_nextOnWay 4 (pc' := 31) (lo' := [some (vR q 11 0), some (vI a1), some (vI a2), some (vI a3), some (vI x1.1)]) (st' := [vI a2, vI a3, vR q 11 0, vI x1.1]) (M1 := x1.2) rfl ?_
        obtain ⟨x2, hx2, h⟩ := Option.bind_eq_some_iff.mp h
        refine Z_callV8 k_X1_nextOnWay k_X1_distance rfl rfl (l_1_120) (ci := 1) rfl [vI a3, vI a2] [vI x1.1] rfl rfl (Nat.le_of_ble_eq_true rfl) (Nat.le_of_ble_eq_true rfl) (e_X1_distance (d + 0) q a3 a2 x1.2 _ _ hx2) ?_
        refine Z_blk k_X1_nextOnWay 4 (pc' := 38) (lo' := [some (vR q 11 0), some (vI a1), some (vI a2), some (vI a3), some (vI x1.1)]) (st' := [vI a2, vI a1, vR q 11 0, vI (o_add x1.1 x2.1)]) (M1 := x2.2) rfl ?_
        obtain ⟨x3, hx3, h⟩ := Option.bind_eq_some_iff.mp h
        refine Z_callV8 k_X1_nextOnWay k_X1_distance rfl rfl (l_1_120) (ci := 1) rfl [vI a1, vI a2] [vI (o_add x1.1 x2.1)] rfl rfl (Nat.le_of_ble_eq_true rfl) (Nat.le_of_ble_eq_true rfl) (e_X1_distance (d + 0) q a1 a2 x2.2 _ _ hx3) ?_
        refine Z_icmp k_X1_nextOnWay rfl 46 rfl (fun hc => ?_) (fun hc => ?_)
        · replace h := of_pos hc h
          refine Z_blk k_X1_nextOnWay 2 (pc' := 2) (lo' := [some (vR q 11 0), some (vI a1), some (vI a2), some (vI (o_add a3 1)), some (vI x1.1)]) (st' := []) (M1 := x3.2) rfl ?_
          refine Z_mask [true, true, true, true, false] (lo0 := [some (vR q 11 0), some (vI a1), some (vI a2), some (vI (o_add a3 1)), none]) rfl ?_
          exact ih q a1 a2 (o_add a3 1) x3.2 _ _ h
        · replace h := of_neg hc h
          refine Z_blk k_X1_nextOnWay 1 (pc' := 45) (lo' := [some (vR q 11 0), some (vI a1), some (vI a2), some (vI a3), some (vI x1.1)]) (st' := [vI a3]) (M1 := x3.2) rfl ?_
          cases h
          exact Z_ret ⟨Or.inl rfl, _, rfl⟩ rfl
def f_X1_nextOnWay (q : Nat) (a1 : Int) (a2 : Int) (M : AM) : Option (Int × AM) := f_X1_nextOnWay_2 zB q a1 a2 0 M
theorem e_X1_nextOnWay {Y : List (Nat × Nat)} (d : Nat) (q : Nat) (a1 : Int) (a2 : Int) (M : AM) (x : Int) (N : AM) (h : f_X1_nextOnWay q a1 a2 M = some (x, N)) : Ev Y (d + 3) m_X1_nextOnWay 0 [some (vR q 11 0), some (vI a1), some (vI a2), none, none] [] M (some (vI x)) N := by
  unfold f_X1_nextOnWay at h
  refine Z_blk k_X1_nextOnWay 2 (pc' := 2) (lo' := [some (vR q 11 0), some (vI a1), some (vI a2), some (vI 0), none]) (st' := []) (M1 := M) rfl ?_
  refine Z_mask [true, true, true, true, false] (lo0 := [some (vR q 11 0), some (vI a1), some (vI a2), some (vI 0), none]) rfl ?_
  exact e_X1_nextOnWay_2 d zB q a1 a2 0 M _ _ h
def f_X1_isFirstOfPart_2 : Nat → Nat → Int → Int → AM → Option (Int × AM)
  | 0, _, _, _, _ => none
  | n + 1, q, a1, a2, M => if a1 ≤ a2 then some (1, M) else ((f_X1_distance q a2 a1 M).bind fun x1 => if 1000 ≤ x1.1 then f_X1_isFirstOfPart_2 n q a1 (o_add a2 1) x1.2 else some (0, x1.2))
theorem e_X1_isFirstOfPart_2 {Y : List (Nat × Nat)} (d : Nat) : ∀ (n : Nat) (q : Nat) (a1 : Int) (a2 : Int) (M : AM) (x : Int) (N : AM), f_X1_isFirstOfPart_2 n q a1 a2 M = some (x, N) → Ev Y (d + 3) m_X1_isFirstOfPart 2 [some (vR q 11 0), some (vI a1), some (vI a2)] [] M (some (vI x)) N := by
  intro n
  induction n with
  | zero => intro q a1 a2 M x N h; cases h
  | succ n ih =>
    intro q a1 a2 M x N h
    simp only [f_X1_isFirstOfPart_2] at h
    refine Z_blk k_X1_isFirstOfPart 2 (pc' := 4) (lo' := [some (vR q 11 0), some (vI a1), some (vI a2)]) (st' := [vI a1, vI a2]) (M1 := M) rfl ?_
    refine Z_icmp k_X1_isFirstOfPart rfl 27 rfl (fun hc => ?_) (fun hc => ?_)
    · replace h := of_pos hc h
      refine Z_blk k_X1_isFirstOfPart 1 (pc' := 28) (lo' := [some (vR q 11 0), some (vI a1), some (vI a2)]) (st' := [vI 1]) (M1 := M) rfl ?_
      cases h
      exact Z_ret ⟨Or.inr ⟨rfl, Or.inr rfl⟩, _, rfl⟩ rfl
    · replace h := of_neg hc h
      refine Z_blk k_X1_isFirstOfPart 3 (pc' := 10) (lo' := [some (vR q 11 0), some (vI a1), some (vI a2)]) (st' := [vI a1, vI a2, vR q 11 0]) (M1 := M) rfl ?_
      obtain ⟨x1, hx1, h⟩ := Option.bind_eq_some_iff.mp h
      refine Z_callV8 k_X1_isFirstOfPart k_X1_distance rfl rfl (l_1_120) (ci := 1) rfl [vI a2, vI a1] [] rfl rfl (Nat.le_of_ble_eq_true rfl) (Nat.le_of_ble_eq_true rfl) (e_X1_distance (d + 0) q a2 a1 M _ _ hx1) ?_
      refine Z_blk k_X1_isFirstOfPart 1 (pc' := 16) (lo' := [some (vR q 11 0), some (vI a1), some (vI a2)]) (st' := [vI 1000, vI x1.1]) (M1 := x1.2) rfl ?_
      refine Z_icmp k_X1_isFirstOfPart rfl 21 rfl (fun hc => ?_) (fun hc => ?_)
      · replace h := of_pos hc h
        refine Z_blk k_X1_isFirstOfPart 2 (pc' := 2) (lo' := [some (vR q 11 0), some (vI a1), some (vI (o_add a2 1))]) (st' := []) (M1 := x1.2) rfl ?_
        refine Z_mask [true, true, true] (lo0 := [some (vR q 11 0), some (vI a1), some (vI (o_add a2 1))]) rfl ?_
        exact ih q a1 (o_add a2 1) x1.2 _ _ h
      · replace h := of_neg hc h
        refine Z_blk k_X1_isFirstOfPart 1 (pc' := 20) (lo' := [some (vR q 11 0), some (vI a1), some (vI a2)]) (st' := [vI 0]) (M1 := x1.2) rfl ?_
        cases h
        exact Z_ret ⟨Or.inr ⟨rfl, Or.inl rfl⟩, _, rfl⟩ rfl
def f_X1_isFirstOfPart (q : Nat) (a1 : Int) (M : AM) : Option (Int × AM) := f_X1_isFirstOfPart_2 zB q a1 0 M
theorem e_X1_isFirstOfPart {Y : List (Nat × Nat)} (d : Nat) (q : Nat) (a1 : Int) (M : AM) (x : Int) (N : AM) (h : f_X1_isFirstOfPart q a1 M = some (x, N)) : Ev Y (d + 3) m_X1_isFirstOfPart 0 [some (vR q 11 0), some (vI a1), none] [] M (some (vI x)) N := by
  unfold f_X1_isFirstOfPart at h
  refine Z_blk k_X1_isFirstOfPart 2 (pc' := 2) (lo' := [some (vR q 11 0), some (vI a1), some (vI 0)]) (st' := []) (M1 := M) rfl ?_
  refine Z_mask [true, true, true] (lo0 := [some (vR q 11 0), some (vI a1), some (vI 0)]) rfl ?_
  exact e_X1_isFirstOfPart_2 d zB q a1 0 M _ _ h
def f_X1_heardSet_4 : Nat → Nat → Int → Int → Int → AM → Option (Int × AM)
  | 0, _, _, _, _, _ => none
  | n + 1, q, a1, a2, a3, M => if M q 2 ≤ a3 then some (a2, M) else ((f_X1_distance q a1 a3 M).bind fun x1 => if x1.2 q 0 < x1.1 then f_X1_heardSet_4 n q a1 a2 (o_add a3 1) x1.2 else f_X1_heardSet_4 n q a1 (o_or a2 (o_shl 1 a3)) (o_add a3 1) x1.2)
theorem e_X1_heardSet_4 {Y : List (Nat × Nat)} (d : Nat) : ∀ (n : Nat) (q : Nat) (a1 : Int) (a2 : Int) (a3 : Int) (M : AM) (x : Int) (N : AM), f_X1_heardSet_4 n q a1 a2 a3 M = some (x, N) → Ev Y (d + 3) m_X1_heardSet 4 [some (vR q 11 0), some (vI a1), some (vI a2), some (vI a3)] [] M (some (vI x)) N := by
  intro n
  induction n with
  | zero => intro q a1 a2 a3 M x N h; cases h
  | succ n ih =>
    intro q a1 a2 a3 M x N h
    simp only [f_X1_heardSet_4] at h
    refine Z_blk k_X1_heardSet 3 (pc' := 9) (lo' := [some (vR q 11 0), some (vI a1), some (vI a2), some (vI a3)]) (st' := [vI (M q 2), vI a3]) (M1 := M) rfl ?_
    refine Z_icmp k_X1_heardSet rfl 37 rfl (fun hc => ?_) (fun hc => ?_)
    · replace h := of_pos hc h
      refine Z_blk k_X1_heardSet 1 (pc' := 38) (lo' := [some (vR q 11 0), some (vI a1), some (vI a2), some (vI a3)]) (st' := [vI a2]) (M1 := M) rfl ?_
      cases h
      exact Z_ret ⟨Or.inl rfl, _, rfl⟩ rfl
    · replace h := of_neg hc h
      refine Z_blk k_X1_heardSet 3 (pc' := 15) (lo' := [some (vR q 11 0), some (vI a1), some (vI a2), some (vI a3)]) (st' := [vI a3, vI a1, vR q 11 0]) (M1 := M) rfl ?_
      obtain ⟨x1, hx1, h⟩ := Option.bind_eq_some_iff.mp h
      refine Z_callV8 k_X1_heardSet k_X1_distance rfl rfl (l_1_120) (ci := 1) rfl [vI a1, vI a3] [] rfl rfl (Nat.le_of_ble_eq_true rfl) (Nat.le_of_ble_eq_true rfl) (e_X1_distance (d + 0) q a1 a3 M _ _ hx1) ?_
      refine Z_blk k_X1_heardSet 2 (pc' := 22) (lo' := [some (vR q 11 0), some (vI a1), some (vI a2), some (vI a3)]) (st' := [vI (x1.2 q 0), vI x1.1]) (M1 := x1.2) rfl ?_
      refine Z_icmp k_X1_heardSet rfl 31 rfl (fun hc => ?_) (fun hc => ?_)
      · replace h := of_pos hc h
        refine Z_blk k_X1_heardSet 2 (pc' := 4) (lo' := [some (vR q 11 0), some (vI a1), some (vI a2), some (vI (o_add a3 1))]) (st' := []) (M1 := x1.2) rfl ?_
        refine Z_mask [true, true, true, true] (lo0 := [some (vR q 11 0), some (vI a1), some (vI a2), some (vI (o_add a3 1))]) rfl ?_
        exact ih q a1 a2 (o_add a3 1) x1.2 _ _ h
      · replace h := of_neg hc h
        refine Z_blk k_X1_heardSet 8 (pc' := 4) (lo' := [some (vR q 11 0), some (vI a1), some (vI (o_or a2 (o_shl 1 a3))), some (vI (o_add a3 1))]) (st' := []) (M1 := x1.2) rfl ?_
        refine Z_mask [true, true, true, true] (lo0 := [some (vR q 11 0), some (vI a1), some (vI (o_or a2 (o_shl 1 a3))), some (vI (o_add a3 1))]) rfl ?_
        exact ih q a1 (o_or a2 (o_shl 1 a3)) (o_add a3 1) x1.2 _ _ h
def f_X1_heardSet (q : Nat) (a1 : Int) (M : AM) : Option (Int × AM) := f_X1_heardSet_4 zB q a1 0 0 M
theorem e_X1_heardSet {Y : List (Nat × Nat)} (d : Nat) (q : Nat) (a1 : Int) (M : AM) (x : Int) (N : AM) (h : f_X1_heardSet q a1 M = some (x, N)) : Ev Y (d + 3) m_X1_heardSet 0 [some (vR q 11 0), some (vI a1), none, none] [] M (some (vI x)) N := by
  unfold f_X1_heardSet at h
  refine Z_blk k_X1_heardSet 4 (pc' := 4) (lo' := [some (vR q 11 0), some (vI a1), some (vI 0), some (vI 0)]) (st' := []) (M1 := M) rfl ?_
  refine Z_mask [true, true, true, true] (lo0 := [some (vR q 11 0), some (vI a1), some (vI 0), some (vI 0)]) rfl ?_
  exact e_X1_heardSet_4 d zB q a1 0 0 M _ _ h
def f_X1_isRung (q : Nat) (a1 : Int) (M : AM) : Option (Int × AM) := if 0 ≤ a1 ∧ a1 < 6 then ((f_X1_distance q (M (q + 4) (Int.toNat a1)) (M (q + 5) (Int.toNat a1)) M).bind fun x2 => if x2.2 q 0 < x2.1 then some (0, x2.2) else some (1, x2.2)) else none
theorem e_X1_isRung {Y : List (Nat × Nat)} (d : Nat) (q : Nat) (a1 : Int) (M : AM) (x : Int) (N : AM) (h : f_X1_isRung q a1 M = some (x, N)) : Ev Y (d + 3) m_X1_isRung 0 [some (vR q 11 0), some (vI a1)] [] M (some (vI x)) N := by
  unfold f_X1_isRung at h
  refine Z_blk k_X1_isRung 4 (pc' := 6) (lo' := [some (vR q 11 0), some (vI a1)]) (st' := [vI a1, vR (q + 4) 0 6, vR q 11 0]) (M1 := M) rfl ?_
  obtain ⟨hc1, h⟩ := of_grd h
  refine Z_one k_X1_isRung rfl (pc' := 7) (lo' := [some (vR q 11 0), some (vI a1)]) (st' := [vI (M (q + 4) (Int.toNat a1)), vR q 11 0]) (M1 := M) (if_pos hc1) ?_
  refine Z_blk k_X1_isRung 3 (pc' := 12) (lo' := [some (vR q 11 0), some (vI a1)]) (st' := [vI a1, vR (q + 5) 0 6, vI (M (q + 4) (Int.toNat a1)), vR q 11 0]) (M1 := M) rfl ?_
  refine Z_one k_X1_isRung rfl (pc' := 13) (lo' := [some (vR q 11 0), some (vI a1)]) (st' := [vI (M (q + 5) (Int.toNat a1)), vI (M (q + 4) (Int.toNat a1)), vR q 11 0]) (M1 := M) (if_pos hc1) ?_
  obtain ⟨x2, hx2, h⟩ := Option.bind_eq_some_iff.mp h
  refine Z_callV8 k_X1_isRung k_X1_distance rfl rfl (l_1_120) (ci := 1) rfl [vI (M (q + 4) (Int.toNat a1)), vI (M (q + 5) (Int.toNat a1))] [] rfl rfl (Nat.le_of_ble_eq_true rfl) (Nat.le_of_ble_eq_true rfl) (e_X1_distance (d + 0) q (M (q + 4) (Int.toNat a1)) (M (q + 5) (Int.toNat a1)) M _ _ hx2) ?_
  refine Z_blk k_X1_isRung 2 (pc' := 20) (lo' := [some (vR q 11 0), some (vI a1)]) (st' := [vI (x2.2 q 0), vI x2.1]) (M1 := x2.2) rfl ?_
  refine Z_icmp k_X1_isRung rfl 27 rfl (fun hc => ?_) (fun hc => ?_)
  · replace h := of_pos hc h
    refine Z_blk k_X1_isRung 1 (pc' := 28) (lo' := [some (vR q 11 0), some (vI a1)]) (st' := [vI 0]) (M1 := x2.2) rfl ?_
    cases h
    exact Z_ret ⟨Or.inr ⟨rfl, Or.inl rfl⟩, _, rfl⟩ rfl
  · replace h := of_neg hc h
    refine Z_blk k_X1_isRung 2 (pc' := 28) (lo' := [some (vR q 11 0), some (vI a1)]) (st' := [vI 1]) (M1 := x2.2) rfl ?_
    cases h
    exact Z_ret ⟨Or.inr ⟨rfl, Or.inr rfl⟩, _, rfl⟩ rfl
theorem l_1_123 : zhas 4028 (Jvm.Cond.methodLink "BellPullHouse$House" 123 yX1_isRung) = true := by decide +kernel
def f_X1_rungSet_4 : Nat → Nat → Int → Int → AM → Option (Int × AM)
  | 0, _, _, _, _ => none
  | n + 1, q, a1, a2, M => if M q 4 ≤ a2 then some (a1, M) else ((f_X1_isRung q a2 M).bind fun x1 => if x1.1 = 0 then f_X1_rungSet_4 n q a1 (o_add a2 1) x1.2 else f_X1_rungSet_4 n q (o_or a1 (o_shl 1 a2)) (o_add a2 1) x1.2)
theorem e_X1_rungSet_4 {Y : List (Nat × Nat)} (d : Nat) : ∀ (n : Nat) (q : Nat) (a1 : Int) (a2 : Int) (M : AM) (x : Int) (N : AM), f_X1_rungSet_4 n q a1 a2 M = some (x, N) → Ev Y (d + 4) m_X1_rungSet 4 [some (vR q 11 0), some (vI a1), some (vI a2)] [] M (some (vI x)) N := by
  intro n
  induction n with
  | zero => intro q a1 a2 M x N h; cases h
  | succ n ih =>
    intro q a1 a2 M x N h
    simp only [f_X1_rungSet_4] at h
    refine Z_blk k_X1_rungSet 3 (pc' := 9) (lo' := [some (vR q 11 0), some (vI a1), some (vI a2)]) (st' := [vI (M q 4), vI a2]) (M1 := M) rfl ?_
    refine Z_icmp k_X1_rungSet rfl 32 rfl (fun hc => ?_) (fun hc => ?_)
    · replace h := of_pos hc h
      refine Z_blk k_X1_rungSet 1 (pc' := 33) (lo' := [some (vR q 11 0), some (vI a1), some (vI a2)]) (st' := [vI a1]) (M1 := M) rfl ?_
      cases h
      exact Z_ret ⟨Or.inl rfl, _, rfl⟩ rfl
    · replace h := of_neg hc h
      refine Z_blk k_X1_rungSet 2 (pc' := 14) (lo' := [some (vR q 11 0), some (vI a1), some (vI a2)]) (st' := [vI a2, vR q 11 0]) (M1 := M) rfl ?_
      obtain ⟨x1, hx1, h⟩ := Option.bind_eq_some_iff.mp h
      refine Z_callV8 k_X1_rungSet k_X1_isRung rfl rfl (l_1_123) (ci := 1) rfl [vI a2] [] rfl rfl (Nat.le_of_ble_eq_true rfl) (Nat.le_of_ble_eq_true rfl) (e_X1_isRung (d + 0) q a2 M _ _ hx1) ?_
      refine Z_if k_X1_rungSet rfl 26 rfl (fun hc => ?_) (fun hc => ?_)
      · replace h := of_pos hc h
        refine Z_blk k_X1_rungSet 2 (pc' := 4) (lo' := [some (vR q 11 0), some (vI a1), some (vI (o_add a2 1))]) (st' := []) (M1 := x1.2) rfl ?_
        refine Z_mask [true, true, true] (lo0 := [some (vR q 11 0), some (vI a1), some (vI (o_add a2 1))]) rfl ?_
        exact ih q a1 (o_add a2 1) x1.2 _ _ h
      · replace h := of_neg hc h
        refine Z_blk k_X1_rungSet 8 (pc' := 4) (lo' := [some (vR q 11 0), some (vI (o_or a1 (o_shl 1 a2))), some (vI (o_add a2 1))]) (st' := []) (M1 := x1.2) rfl ?_
        refine Z_mask [true, true, true] (lo0 := [some (vR q 11 0), some (vI (o_or a1 (o_shl 1 a2))), some (vI (o_add a2 1))]) rfl ?_
        exact ih q (o_or a1 (o_shl 1 a2)) (o_add a2 1) x1.2 _ _ h
def f_X1_rungSet (q : Nat) (M : AM) : Option (Int × AM) := f_X1_rungSet_4 zB q 0 0 M
theorem e_X1_rungSet {Y : List (Nat × Nat)} (d : Nat) (q : Nat) (M : AM) (x : Int) (N : AM) (h : f_X1_rungSet q M = some (x, N)) : Ev Y (d + 4) m_X1_rungSet 0 [some (vR q 11 0), none, none] [] M (some (vI x)) N := by
  unfold f_X1_rungSet at h
  refine Z_blk k_X1_rungSet 4 (pc' := 4) (lo' := [some (vR q 11 0), some (vI 0), some (vI 0)]) (st' := []) (M1 := M) rfl ?_
  refine Z_mask [true, true, true] (lo0 := [some (vR q 11 0), some (vI 0), some (vI 0)]) rfl ?_
  exact e_X1_rungSet_4 d zB q 0 0 M _ _ h
def f_X1_loveTogether_4 : Nat → Nat → Int → Int → AM → Option (Int × AM)
  | 0, _, _, _, _ => none
  | n + 1, q, a1, a2, M => if M q 4 ≤ a2 then some (a1, M) else (if 0 ≤ a2 ∧ a2 < 6 then f_X1_loveTogether_4 n q (o_add a1 (M (q + 6) (Int.toNat a2))) (o_add a2 1) M else none)
theorem e_X1_loveTogether_4 {Y : List (Nat × Nat)} (d : Nat) : ∀ (n : Nat) (q : Nat) (a1 : Int) (a2 : Int) (M : AM) (x : Int) (N : AM), f_X1_loveTogether_4 n q a1 a2 M = some (x, N) → Ev Y (d + 0) m_X1_loveTogether 4 [some (vR q 11 0), some (vI a1), some (vI a2)] [] M (some (vI x)) N := by
  intro n
  induction n with
  | zero => intro q a1 a2 M x N h; cases h
  | succ n ih =>
    intro q a1 a2 M x N h
    simp only [f_X1_loveTogether_4] at h
    refine Z_blk k_X1_loveTogether 3 (pc' := 9) (lo' := [some (vR q 11 0), some (vI a1), some (vI a2)]) (st' := [vI (M q 4), vI a2]) (M1 := M) rfl ?_
    refine Z_icmp k_X1_loveTogether rfl 27 rfl (fun hc => ?_) (fun hc => ?_)
    · replace h := of_pos hc h
      refine Z_blk k_X1_loveTogether 1 (pc' := 28) (lo' := [some (vR q 11 0), some (vI a1), some (vI a2)]) (st' := [vI a1]) (M1 := M) rfl ?_
      cases h
      exact Z_ret ⟨Or.inl rfl, _, rfl⟩ rfl
    · replace h := of_neg hc h
      refine Z_blk k_X1_loveTogether 4 (pc' := 18) (lo' := [some (vR q 11 0), some (vI a1), some (vI a2)]) (st' := [vI a2, vR (q + 6) 0 6, vI a1]) (M1 := M) rfl ?_
      obtain ⟨hc1, h⟩ := of_grd h
      refine Z_one k_X1_loveTogether rfl (pc' := 19) (lo' := [some (vR q 11 0), some (vI a1), some (vI a2)]) (st' := [vI (M (q + 6) (Int.toNat a2)), vI a1]) (M1 := M) (if_pos hc1) ?_
      refine Z_blk k_X1_loveTogether 4 (pc' := 4) (lo' := [some (vR q 11 0), some (vI (o_add a1 (M (q + 6) (Int.toNat a2)))), some (vI (o_add a2 1))]) (st' := []) (M1 := M) rfl ?_
      refine Z_mask [true, true, true] (lo0 := [some (vR q 11 0), some (vI (o_add a1 (M (q + 6) (Int.toNat a2)))), some (vI (o_add a2 1))]) rfl ?_
      exact ih q (o_add a1 (M (q + 6) (Int.toNat a2))) (o_add a2 1) M _ _ h
def f_X1_loveTogether (q : Nat) (M : AM) : Option (Int × AM) := f_X1_loveTogether_4 zB q 0 0 M
theorem e_X1_loveTogether {Y : List (Nat × Nat)} (d : Nat) (q : Nat) (M : AM) (x : Int) (N : AM) (h : f_X1_loveTogether q M = some (x, N)) : Ev Y (d + 0) m_X1_loveTogether 0 [some (vR q 11 0), none, none] [] M (some (vI x)) N := by
  unfold f_X1_loveTogether at h
  refine Z_blk k_X1_loveTogether 4 (pc' := 4) (lo' := [some (vR q 11 0), some (vI 0), some (vI 0)]) (st' := []) (M1 := M) rfl ?_
  refine Z_mask [true, true, true] (lo0 := [some (vR q 11 0), some (vI 0), some (vI 0)]) rfl ?_
  exact e_X1_loveTogether_4 d zB q 0 0 M _ _ h
theorem l_1_129 : zhas 5094 (Jvm.Cond.methodLink "BellPullHouse$House" 129 yX1_answerOf) = true := by decide +kernel
def f_X1_answersAnother (q : Nat) (a1 : Int) (M : AM) : Option (Int × AM) := (f_X1_answerOf q a1 M).bind fun x1 => if x1.1 = (-1) then some (0, x1.2) else (if x1.1 = a1 then some (0, x1.2) else some (1, x1.2))
theorem e_X1_answersAnother {Y : List (Nat × Nat)} (d : Nat) (q : Nat) (a1 : Int) (M : AM) (x : Int) (N : AM) (h : f_X1_answersAnother q a1 M = some (x, N)) : Ev Y (d + 3) m_X1_answersAnother 0 [some (vR q 11 0), some (vI a1), none] [] M (some (vI x)) N := by
  unfold f_X1_answersAnother at h
  refine Z_blk k_X1_answersAnother 2 (pc' := 2) (lo' := [some (vR q 11 0), some (vI a1), none]) (st' := [vI a1, vR q 11 0]) (M1 := M) rfl ?_
  obtain ⟨x1, hx1, h⟩ := Option.bind_eq_some_iff.mp h
  refine Z_callV8 k_X1_answersAnother k_X1_answerOf rfl rfl (l_1_129) (ci := 1) rfl [vI a1] [] rfl rfl (Nat.le_of_ble_eq_true rfl) (Nat.le_of_ble_eq_true rfl) (e_X1_answerOf (d + 0) q a1 M _ _ hx1) ?_
  refine Z_blk k_X1_answersAnother 3 (pc' := 8) (lo' := [some (vR q 11 0), some (vI a1), some (vI x1.1)]) (st' := [vI (-1), vI x1.1]) (M1 := x1.2) rfl ?_
  refine Z_icmp k_X1_answersAnother rfl 20 rfl (fun hc => ?_) (fun hc => ?_)
  · replace h := of_pos hc h
    refine Z_blk k_X1_answersAnother 1 (pc' := 21) (lo' := [some (vR q 11 0), some (vI a1), some (vI x1.1)]) (st' := [vI 0]) (M1 := x1.2) rfl ?_
    cases h
    exact Z_ret ⟨Or.inr ⟨rfl, Or.inl rfl⟩, _, rfl⟩ rfl
  · replace h := of_neg hc h
    refine Z_blk k_X1_answersAnother 2 (pc' := 13) (lo' := [some (vR q 11 0), some (vI a1), some (vI x1.1)]) (st' := [vI a1, vI x1.1]) (M1 := x1.2) rfl ?_
    refine Z_icmp k_X1_answersAnother rfl 20 rfl (fun hc => ?_) (fun hc => ?_)
    · replace h := of_pos hc h
      refine Z_blk k_X1_answersAnother 1 (pc' := 21) (lo' := [some (vR q 11 0), some (vI a1), some (vI x1.1)]) (st' := [vI 0]) (M1 := x1.2) rfl ?_
      cases h
      exact Z_ret ⟨Or.inr ⟨rfl, Or.inl rfl⟩, _, rfl⟩ rfl
    · replace h := of_neg hc h
      refine Z_blk k_X1_answersAnother 2 (pc' := 21) (lo' := [some (vR q 11 0), some (vI a1), some (vI x1.1)]) (st' := [vI 1]) (M1 := x1.2) rfl ?_
      cases h
      exact Z_ret ⟨Or.inr ⟨rfl, Or.inr rfl⟩, _, rfl⟩ rfl
def f_X5_isDigit (a0 : Int) (M : AM) : Option (Int × AM) := if a0 < 48 then some (0, M) else (if 57 < a0 then some (0, M) else some (1, M))
theorem e_X5_isDigit {Y : List (Nat × Nat)} (d : Nat) (a0 : Int) (M : AM) (x : Int) (N : AM) (h : f_X5_isDigit a0 M = some (x, N)) : Ev Y (d + 0) m_X5_isDigit 0 [some (vI a0)] [] M (some (vI x)) N := by
  unfold f_X5_isDigit at h
  refine Z_blk k_X5_isDigit 2 (pc' := 3) (lo' := [some (vI a0)]) (st' := [vI 48, vI a0]) (M1 := M) rfl ?_
  refine Z_icmp k_X5_isDigit rfl 16 rfl (fun hc => ?_) (fun hc => ?_)
  · replace h := of_pos hc h
    refine Z_blk k_X5_isDigit 1 (pc' := 17) (lo' := [some (vI a0)]) (st' := [vI 0]) (M1 := M) rfl ?_
    cases h
    exact Z_ret ⟨Or.inr ⟨rfl, Or.inl rfl⟩, _, rfl⟩ rfl
  · replace h := of_neg hc h
    refine Z_blk k_X5_isDigit 2 (pc' := 9) (lo' := [some (vI a0)]) (st' := [vI 57, vI a0]) (M1 := M) rfl ?_
    refine Z_icmp k_X5_isDigit rfl 16 rfl (fun hc => ?_) (fun hc => ?_)
    · replace h := of_pos hc h
      refine Z_blk k_X5_isDigit 1 (pc' := 17) (lo' := [some (vI a0)]) (st' := [vI 0]) (M1 := M) rfl ?_
      cases h
      exact Z_ret ⟨Or.inr ⟨rfl, Or.inl rfl⟩, _, rfl⟩ rfl
    · replace h := of_neg hc h
      refine Z_blk k_X5_isDigit 2 (pc' := 17) (lo' := [some (vI a0)]) (st' := [vI 1]) (M1 := M) rfl ?_
      cases h
      exact Z_ret ⟨Or.inr ⟨rfl, Or.inr rfl⟩, _, rfl⟩ rfl
def f_X5_isLetter (a0 : Int) (M : AM) : Option (Int × AM) := if a0 < 97 then some (0, M) else (if 122 < a0 then some (0, M) else some (1, M))
theorem e_X5_isLetter {Y : List (Nat × Nat)} (d : Nat) (a0 : Int) (M : AM) (x : Int) (N : AM) (h : f_X5_isLetter a0 M = some (x, N)) : Ev Y (d + 0) m_X5_isLetter 0 [some (vI a0)] [] M (some (vI x)) N := by
  unfold f_X5_isLetter at h
  refine Z_blk k_X5_isLetter 2 (pc' := 3) (lo' := [some (vI a0)]) (st' := [vI 97, vI a0]) (M1 := M) rfl ?_
  refine Z_icmp k_X5_isLetter rfl 16 rfl (fun hc => ?_) (fun hc => ?_)
  · replace h := of_pos hc h
    refine Z_blk k_X5_isLetter 1 (pc' := 17) (lo' := [some (vI a0)]) (st' := [vI 0]) (M1 := M) rfl ?_
    cases h
    exact Z_ret ⟨Or.inr ⟨rfl, Or.inl rfl⟩, _, rfl⟩ rfl
  · replace h := of_neg hc h
    refine Z_blk k_X5_isLetter 2 (pc' := 9) (lo' := [some (vI a0)]) (st' := [vI 122, vI a0]) (M1 := M) rfl ?_
    refine Z_icmp k_X5_isLetter rfl 16 rfl (fun hc => ?_) (fun hc => ?_)
    · replace h := of_pos hc h
      refine Z_blk k_X5_isLetter 1 (pc' := 17) (lo' := [some (vI a0)]) (st' := [vI 0]) (M1 := M) rfl ?_
      cases h
      exact Z_ret ⟨Or.inr ⟨rfl, Or.inl rfl⟩, _, rfl⟩ rfl
    · replace h := of_neg hc h
      refine Z_blk k_X5_isLetter 2 (pc' := 17) (lo' := [some (vI a0)]) (st' := [vI 1]) (M1 := M) rfl ?_
      cases h
      exact Z_ret ⟨Or.inr ⟨rfl, Or.inr rfl⟩, _, rfl⟩ rfl
theorem l_5_86 : zhas 3099 (Jvm.Cond.methodLink "BellPullHouse$Tokens" 86 yX5_isDigit) = true := by decide +kernel
def f_X5_scanNumber_78 (a1 : Int) (M : AM) : Option (AM) := if 4 < a1 then (zlet (am_upd M 20 0 4) fun M1 => some M1) else (zlet (am_upd M 20 0 2) fun M2 => some M2)
theorem e_X5_scanNumber_78 {Y : List (Nat × Nat)} (d : Nat) (a1 : Int) (M : AM) (N : AM) (h : f_X5_scanNumber_78 a1 M = some N) : Ev Y (d + 1) m_X5_scanNumber 78 [some (vR 20 15 0), some (vI a1)] [] M none N := by
  unfold f_X5_scanNumber_78 at h
  refine Z_blk k_X5_scanNumber 3 (pc' := 81) (lo' := [some (vR 20 15 0), some (vI a1)]) (st' := [vI 4, vI a1, vR 20 15 0]) (M1 := M) rfl ?_
  refine Z_icmp k_X5_scanNumber rfl 88 rfl (fun hc => ?_) (fun hc => ?_)
  · replace h := of_pos hc h
    obtain ⟨M1, eM1, h⟩ := of_zlet h
    refine Z_blk k_X5_scanNumber 2 (pc' := 92) (lo' := [some (vR 20 15 0), some (vI a1)]) (st' := []) (M1 := M1) (by rw [eM1]; rfl) ?_
    cases h
    exact Z_ret ⟨rfl, _, rfl⟩ rfl
  · replace h := of_neg hc h
    obtain ⟨M2, eM2, h⟩ := of_zlet h
    refine Z_blk k_X5_scanNumber 3 (pc' := 92) (lo' := [some (vR 20 15 0), some (vI a1)]) (st' := []) (M1 := M2) (by rw [eM2]; rfl) ?_
    cases h
    exact Z_ret ⟨rfl, _, rfl⟩ rfl
def f_X5_scanNumber_7 : Nat → Int → AM → Option (AM)
  | 0, _, _ => none
  | n + 1, a1, M => if M 20 10 ≤ M 20 11 then f_X5_scanNumber_78 a1 M else (if 0 ≤ M 20 11 ∧ M 20 11 < 900 then ((f_X5_isDigit (M 21 (Int.toNat (M 20 11))) M).bind fun x2 => if x2.1 = 0 then f_X5_scanNumber_78 a1 x2.2 else (if 4 ≤ a1 then (zlet (am_upd x2.2 20 11 (o_add (x2.2 20 11) 1)) fun M3 => f_X5_scanNumber_7 n (o_add a1 1) M3) else (if 0 ≤ x2.2 20 11 ∧ x2.2 20 11 < 900 then (zlet (am_upd x2.2 20 4 (o_add (o_mul (x2.2 20 4) 10) (o_sub (x2.2 21 (Int.toNat (x2.2 20 11))) 48))) fun M5 => zlet (am_upd M5 20 11 (o_add (M5 20 11) 1)) fun M6 => f_X5_scanNumber_7 n (o_add a1 1) M6) else none))) else none)
theorem e_X5_scanNumber_7 {Y : List (Nat × Nat)} (d : Nat) : ∀ (n : Nat) (a1 : Int) (M : AM) (N : AM), f_X5_scanNumber_7 n a1 M = some N → Ev Y (d + 1) m_X5_scanNumber 7 [some (vR 20 15 0), some (vI a1)] [] M none N := by
  intro n
  induction n with
  | zero => intro a1 M N h; cases h
  | succ n ih =>
    intro a1 M N h
    simp only [f_X5_scanNumber_7] at h
    refine Z_blk k_X5_scanNumber 4 (pc' := 15) (lo' := [some (vR 20 15 0), some (vI a1)]) (st' := [vI (M 20 10), vI (M 20 11)]) (M1 := M) rfl ?_
    refine Z_icmp k_X5_scanNumber rfl 78 rfl (fun hc => ?_) (fun hc => ?_)
    · replace h := of_pos hc h
      refine Z_mask [true, true] (lo0 := [some (vR 20 15 0), some (vI a1)]) rfl ?_
      exact e_X5_scanNumber_78 d a1 M _ h
    · replace h := of_neg hc h
      refine Z_blk k_X5_scanNumber 4 (pc' := 26) (lo' := [some (vR 20 15 0), some (vI a1)]) (st' := [vI (M 20 11), vR 21 2 900]) (M1 := M) rfl ?_
      obtain ⟨hc1, h⟩ := of_grd h
      refine Z_one k_X5_scanNumber rfl (pc' := 27) (lo' := [some (vR 20 15 0), some (vI a1)]) (st' := [vI (M 21 (Int.toNat (M 20 11)))]) (M1 := M) (if_pos hc1) ?_
      obtain ⟨x2, hx2, h⟩ := Option.bind_eq_some_iff.mp h
      refine Z_callS8 k_X5_scanNumber k_X5_isDigit rfl rfl (l_5_86) [vI (M 21 (Int.toNat (M 20 11)))] [] rfl rfl (Nat.le_of_ble_eq_true rfl) (Nat.le_of_ble_eq_true rfl) (e_X5_isDigit (d + 0) (M 21 (Int.toNat (M 20 11))) M _ _ hx2) ?_
      refine Z_if k_X5_scanNumber rfl 78 rfl (fun hc => ?_) (fun hc => ?_)
      · replace h := of_pos hc h
        refine Z_mask [true, true] (lo0 := [some (vR 20 15 0), some (vI a1)]) rfl ?_
        exact e_X5_scanNumber_78 d a1 x2.2 _ h
      · replace h := of_neg hc h
        refine Z_blk k_X5_scanNumber 2 (pc' := 35) (lo' := [some (vR 20 15 0), some (vI a1)]) (st' := [vI 4, vI a1]) (M1 := x2.2) rfl ?_
        refine Z_icmp k_X5_scanNumber rfl 62 rfl (fun hc => ?_) (fun hc => ?_)
        · replace h := of_pos hc h
          obtain ⟨M3, eM3, h⟩ := of_zlet h
          refine Z_blk k_X5_scanNumber 7 (pc' := 75) (lo' := [some (vR 20 15 0), some (vI (o_add a1 1))]) (st' := []) (M1 := M3) (by rw [eM3]; rfl) ?_
          refine Z_blk k_X5_scanNumber 1 (pc' := 7) (lo' := [some (vR 20 15 0), some (vI (o_add a1 1))]) (st' := []) (M1 := M3) rfl ?_
          refine Z_mask [true, true] (lo0 := [some (vR 20 15 0), some (vI (o_add a1 1))]) rfl ?_
          exact ih (o_add a1 1) M3 _ h
        · replace h := of_neg hc h
          refine Z_blk k_X5_scanNumber 9 (pc' := 54) (lo' := [some (vR 20 15 0), some (vI a1)]) (st' := [vI (x2.2 20 11), vR 21 2 900, vI (o_mul (x2.2 20 4) 10), vR 20 15 0]) (M1 := x2.2) rfl ?_
          obtain ⟨hc4, h⟩ := of_grd h
          refine Z_one k_X5_scanNumber rfl (pc' := 55) (lo' := [some (vR 20 15 0), some (vI a1)]) (st' := [vI (x2.2 21 (Int.toNat (x2.2 20 11))), vI (o_mul (x2.2 20 4) 10), vR 20 15 0]) (M1 := x2.2) (if_pos hc4) ?_
          obtain ⟨M5, eM5, h⟩ := of_zlet h
          refine Z_blk k_X5_scanNumber 4 (pc' := 62) (lo' := [some (vR 20 15 0), some (vI a1)]) (st' := []) (M1 := M5) (by rw [eM5]; rfl) ?_
          obtain ⟨M6, eM6, h⟩ := of_zlet h
          refine Z_blk k_X5_scanNumber 7 (pc' := 75) (lo' := [some (vR 20 15 0), some (vI (o_add a1 1))]) (st' := []) (M1 := M6) (by rw [eM6]; rfl) ?_
          refine Z_blk k_X5_scanNumber 1 (pc' := 7) (lo' := [some (vR 20 15 0), some (vI (o_add a1 1))]) (st' := []) (M1 := M6) rfl ?_
          refine Z_mask [true, true] (lo0 := [some (vR 20 15 0), some (vI (o_add a1 1))]) rfl ?_
          exact ih (o_add a1 1) M6 _ h
def f_X5_scanNumber (M : AM) : Option (AM) := zlet (am_upd M 20 4 0) fun M1 => f_X5_scanNumber_7 zB 0 M1
theorem e_X5_scanNumber {Y : List (Nat × Nat)} (d : Nat) (M : AM) (N : AM) (h : f_X5_scanNumber M = some N) : Ev Y (d + 1) m_X5_scanNumber 0 [some (vR 20 15 0), none] [] M none N := by
  unfold f_X5_scanNumber at h
  obtain ⟨M1, eM1, h⟩ := of_zlet h
  refine Z_blk k_X5_scanNumber 3 (pc' := 5) (lo' := [some (vR 20 15 0), none]) (st' := []) (M1 := M1) (by rw [eM1]; rfl) ?_
  refine Z_blk k_X5_scanNumber 2 (pc' := 7) (lo' := [some (vR 20 15 0), some (vI 0)]) (st' := []) (M1 := M1) rfl ?_
  refine Z_mask [true, true] (lo0 := [some (vR 20 15 0), some (vI 0)]) rfl ?_
  exact e_X5_scanNumber_7 d zB 0 M1 _ h
theorem l_5_79 : zhas 3092 (Jvm.Cond.methodLink "BellPullHouse$Tokens" 79 yX5_isLetter) = true := by decide +kernel
def f_X5_scanWord_103 : Nat → Int → AM → Option (AM)
  | 0, _, _ => none
  | n + 1, a1, M => if 23 ≤ a1 then some M else (if ¬ M 20 3 = (-1) then some M else (if 0 ≤ a1 ∧ a1 < 23 then (if ¬ l_cmp (M 22 (Int.toNat a1)) (M 20 2) = 0 then f_X5_scanWord_103 n (o_add a1 1) M else (zlet (am_upd M 20 3 a1) fun M2 => f_X5_scanWord_103 n (o_add a1 1) M2)) else none))
theorem e_X5_scanWord_103 {Y : List (Nat × Nat)} (d : Nat) : ∀ (n : Nat) (a1 : Int) (M : AM) (N : AM), f_X5_scanWord_103 n a1 M = some N → Ev Y (d + 1) m_X5_scanWord 103 [some (vR 20 15 0), some (vI a1)] [] M none N := by
  intro n
  induction n with
  | zero => intro a1 M N h; cases h
  | succ n ih =>
    intro a1 M N h
    simp only [f_X5_scanWord_103] at h
    refine Z_blk k_X5_scanWord 2 (pc' := 106) (lo' := [some (vR 20 15 0), some (vI a1)]) (st' := [vI 23, vI a1]) (M1 := M) rfl ?_
    refine Z_icmp k_X5_scanWord rfl 142 rfl (fun hc => ?_) (fun hc => ?_)
    · replace h := of_pos hc h
      cases h
      exact Z_ret ⟨rfl, _, rfl⟩ rfl
    · replace h := of_neg hc h
      refine Z_blk k_X5_scanWord 3 (pc' := 114) (lo' := [some (vR 20 15 0), some (vI a1)]) (st' := [vI (-1), vI (M 20 3)]) (M1 := M) rfl ?_
      refine Z_icmp k_X5_scanWord rfl 142 rfl (fun hc => ?_) (fun hc => ?_)
      · replace h := of_pos hc h
        cases h
        exact Z_ret ⟨rfl, _, rfl⟩ rfl
      · replace h := of_neg hc h
        refine Z_blk k_X5_scanWord 3 (pc' := 122) (lo' := [some (vR 20 15 0), some (vI a1)]) (st' := [vI a1, vR 22 1 23]) (M1 := M) rfl ?_
        obtain ⟨hc1, h⟩ := of_grd h
        refine Z_one k_X5_scanWord rfl (pc' := 123) (lo' := [some (vR 20 15 0), some (vI a1)]) (st' := [vL (M 22 (Int.toNat a1))]) (M1 := M) (if_pos hc1) ?_
        refine Z_blk k_X5_scanWord 3 (pc' := 128) (lo' := [some (vR 20 15 0), some (vI a1)]) (st' := [vI (l_cmp (M 22 (Int.toNat a1)) (M 20 2))]) (M1 := M) rfl ?_
        refine Z_if k_X5_scanWord rfl 136 rfl (fun hc => ?_) (fun hc => ?_)
        · replace h := of_pos hc h
          refine Z_blk k_X5_scanWord 2 (pc' := 103) (lo' := [some (vR 20 15 0), some (vI (o_add a1 1))]) (st' := []) (M1 := M) rfl ?_
          refine Z_mask [true, true] (lo0 := [some (vR 20 15 0), some (vI (o_add a1 1))]) rfl ?_
          exact ih (o_add a1 1) M _ h
        · replace h := of_neg hc h
          obtain ⟨M2, eM2, h⟩ := of_zlet h
          refine Z_blk k_X5_scanWord 3 (pc' := 136) (lo' := [some (vR 20 15 0), some (vI a1)]) (st' := []) (M1 := M2) (by rw [eM2]; rfl) ?_
          refine Z_blk k_X5_scanWord 2 (pc' := 103) (lo' := [some (vR 20 15 0), some (vI (o_add a1 1))]) (st' := []) (M1 := M2) rfl ?_
          refine Z_mask [true, true] (lo0 := [some (vR 20 15 0), some (vI (o_add a1 1))]) rfl ?_
          exact ih (o_add a1 1) M2 _ h
def f_X5_scanWord_15 : Nat → AM → Option (AM)
  | 0, _ => none
  | n + 1, M => if M 20 10 ≤ M 20 11 then f_X5_scanWord_103 zB 0 M else (if 0 ≤ M 20 11 ∧ M 20 11 < 900 then ((f_X5_isLetter (M 21 (Int.toNat (M 20 11))) M).bind fun x2 => if x2.1 = 0 then f_X5_scanWord_103 zB 0 x2.2 else (if 8 ≤ x2.2 20 8 then (zlet (am_upd x2.2 20 8 (o_add (x2.2 20 8) 1)) fun M3 => zlet (am_upd M3 20 11 (o_add (M3 20 11) 1)) fun M4 => f_X5_scanWord_15 n M4) else (if 0 ≤ x2.2 20 11 ∧ x2.2 20 11 < 900 then (zlet (am_upd x2.2 20 2 (l_add (l_mul (x2.2 20 2) 32) (o_add (o_sub (x2.2 21 (Int.toNat (x2.2 20 11))) 97) 1))) fun M6 => zlet (am_upd M6 20 8 (o_add (M6 20 8) 1)) fun M7 => zlet (am_upd M7 20 11 (o_add (M7 20 11) 1)) fun M8 => f_X5_scanWord_15 n M8) else none))) else none)
theorem e_X5_scanWord_15 {Y : List (Nat × Nat)} (d : Nat) : ∀ (n : Nat) (M : AM) (N : AM), f_X5_scanWord_15 n M = some N → Ev Y (d + 1) m_X5_scanWord 15 [some (vR 20 15 0), none] [] M none N := by
  intro n
  induction n with
  | zero => intro M N h; cases h
  | succ n ih =>
    intro M N h
    simp only [f_X5_scanWord_15] at h
    refine Z_blk k_X5_scanWord 4 (pc' := 23) (lo' := [some (vR 20 15 0), none]) (st' := [vI (M 20 10), vI (M 20 11)]) (M1 := M) rfl ?_
    refine Z_icmp k_X5_scanWord rfl 101 rfl (fun hc => ?_) (fun hc => ?_)
    · replace h := of_pos hc h
      refine Z_blk k_X5_scanWord 2 (pc' := 103) (lo' := [some (vR 20 15 0), some (vI 0)]) (st' := []) (M1 := M) rfl ?_
      refine Z_mask [true, true] (lo0 := [some (vR 20 15 0), some (vI 0)]) rfl ?_
      exact e_X5_scanWord_103 d zB 0 M _ h
    · replace h := of_neg hc h
      refine Z_blk k_X5_scanWord 4 (pc' := 34) (lo' := [some (vR 20 15 0), none]) (st' := [vI (M 20 11), vR 21 2 900]) (M1 := M) rfl ?_
      obtain ⟨hc1, h⟩ := of_grd h
      refine Z_one k_X5_scanWord rfl (pc' := 35) (lo' := [some (vR 20 15 0), none]) (st' := [vI (M 21 (Int.toNat (M 20 11)))]) (M1 := M) (if_pos hc1) ?_
      obtain ⟨x2, hx2, h⟩ := Option.bind_eq_some_iff.mp h
      refine Z_callS8 k_X5_scanWord k_X5_isLetter rfl rfl (l_5_79) [vI (M 21 (Int.toNat (M 20 11)))] [] rfl rfl (Nat.le_of_ble_eq_true rfl) (Nat.le_of_ble_eq_true rfl) (e_X5_isLetter (d + 0) (M 21 (Int.toNat (M 20 11))) M _ _ hx2) ?_
      refine Z_if k_X5_scanWord rfl 101 rfl (fun hc => ?_) (fun hc => ?_)
      · replace h := of_pos hc h
        refine Z_blk k_X5_scanWord 2 (pc' := 103) (lo' := [some (vR 20 15 0), some (vI 0)]) (st' := []) (M1 := x2.2) rfl ?_
        refine Z_mask [true, true] (lo0 := [some (vR 20 15 0), some (vI 0)]) rfl ?_
        exact e_X5_scanWord_103 d zB 0 x2.2 _ h
      · replace h := of_neg hc h
        refine Z_blk k_X5_scanWord 3 (pc' := 47) (lo' := [some (vR 20 15 0), none]) (st' := [vI 8, vI (x2.2 20 8)]) (M1 := x2.2) rfl ?_
        refine Z_icmp k_X5_scanWord rfl 78 rfl (fun hc => ?_) (fun hc => ?_)
        · replace h := of_pos hc h
          obtain ⟨M3, eM3, h⟩ := of_zlet h
          refine Z_blk k_X5_scanWord 6 (pc' := 88) (lo' := [some (vR 20 15 0), none]) (st' := []) (M1 := M3) (by rw [eM3]; rfl) ?_
          obtain ⟨M4, eM4, h⟩ := of_zlet h
          refine Z_blk k_X5_scanWord 6 (pc' := 98) (lo' := [some (vR 20 15 0), none]) (st' := []) (M1 := M4) (by rw [eM4]; rfl) ?_
          refine Z_blk k_X5_scanWord 1 (pc' := 15) (lo' := [some (vR 20 15 0), none]) (st' := []) (M1 := M4) rfl ?_
          refine Z_mask [true, false] (lo0 := [some (vR 20 15 0), none]) rfl ?_
          exact ih M4 _ h
        · replace h := of_neg hc h
          refine Z_blk k_X5_scanWord 9 (pc' := 67) (lo' := [some (vR 20 15 0), none]) (st' := [vI (x2.2 20 11), vR 21 2 900, vL (l_mul (x2.2 20 2) 32), vR 20 15 0]) (M1 := x2.2) rfl ?_
          obtain ⟨hc5, h⟩ := of_grd h
          refine Z_one k_X5_scanWord rfl (pc' := 68) (lo' := [some (vR 20 15 0), none]) (st' := [vI (x2.2 21 (Int.toNat (x2.2 20 11))), vL (l_mul (x2.2 20 2) 32), vR 20 15 0]) (M1 := x2.2) (if_pos hc5) ?_
          obtain ⟨M6, eM6, h⟩ := of_zlet h
          refine Z_blk k_X5_scanWord 7 (pc' := 78) (lo' := [some (vR 20 15 0), none]) (st' := []) (M1 := M6) (by rw [eM6]; rfl) ?_
          obtain ⟨M7, eM7, h⟩ := of_zlet h
          refine Z_blk k_X5_scanWord 6 (pc' := 88) (lo' := [some (vR 20 15 0), none]) (st' := []) (M1 := M7) (by rw [eM7]; rfl) ?_
          obtain ⟨M8, eM8, h⟩ := of_zlet h
          refine Z_blk k_X5_scanWord 6 (pc' := 98) (lo' := [some (vR 20 15 0), none]) (st' := []) (M1 := M8) (by rw [eM8]; rfl) ?_
          refine Z_blk k_X5_scanWord 1 (pc' := 15) (lo' := [some (vR 20 15 0), none]) (st' := []) (M1 := M8) rfl ?_
          refine Z_mask [true, false] (lo0 := [some (vR 20 15 0), none]) rfl ?_
          exact ih M8 _ h
def f_X5_scanWord (M : AM) : Option (AM) := zlet (am_upd M 20 0 1) fun M1 => zlet (am_upd M1 20 2 0) fun M2 => zlet (am_upd M2 20 8 0) fun M3 => f_X5_scanWord_15 zB M3
theorem e_X5_scanWord {Y : List (Nat × Nat)} (d : Nat) (M : AM) (N : AM) (h : f_X5_scanWord M = some N) : Ev Y (d + 1) m_X5_scanWord 0 [some (vR 20 15 0), none] [] M none N := by
  unfold f_X5_scanWord at h
  obtain ⟨M1, eM1, h⟩ := of_zlet h
  refine Z_blk k_X5_scanWord 3 (pc' := 5) (lo' := [some (vR 20 15 0), none]) (st' := []) (M1 := M1) (by rw [eM1]; rfl) ?_
  obtain ⟨M2, eM2, h⟩ := of_zlet h
  refine Z_blk k_X5_scanWord 3 (pc' := 10) (lo' := [some (vR 20 15 0), none]) (st' := []) (M1 := M2) (by rw [eM2]; rfl) ?_
  obtain ⟨M3, eM3, h⟩ := of_zlet h
  refine Z_blk k_X5_scanWord 3 (pc' := 15) (lo' := [some (vR 20 15 0), none]) (st' := []) (M1 := M3) (by rw [eM3]; rfl) ?_
  refine Z_mask [true, false] (lo0 := [some (vR 20 15 0), none]) rfl ?_
  exact e_X5_scanWord_15 d zB M3 _ h
