/-! Rules for the law's loop. The law's own table is checked by ztab alone (its code word is not among zws). -/
/-- the table alone -/
abbrev zTb (f : Zm) : Prop := ztab (zy f).cls (zc f) (zn f) (zt f) = true
/-- the script lies at b, outside of what may be written, and is named 998 -/
def lP (b L : Nat) (xs : Nat → Int32) : State → (Nat → Nat) → (Nat → Prop) → Prop := fun s ad A => ad 998 = b ∧ va_X b L xs s s.heap ∧ b < s.heap.size ∧ ¬ A b
section LRules
variable {b L : Nat} {xs : Nat → Int32} {Y : List (Nat × Nat)} {d : Nat} {f g : Zm} {pc : Nat} {lo : ZL} {st : List AV} {M M1 M' : AM} {v u : Option AV}
theorem L_len (hm : zTb f) {n0 : Nat} {r : List AV} {rn : (Nat × Nat × Nat × Nat × Nat × Nat) × Int} (he : zent (zt f) pc = some (.arraylength, rn)) (hL : L ≤ 3072) (k : EvP (lP b L xs) Y d f (pc + 1) lo (vI (L : Int) :: r) M v M') : EvP (lP b L xs) Y d f pc lo (vR 998 9 n0 :: r) M v M' := by
  intro p l e R s m args below meth c cells slots Q D tys ad dA A C hY hfr hlo hc hsl hP hret H locs ls hW hl hG
  have hr : ∀ w ∈ r, gd Y w := fun w h => hG w (by simp [h])
  have hd := zdec_plain (ztab_at hm (rn := rn.1) (rz := rn.2) he).1 (fun _ _ _ _ => by simp) (fun _ _ => by simp)
  obtain ⟨h1, h2, h3, h4⟩ := hP
  have hk := k p l e R s m args below meth c cells slots Q D tys ad dA A C hY hfr hlo hc hsl ⟨h1, h2, h3, h4⟩ hret H locs ls hW hl (fun w hw => (List.mem_cons.mp hw).elim (fun e => by rw [e]; exact (g32_iff _).mpr (by omega)) (hr w))
  show W p l e R s m args below meth c H locs cells slots Q (F0 m pc ls (.ref (ad 998) :: r.map (cv ad)))
  rw [h1]
  exact va_slen C.1 C.2.1 h2 h3 h4 hW.2.2.1 hd hk
theorem L_ld (hm : zTb f) {n0 : Nat} {i : Int} {r : List AV} {rn : (Nat × Nat × Nat × Nat × Nat × Nat) × Int} (he : zent (zt f) pc = some (.iaload, rn)) (h0 : 0 ≤ i) (hi : i < (L : Int)) (k : EvP (lP b L xs) Y d f (pc + 1) lo (vI (xs i.toNat).toInt :: r) M v M') : EvP (lP b L xs) Y d f pc lo (vI i :: vR 998 9 n0 :: r) M v M' := by
  intro p l e R s m args below meth c cells slots Q D tys ad dA A C hY hfr hlo hc hsl hP hret H locs ls hW hl hG
  have hgi : g32 i := hG (vI i) (by simp)
  have hr : ∀ w ∈ r, gd Y w := fun w h => hG w (by simp [h])
  have hd := zdec_plain (ztab_at hm (rn := rn.1) (rz := rn.2) he).1 (fun _ _ _ _ => by simp) (fun _ _ => by simp)
  obtain ⟨h1, h2, h3, h4⟩ := hP
  obtain ⟨g1, g2⟩ := k_inN hgi h0 hi
  have hk := k p l e R s m args below meth c cells slots Q D tys ad dA A C hY hfr hlo hc hsl ⟨h1, h2, h3, h4⟩ hret H locs ls hW hl (fun w hw => (List.mem_cons.mp hw).elim (fun e => by rw [e]; exact g32_of _) (hr w))
  show W p l e R s m args below meth c H locs cells slots Q (F0 m pc ls (.int (Int32.ofInt i) :: .ref (ad 998) :: r.map (cv ad)))
  rw [h1]
  refine va_sld C.1 C.2.1 h2 h3 h4 hW.2.2.1 g1 hd ?_
  rw [g2]
  simpa only [List.map_cons, cv, vI, Int32.ofInt_toInt] using hk
end LRules
section LRules2
variable {P : State → (Nat → Nat) → (Nat → Prop) → Prop} {Y : List (Nat × Nat)} {d : Nat} {f g : Zm} {pc : Nat} {lo : ZL} {st : List AV} {M M1 M' : AM} {v u : Option AV}
theorem L_blk (hm : zTb f) (n : Nat) {pc' : Nat} {lo' : ZL} {st' : List AV} {M1 : AM} (h : zrun (zt f) n (pc, lo, st, M) = some (pc', lo', st', M1)) (k : EvP P Y d f pc' lo' st' M1 v M') : EvP P Y d f pc lo st M v M' :=
  fun p l e R s m args below meth c cells slots Q D tys ad dA A C hY hfr hlo hc hsl hP hret => zruns hm C hY (by omega) (by omega) hc hsl n _ _ h (k p l e R s m args below meth c cells slots Q D tys ad dA A C hY hfr hlo hc hsl hP hret)
theorem L_icmp (hm : zTb f) {cd : ClassFile.Cond} {off : Int} {x y : Int} {r : List AV} {rn : (Nat × Nat × Nat × Nat × Nat × Nat) × Int} (he : zent (zt f) pc = some (.if_icmp cd off, rn)) (tgt : Nat) (ht : (pc : Int) + off = (tgt : Int))
    (kt : zcmp cd x y → EvP P Y d f tgt lo r M v M') (kf : ¬ zcmp cd x y → EvP P Y d f (pc + 3) lo r M v M') : EvP P Y d f pc lo (vI y :: vI x :: r) M v M' := by
  intro p l e R s m args below meth c cells slots Q D tys ad dA A C hY hfr hlo hc hsl hP hret H locs ls hW hL hG
  have hx : g32 x := hG (vI x) (by simp)
  have hy : g32 y := hG (vI y) (by simp)
  have hr : ∀ w ∈ r, gd Y w := fun w h => hG w (by simp [h])
  have hd := zdec_plain (ztab_at hm (rn := rn.1) (rz := rn.2) he).1 (fun _ _ _ _ => by simp) (fun _ _ => by simp)
  have KT : zcmp cd x y → W p l e R s m args below meth c H locs cells slots Q (F0 m tgt ls (r.map (cv ad))) := fun h => kt h p l e R s m args below meth c cells slots Q D tys ad dA A C hY hfr hlo hc hsl hP hret H locs ls hW hL hr
  have KF : ¬ zcmp cd x y → W p l e R s m args below meth c H locs cells slots Q (F0 m (pc + 3) ls (r.map (cv ad))) := fun h => kf h p l e R s m args below meth c cells slots Q D tys ad dA A C hY hfr hlo hc hsl hP hret H locs ls hW hL hr
  cases cd with
  | eq => exact lv_icmp_eq C.1 C.2.1 hd ht (fun h => KT ((i32_eq hx hy).mp h)) (fun h => KF (fun h2 => h ((i32_eq hx hy).mpr h2)))
  | ne => exact lv_icmp_ne C.1 C.2.1 hd ht (fun h => KT (fun h2 => h ((i32_eq hx hy).mpr h2))) (fun h => KF (fun h2 => h2 ((i32_eq hx hy).mp h)))
  | lt => exact lv_icmp_lt C.1 C.2.1 hd ht (fun h => KT ((i32_lt hx hy).mp h)) (fun h => KF (fun h2 => h ((i32_lt hx hy).mpr h2)))
  | ge => exact lv_icmp_ge C.1 C.2.1 hd ht (fun h => KT ((i32_le hy hx).mp h)) (fun h => KF (fun h2 => h ((i32_le hy hx).mpr h2)))
  | gt => exact lv_icmp_gt C.1 C.2.1 hd ht (fun h => KT ((i32_lt hy hx).mp h)) (fun h => KF (fun h2 => h ((i32_lt hy hx).mpr h2)))
  | le => exact lv_icmp_le C.1 C.2.1 hd ht (fun h => KT ((i32_le hx hy).mp h)) (fun h => KF (fun h2 => h ((i32_le hx hy).mpr h2)))
theorem L_if (hm : zTb f) {cd : ClassFile.Cond} {off : Int} {x : Int} {r : List AV} {rn : (Nat × Nat × Nat × Nat × Nat × Nat) × Int} (he : zent (zt f) pc = some (.ifCond cd off, rn)) (tgt : Nat) (ht : (pc : Int) + off = (tgt : Int))
    (kt : zcmp cd x 0 → EvP P Y d f tgt lo r M v M') (kf : ¬ zcmp cd x 0 → EvP P Y d f (pc + 3) lo r M v M') : EvP P Y d f pc lo (vI x :: r) M v M' := by
  intro p l e R s m args below meth c cells slots Q D tys ad dA A C hY hfr hlo hc hsl hP hret H locs ls hW hL hG
  have hx : g32 x := hG (vI x) (by simp)
  have hy : g32 0 := g32_0
  have hr : ∀ w ∈ r, gd Y w := fun w h => hG w (by simp [h])
  have hd := zdec_plain (ztab_at hm (rn := rn.1) (rz := rn.2) he).1 (fun _ _ _ _ => by simp) (fun _ _ => by simp)
  have KT : zcmp cd x 0 → W p l e R s m args below meth c H locs cells slots Q (F0 m tgt ls (r.map (cv ad))) := fun h => kt h p l e R s m args below meth c cells slots Q D tys ad dA A C hY hfr hlo hc hsl hP hret H locs ls hW hL hr
  have KF : ¬ zcmp cd x 0 → W p l e R s m args below meth c H locs cells slots Q (F0 m (pc + 3) ls (r.map (cv ad))) := fun h => kf h p l e R s m args below meth c cells slots Q D tys ad dA A C hY hfr hlo hc hsl hP hret H locs ls hW hL hr
  cases cd with
  | eq => exact lv_if_eq C.1 C.2.1 hd ht (fun h => KT ((i32_eq hx hy).mp h)) (fun h => KF (fun h2 => h ((i32_eq hx hy).mpr h2)))
  | ne => exact lv_if_ne C.1 C.2.1 hd ht (fun h => KT (fun h2 => h ((i32_eq hx hy).mpr h2))) (fun h => KF (fun h2 => h2 ((i32_eq hx hy).mp h)))
  | lt => exact lv_if_lt C.1 C.2.1 hd ht (fun h => KT ((i32_lt hx hy).mp h)) (fun h => KF (fun h2 => h ((i32_lt hx hy).mpr h2)))
  | ge => exact lv_if_ge C.1 C.2.1 hd ht (fun h => KT ((i32_le hy hx).mp h)) (fun h => KF (fun h2 => h ((i32_le hy hx).mpr h2)))
  | gt => exact lv_if_gt C.1 C.2.1 hd ht (fun h => KT ((i32_lt hy hx).mp h)) (fun h => KF (fun h2 => h ((i32_lt hy hx).mpr h2)))
  | le => exact lv_if_le C.1 C.2.1 hd ht (fun h => KT ((i32_le hx hy).mp h)) (fun h => KF (fun h2 => h ((i32_le hx hy).mpr h2)))
theorem L_tabIn (hm : zTb f) {df lo0 hi : Int} {offs : Array Int} {x off : Int} {r : List AV} {rn : (Nat × Nat × Nat × Nat × Nat × Nat) × Int} (he : zent (zt f) pc = some (.tableswitch df lo0 hi offs, rn)) (tgt : Nat) (h1 : ¬ x < lo0) (h2 : ¬ hi < x) (ho : offs[(x - lo0).toNat]? = some off) (ht : (pc : Int) + off = (tgt : Int))
    (k : EvP P Y d f tgt lo r M v M') : EvP P Y d f pc lo (vI x :: r) M v M' := by
  intro p l e R s m args below meth c cells slots Q D tys ad dA A C hY hfr hlo hc hsl hP hret H locs ls hW hL hG
  have hx : g32 x := hG (vI x) (by simp)
  have hr : ∀ w ∈ r, gd Y w := fun w h => hG w (by simp [h])
  have hd := (ztab_at hm (rn := rn.1) (rz := rn.2) he).1
  simp only [zdec] at hd
  split at hd
  · rename_i i n2 hd2
    simp only [decide_eq_true_eq] at hd
    subst hd
    exact lv_tableIn C.1 C.2.1 hd2 (x := Int32.ofInt x) (by rw [hx]; exact h1) (by rw [hx]; exact h2) (by rw [hx]; exact ho) ht (k p l e R s m args below meth c cells slots Q D tys ad dA A C hY hfr hlo hc hsl hP hret H locs ls hW hL hr)
  · cases hd
theorem L_tabOut (hm : zTb f) {df lo0 hi : Int} {offs : Array Int} {x : Int} {r : List AV} {rn : (Nat × Nat × Nat × Nat × Nat × Nat) × Int} (he : zent (zt f) pc = some (.tableswitch df lo0 hi offs, rn)) (tgt : Nat) (h1 : x < lo0 ∨ hi < x) (ht : (pc : Int) + df = (tgt : Int))
    (k : EvP P Y d f tgt lo r M v M') : EvP P Y d f pc lo (vI x :: r) M v M' := by
  intro p l e R s m args below meth c cells slots Q D tys ad dA A C hY hfr hlo hc hsl hP hret H locs ls hW hL hG
  have hx : g32 x := hG (vI x) (by simp)
  have hr : ∀ w ∈ r, gd Y w := fun w h => hG w (by simp [h])
  have hd := (ztab_at hm (rn := rn.1) (rz := rn.2) he).1
  simp only [zdec] at hd
  split at hd
  · rename_i i n2 hd2
    simp only [decide_eq_true_eq] at hd
    subst hd
    exact lv_tableOut C.1 C.2.1 hd2 (x := Int32.ofInt x) (by rw [hx]; exact h1) ht (k p l e R s m args below meth c cells slots Q D tys ad dA A C hY hfr hlo hc hsl hP hret H locs ls hW hL hr)
  · cases hd
end LRules2
section LRules3
variable {P : State → (Nat → Nat) → (Nat → Prop) → Prop} {Y : List (Nat × Nat)} {d : Nat} {f g : Zm} {pc : Nat} {lo : ZL} {M M1 M' : AM} {v u : Option AV}
theorem L_callV (hf : zTb f) (hg : zM g) (hsg : zst g = false) {idx i : Nat} {rn : (Nat × Nat × Nat × Nat × Nat × Nat) × Int} (he : zent (zt f) pc = some (.invokevirtual idx, rn)) (hl : zhas i (Jvm.Cond.methodLink (zy f).cls idx (zy g)) = true) {ci q n0 : Nat} (hci : (zcl[ci]?).map (fun x => x.1) = some (zy g).cls)
    {st : List AV} (vs r : List AV) (hst : st = vs.reverse ++ vR q (10 + ci) n0 :: r) (hn : vs.length = zna g) (hlen : (zlay (vR q (10 + ci) n0 :: vs)).length ≤ zn g) (hr4 : r.length ≤ 4) (hE : Ev Y d g 0 (zpad (zn g) (zlay (vR q (10 + ci) n0 :: vs))) [] M u M1) (k : EvP P Y (d + 1) f (pc + 3) lo (u.toList ++ r) M1 v M') : EvP P Y (d + 1) f pc lo st M v M' := by
  intro p l e R s m args below meth c cells slots Q D tys ad dA A C hY hfr hlo hc hsl hP hret H locs ls hW hL hG
  have C0 := C
  obtain ⟨hx, hb, hml, hown, hts, hK, hT, hA, hR⟩ := C0
  subst hst
  have hgv : ∀ w ∈ vs, gd Y w := fun w h => hG w (by simp [h])
  have hgq : Y[q]? = some (10 + ci, n0) := (hG (vR q (10 + ci) n0) (by simp)).resolve_left (by omega)
  have hgr : ∀ w ∈ r, gd Y w := fun w h => hG w (by simp [h])
  have hd := zdec_plain (ztab_at hf (rn := rn.1) (rz := rn.2) he).1 (fun _ _ _ _ => by simp) (fun _ _ => by simp)
  have hMet := Ev_Met hg hE hlen (fun w hw => (List.mem_cons.mp hw).elim (fun e => by rw [e]; exact Or.inr hgq) (hgv w)) hW.2.2.2 hR hY l D tys ad dA hT H.size
  have hFc := z_A hW.2.1 hW.2.2.1 hA
  have hstk : (vs.reverse ++ vR q (10 + ci) n0 :: r).map (cv ad) = (vs.map (cv ad)).reverse ++ .ref (ad q) :: r.map (cv ad) := by simp [cv]
  rw [hstk]
  obtain ⟨cq, hcq, hcq2⟩ : ∃ cq, zcl[ci]? = some cq ∧ cq.1 = (zy g).cls := by
    cases h : zcl[ci]? with
    | none => rw [h] at hci; cases hci
    | some cq => rw [h] at hci; exact ⟨cq, rfl, Option.some.inj hci⟩
  have hrecv := va_recv hK hW.1 hcq (zw_obj hgq)
  rw [hcq2] at hrecv
  have hins := hg.spec.2.2.2.2.1 hsg
  refine z_go (va_runV (As := vs.map (cv ad)) (rest := r.map (cv ad)) (Ts := zws) ⟨hx, hb, hml, hown, hts⟩ hMet ⟨z_cb C hg (zhas_mem hl) hfr hlo, hts _ hins.1, hts _ hins.2⟩ ⟨z_blind, hrecv, fun U hU hWm => ⟨rfl, by rw [hU], by rw [hU]; exact hW.1, va_K.moved hWm.alike hK, hW.2.1.weaken (fun _ _ _ _ => trivial)⟩⟩ rfl (by simpa using hn) hL.1 rfl (lv_room (zcat_small hr4)) hd ⟨by simpa using hc, by simpa using hsl⟩) hW.2.2.1 (fun q _ h => hFc q h) hFc (fun t H1 locs1 ht hB hS1 => ?_)
  rw [z_toL]
  refine k p l e R s m args below meth c cells slots Q D tys ad dA A C hY hfr hlo hc hsl hP hret H1 locs1 ls ⟨by rw [← ht]; exact hB.1, zD_row hW.2.1, hS1, hB.2.1⟩ hL ?_
  intro w hw
  rcases List.mem_append.mp hw with h | h
  · exact hB.2.2 w h
  · exact hgr w h
end LRules3
