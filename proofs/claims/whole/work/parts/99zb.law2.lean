/-! the law's table, and rules for its cases -/
theorem ztab_app {own : String} {cc : ByteArray} {nL : Nat} {A B : List ZE} (h1 : ztab own cc nL A = true) (h2 : ztab own cc nL B = true) : ztab own cc nL (A ++ B) = true := by
  unfold ztab at *
  rw [List.all_append, h1, h2]
  rfl
theorem k_LAW : zTb m_LAW := by
  show ztab "BellPullHouseLaw" code 4 t_LAW = true
  exact ztab_app kt_LAW_0 (ztab_app kt_LAW_1 (ztab_app kt_LAW_2 (ztab_app kt_LAW_3 (ztab_app kt_LAW_4 (ztab_app kt_LAW_5 (ztab_app kt_LAW_6 (ztab_app kt_LAW_7 (ztab_app kt_LAW_8 (ztab_app kt_LAW_9 (ztab_app kt_LAW_10 (ztab_app kt_LAW_11 (ztab_app kt_LAW_12 (ztab_app kt_LAW_13 (ztab_app kt_LAW_14 (ztab_app kt_LAW_15 (ztab_app kt_LAW_16 (ztab_app kt_LAW_17 (ztab_app kt_LAW_18 (ztab_app kt_LAW_19 (ztab_app kt_LAW_20 (ztab_app kt_LAW_21 (ztab_app kt_LAW_22 (ztab_app kt_LAW_23 (ztab_app kt_LAW_24 (ztab_app kt_LAW_25 (ztab_app kt_LAW_26 (ztab_app kt_LAW_27 (ztab_app kt_LAW_28 kt_LAW_29))))))))))))))))))))))))))))
abbrev llo (i : Int) : ZL := [some (vR 998 9 0), some (vR 15 20 0), some (vR 0 21 0), some (vI i)]
def lenB (pc : Nat) (e : Instr) (rn : Nat × Nat × Nat × Nat × Nat × Nat) (rz : Int) : Bool := match zent t_LAW pc with
  | some (i, rn2, rz2) => decide (i = e) && (decide (rn2 = rn) && decide (rz2 = rz))
  | none => false
theorem lenE {pc : Nat} {e : Instr} {rn : Nat × Nat × Nat × Nat × Nat × Nat} {rz : Int} (h : lenB pc e rn rz = true) : zent (zt m_LAW) pc = some (e, rn, rz) := by
  show zent t_LAW pc = some (e, rn, rz)
  unfold lenB at h
  split at h
  · rename_i i rn2 rz2 he
    simp only [Bool.and_eq_true, decide_eq_true_eq] at h
    obtain ⟨rfl, rfl, rfl⟩ := h
    exact he
  · cases h
abbrev lentB (pc : Nat) (e : Instr) : Bool := lenB pc e zN 0
theorem lent {pc : Nat} {e : Instr} (h : lentB pc e = true) : zent (zt m_LAW) pc = some (e, zN, 0) := lenE h
theorem zrun_s {T : List ZE} {n : Nat} {s s' r : ZT} {ins : Instr} {rn : Nat × Nat × Nat × Nat × Nat × Nat} {rz : Int} (h : zent T s.1 = some (ins, rn, rz)) (h2 : stp ins rn rz s.1 s.2.1 s.2.2.1 s.2.2.2 = some s') (h3 : zrun T n s' = some r) : zrun T (n + 1) s = some r := by
  simp only [zrun, h, h2]
  exact h3
abbrev lkB (pc k : Nat) : Bool := lenB pc (.iconst (k : Int)) zN (k : Int)
def largB (pc k : Nat) : Bool := lentB pc (.aload_n 0) && lentB (pc + 1) (.iload_n 3) && lkB (pc + 2) k && lentB (pc + 3) .iadd && lentB (pc + 4) .iaload && Nat.blt k 6
def largsB (pc : Nat) (ks : List Nat) : Bool := match ks with
  | [] => true
  | k :: r => largB pc k && largsB (pc + 5) r
theorem i32b_of (x : Int32) : i32b x.toInt := ⟨Int32.le_toInt x, Int32.toInt_lt x⟩
section LCs
variable {b L : Nat} {xs : Nat → Int32} {pc i : Nat} {st : List AV} {M M' : AM} {v : Option AV}
theorem L_arg {k : Nat} (h : largB pc k = true) (hi : i + 6 ≤ L) (hL : L ≤ 3072) (kk : EvP (lP b L xs) zY 20 m_LAW (pc + 5) (llo (i : Int)) (vI (xs (i + k)).toInt :: st) M v M') : EvP (lP b L xs) zY 20 m_LAW pc (llo (i : Int)) st M v M' := by
  simp only [largB, Bool.and_eq_true] at h
  obtain ⟨⟨⟨⟨⟨h1, h2⟩, h3⟩, h4⟩, h5⟩, h6⟩ := h
  have h6 : k < 6 := Nat.le_of_ble_eq_true h6
  refine L_blk k_LAW 4 (pc' := pc + 4) (lo' := llo (i : Int)) (st' := vI (o_add (i : Int) (k : Int)) :: vR 998 9 0 :: st) (M1 := M) ?_ ?_
  · exact zrun_s (lent h1) rfl (zrun_s (lent h2) rfl (zrun_s (lenE h3) rfl (zrun_s (lent h4) rfl rfl)))
  · have e : o_add (i : Int) (k : Int) = ((i + k : Nat) : Int) := by rw [o_add_eq (by omega) (by omega)]; omega
    rw [e]
    exact L_ld k_LAW (lent h5) (by omega) (by omega) kk
theorem L_args (hi : i + 6 ≤ L) (hL : L ≤ 3072) : ∀ (ks : List Nat) {pc pc' : Nat} {st : List AV}, largsB pc ks = true → pc + 5 * ks.length = pc' → EvP (lP b L xs) zY 20 m_LAW pc' (llo (i : Int)) ((ks.map (fun k => vI (xs (i + k)).toInt)).reverse ++ st) M v M' → EvP (lP b L xs) zY 20 m_LAW pc (llo (i : Int)) st M v M'
  | [], pc, pc', st, _, hp, kk => by
    have hp : pc = pc' := hp
    subst hp
    exact kk
  | k :: r, pc, pc', st, h, hp, kk => by
    simp only [largsB, Bool.and_eq_true] at h
    refine L_arg h.1 hi hL (L_args hi hL r h.2 (pc' := pc') (by rw [← hp]; simp only [List.length_cons]; omega) ?_)
    simpa only [List.map_cons, List.reverse_cons, List.append_assoc, List.singleton_append] using kk
def largDB (pc : Nat) : Bool := largB pc 1 && lentB (pc + 5) (.ifCond .eq 7) && lkB (pc + 8) 1 && lenB (pc + 9) (.goto 4) (pc + 13, 0, 0, 0, 0, 0) 0 && lkB (pc + 12) 0
theorem L_argD (h : largDB pc = true) (hi : i + 6 ≤ L) (hL : L ≤ 3072) (kk : EvP (lP b L xs) zY 20 m_LAW (pc + 13) (llo (i : Int)) (vI (if (xs (i + 1)).toInt = 0 then 0 else 1) :: st) M v M') : EvP (lP b L xs) zY 20 m_LAW pc (llo (i : Int)) st M v M' := by
  simp only [largDB, Bool.and_eq_true] at h
  obtain ⟨⟨⟨⟨h1, h2⟩, h3⟩, h4⟩, h5⟩ := h
  refine L_arg h1 hi hL ?_
  refine L_if k_LAW (lent h2) (pc + 12) (by omega) (fun hc => ?_) (fun hc => ?_)
  · have hc : (xs (i + 1)).toInt = 0 := hc
    rw [if_pos hc] at kk
    exact L_blk k_LAW 1 (pc' := pc + 13) (lo' := llo (i : Int)) (st' := vI 0 :: st) (M1 := M) (zrun_s (lenE h5) rfl rfl) kk
  · have hc : ¬ (xs (i + 1)).toInt = 0 := hc
    rw [if_neg hc] at kk
    exact L_blk k_LAW 2 (pc' := pc + 13) (lo' := llo (i : Int)) (st' := vI 1 :: st) (M1 := M) (zrun_s (lenE h3) rfl (zrun_s (lenE h4) rfl rfl)) kk
abbrev lww (xs : Nat → Int32) (i : Nat) : Int := l_or (l_shl (xs (i + 3)).toInt 32) (l_and (xs (i + 4)).toInt 4294967295)
def largWB (pc w : Nat) : Bool := largsB pc [1, 2, 3] && lentB (pc + 15) .i2l && lenB (pc + 16) (.bipush 32) zN 32 && lentB (pc + 18) .lshl && largB (pc + 19) 4 && lentB (pc + 24) .i2l && lenB (pc + 25) (.ldc2_w 32) (w, 0, 0, 0, 0, 0) 4294967295 && lentB (pc + 28) .land && lentB (pc + 29) .lor
theorem L_argW {w : Nat} (h : largWB pc w = true) (hi : i + 6 ≤ L) (hL : L ≤ 3072) (kk : EvP (lP b L xs) zY 20 m_LAW (pc + 30) (llo (i : Int)) (vL (lww xs i) :: vI (xs (i + 2)).toInt :: vI (xs (i + 1)).toInt :: st) M v M') : EvP (lP b L xs) zY 20 m_LAW pc (llo (i : Int)) st M v M' := by
  simp only [largWB, Bool.and_eq_true] at h
  obtain ⟨⟨⟨⟨⟨⟨⟨⟨h1, h2⟩, h3⟩, h4⟩, h5⟩, h6⟩, h7⟩, h8⟩, h9⟩ := h
  refine L_args hi hL [1, 2, 3] h1 (pc' := pc + 15) rfl ?_
  refine L_blk k_LAW 3 (pc' := pc + 19) (lo' := llo (i : Int)) (st' := vL (l_shl (xs (i + 3)).toInt 32) :: vI (xs (i + 2)).toInt :: vI (xs (i + 1)).toInt :: st) (M1 := M) (zrun_s (lent h2) rfl (zrun_s (lenE h3) rfl (zrun_s (lent h4) rfl rfl))) ?_
  refine L_arg h5 hi hL ?_
  exact L_blk k_LAW 4 (pc' := pc + 30) (lo' := llo (i : Int)) (M1 := M) (zrun_s (lent h6) rfl (zrun_s (lenE h7) rfl (zrun_s (lent h8) rfl (zrun_s (lent h9) rfl rfl)))) kk
def lcB (pc pcB pcD idx1 idx2 : Nat) (off : Int) : Bool := lentB pc (.aload_n 1) && lentB pcB (.invokevirtual idx1) && lentB (pcB + 3) (.aload_n 2) && lentB pcD (.invokevirtual idx2) && lentB (pcD + 3) (.if_icmp .eq off) && decide (((pcD + 3 : Nat) : Int) + off = (1755 : Nat))
def lcJ (pc pcB pcD idx1 idx2 : Nat) (off : Int) : Bool := lentB pc (.aload_n 1) && lentB pcB (.invokevirtual idx1) && lentB (pcB + 3) (.aload_n 2) && lentB pcD (.invokevirtual idx2) && lentB (pcD + 3) .lcmp && lentB (pcD + 4) (.ifCond .eq off) && decide (((pcD + 4 : Nat) : Int) + off = (1755 : Nat))
theorem L_caseI {gX gM : Zm} {fx fm : AM → Option (Int × AM)} {vs : List AV} (hgX : zM gX) (hgM : zM gM) (hA : Alike fx fm) (pc pcB pcD idx1 i1 idx2 i2 : Nat) (off : Int) {i : Int}
    (hB : lcB pc pcB pcD idx1 idx2 off = true)
    (ha1 : ∀ (M : AM) (v : Option AV) (M' : AM) (st : List AV), EvP (lP b L xs) zY 20 m_LAW pcB (llo i) (vs.reverse ++ st) M v M' → EvP (lP b L xs) zY 20 m_LAW (pc + 1) (llo i) st M v M')
    (ha2 : ∀ (M : AM) (v : Option AV) (M' : AM) (st : List AV), EvP (lP b L xs) zY 20 m_LAW pcD (llo i) (vs.reverse ++ st) M v M' → EvP (lP b L xs) zY 20 m_LAW (pcB + 3 + 1) (llo i) st M v M')
    (hl1 : zhas i1 (Jvm.Cond.methodLink "BellPullHouseLaw" idx1 (zy gX)) = true) (hl2 : zhas i2 (Jvm.Cond.methodLink "BellPullHouseLaw" idx2 (zy gM)) = true)
    (hsX : zst gX = false) (hsM : zst gM = false) (hcX : (zcl[10]?).map (fun x => x.1) = some (zy gX).cls) (hcM : (zcl[11]?).map (fun x => x.1) = some (zy gM).cls)
    (hnX : vs.length = zna gX) (hnM : vs.length = zna gM) (hzX : (zlay (vR 15 20 0 :: vs)).length ≤ zn gX) (hzM : (zlay (vR 0 21 0 :: vs)).length ≤ zn gM)
    (eX : ∀ M x N, fx M = some (x, N) → Ev zY 19 gX 0 (zpad (zn gX) (zlay (vR 15 20 0 :: vs))) [] M (some (vI x)) N)
    (eM : ∀ M x N, fm M = some (x, N) → Ev zY 19 gM 0 (zpad (zn gM) (zlay (vR 0 21 0 :: vs))) [] M (some (vI x)) N)
    (next : ∀ M, RR M → ∃ M', EvP (lP b L xs) zY 20 m_LAW 1755 (llo i) [] M (some (vI 1)) M') : ∀ M, RR M → ∃ M', EvP (lP b L xs) zY 20 m_LAW pc (llo i) [] M (some (vI 1)) M' := by
  intro M hR
  obtain ⟨v, N1, N2, h1, h2, hR2⟩ := hA M hR
  obtain ⟨M', hk⟩ := next N2 hR2
  simp only [lcB, Bool.and_eq_true] at hB
  obtain ⟨⟨⟨⟨⟨b1, b2⟩, b3⟩, b4⟩, b5⟩, b6⟩ := hB
  refine ⟨M', ?_⟩
  refine L_blk k_LAW 1 (pc' := pc + 1) (lo' := llo i) (st' := [vR 15 20 0]) (M1 := M) (zrun_s (lent b1) rfl rfl) ?_
  refine ha1 _ _ _ _ ?_
  refine L_callV (ci := 10) (q := 15) (n0 := 0) k_LAW hgX hsX (lent b2) hl1 hcX vs [] rfl hnX hzX (Nat.le_of_ble_eq_true rfl) (eX M v N1 h1) ?_
  refine L_blk k_LAW 1 (pc' := pcB + 3 + 1) (lo' := llo i) (st' := [vR 0 21 0, vI v]) (M1 := N1) (zrun_s (lent b3) rfl rfl) ?_
  refine ha2 _ _ _ _ ?_
  refine L_callV (ci := 11) (q := 0) (n0 := 0) k_LAW hgM hsM (lent b4) hl2 hcM vs [vI v] rfl hnM hzM (Nat.le_of_ble_eq_true rfl) (eM N1 v N2 h2) ?_
  exact L_icmp k_LAW (lent b5) 1755 (of_decide_eq_true b6) (fun _ => hk) (fun h => absurd rfl h)
theorem L_caseJ {gX gM : Zm} {fx fm : AM → Option (Int × AM)} {vs : List AV} (hgX : zM gX) (hgM : zM gM) (hA : Alike fx fm) (pc pcB pcD idx1 i1 idx2 i2 : Nat) (off : Int) {i : Int}
    (hB : lcJ pc pcB pcD idx1 idx2 off = true)
    (ha1 : ∀ (M : AM) (v : Option AV) (M' : AM) (st : List AV), EvP (lP b L xs) zY 20 m_LAW pcB (llo i) (vs.reverse ++ st) M v M' → EvP (lP b L xs) zY 20 m_LAW (pc + 1) (llo i) st M v M')
    (ha2 : ∀ (M : AM) (v : Option AV) (M' : AM) (st : List AV), EvP (lP b L xs) zY 20 m_LAW pcD (llo i) (vs.reverse ++ st) M v M' → EvP (lP b L xs) zY 20 m_LAW (pcB + 3 + 1) (llo i) st M v M')
    (hl1 : zhas i1 (Jvm.Cond.methodLink "BellPullHouseLaw" idx1 (zy gX)) = true) (hl2 : zhas i2 (Jvm.Cond.methodLink "BellPullHouseLaw" idx2 (zy gM)) = true)
    (hsX : zst gX = false) (hsM : zst gM = false) (hcX : (zcl[10]?).map (fun x => x.1) = some (zy gX).cls) (hcM : (zcl[11]?).map (fun x => x.1) = some (zy gM).cls)
    (hnX : vs.length = zna gX) (hnM : vs.length = zna gM) (hzX : (zlay (vR 15 20 0 :: vs)).length ≤ zn gX) (hzM : (zlay (vR 0 21 0 :: vs)).length ≤ zn gM)
    (eX : ∀ M x N, fx M = some (x, N) → Ev zY 19 gX 0 (zpad (zn gX) (zlay (vR 15 20 0 :: vs))) [] M (some (vL x)) N)
    (eM : ∀ M x N, fm M = some (x, N) → Ev zY 19 gM 0 (zpad (zn gM) (zlay (vR 0 21 0 :: vs))) [] M (some (vL x)) N)
    (next : ∀ M, RR M → ∃ M', EvP (lP b L xs) zY 20 m_LAW 1755 (llo i) [] M (some (vI 1)) M') : ∀ M, RR M → ∃ M', EvP (lP b L xs) zY 20 m_LAW pc (llo i) [] M (some (vI 1)) M' := by
  intro M hR
  obtain ⟨v, N1, N2, h1, h2, hR2⟩ := hA M hR
  obtain ⟨M', hk⟩ := next N2 hR2
  simp only [lcJ, Bool.and_eq_true] at hB
  obtain ⟨⟨⟨⟨⟨⟨b1, b2⟩, b3⟩, b4⟩, b5⟩, b6⟩, b7⟩ := hB
  refine ⟨M', ?_⟩
  refine L_blk k_LAW 1 (pc' := pc + 1) (lo' := llo i) (st' := [vR 15 20 0]) (M1 := M) (zrun_s (lent b1) rfl rfl) ?_
  refine ha1 _ _ _ _ ?_
  refine L_callV (ci := 10) (q := 15) (n0 := 0) k_LAW hgX hsX (lent b2) hl1 hcX vs [] rfl hnX hzX (Nat.le_of_ble_eq_true rfl) (eX M v N1 h1) ?_
  refine L_blk k_LAW 1 (pc' := pcB + 3 + 1) (lo' := llo i) (st' := [vR 0 21 0, vL v]) (M1 := N1) (zrun_s (lent b3) rfl rfl) ?_
  refine ha2 _ _ _ _ ?_
  refine L_callV (ci := 11) (q := 0) (n0 := 0) k_LAW hgM hsM (lent b4) hl2 hcM vs [vL v] rfl hnM hzM (Nat.le_of_ble_eq_true rfl) (eM N1 v N2 h2) ?_
  refine L_blk k_LAW 1 (pc' := pcD + 3 + 1) (lo' := llo i) (st' := [vI (l_cmp v v)]) (M1 := N2) (zrun_s (lent b5) rfl rfl) ?_
  exact L_if k_LAW (lent b6) 1755 (of_decide_eq_true b7) (fun _ => hk) (fun h => absurd ((l_cmp_eq v v).mpr rfl) h)
end LCs
