section ZAll
variable {Y : List (Nat × Nat)} {own : String} {cc : ByteArray} {nL : Nat} {p : Program} {l : Launch} {e : Env} {R : Room} {s : State} {m : MethodId} {args : Array Value} {below : List Frame} {meth : Method} {c : Code} {cells slots : Nat} {Q : State → Prop} {D : va_G} {tys : List (ClassId × FieldType)} {ad : Nat → Nat} {dA : Nat → ClassId} {A : Nat → Prop} {pc n pc' : Nat} {lo lo' : ZL} {st st' : List AV} {M M' : AM}
set_option maxHeartbeats 4000000 in
theorem zstep {ins : Instr} {rn : Nat × Nat × Nat × Nat × Nat × Nat} {rz : Int} (C : zC Y own cc nL p R s m args c D tys dA A) (hlen : ∀ (q k l0 : Nat), Y[q]? = some (k, l0) → l0 < 2147483648) (hfr : 1 ≤ R.frames) (hlr : 64 ≤ R.locals) (hcc : cells ≤ R.cells) (hss : slots ≤ R.slots)
    (hd : decode cc pc = .ok (ins, zlen ins)) (hok : zok1 own nL pc ins rn rz = true) (hs : stp ins rn rz pc lo st M = some (pc', lo', st', M')) (k : ZS Y nL p l e R s m args below meth c cells slots Q D ad dA A pc' lo' st' M') : ZS Y nL p l e R s m args below meth c cells slots Q D ad dA A pc lo st M := by
  have C0 := C
  obtain ⟨hx, hb, hml, hown, hts, hK, hT, hA, hR⟩ := C0
  cases ins with
  | iconst i =>
    simp only [zok1, Bool.and_eq_true, beq_iff_eq] at hok
    cases hs
    exact zs_push (v := vI rz) (fun H locs ls rest kk => lv_iconst hx hb hd (by rw [hok.1]) kk) (z_rg hok.2) k
  | bipush i =>
    simp only [zok1, Bool.and_eq_true, decide_eq_true_eq] at hok
    cases hs
    exact zs_push (v := vI rz) (fun H locs ls rest kk => lv_bipush hx hb hd hok.1 kk) (z_rg hok.2) k
  | sipush i =>
    simp only [zok1, Bool.and_eq_true, decide_eq_true_eq] at hok
    cases hs
    exact zs_push (v := vI rz) (fun H locs ls rest kk => lv_sipush hx hb hd hok.1 kk) (z_rg hok.2) k
  | ldc i =>
    simp only [zok1, Bool.and_eq_true] at hok
    cases hs
    exact zs_push (v := vI rz) (fun H locs ls rest kk => lv_ldc hx hb hown (hts _ (zhas_mem hok.1)) hd kk) (z_rg hok.2) k
  | ldc_w i =>
    simp only [zok1, Bool.and_eq_true] at hok
    cases hs
    exact zs_push (v := vI rz) (fun H locs ls rest kk => lv_ldcw hx hb hown (hts _ (zhas_mem hok.1)) hd kk) (z_rg hok.2) k
  | ldc2_w i =>
    simp only [zok1, Bool.and_eq_true] at hok
    cases hs
    exact zs_push (v := vL rz) (fun H locs ls rest kk => lv_ldc2 hx hb hown (hts _ (zhas_mem hok.1)) hd kk) (z_rgL hok.2) k
  | lconst i =>
    simp only [zok1, beq_iff_eq] at hok
    cases hs
    exact zs_push (v := vL rz) (fun H locs ls rest kk => lv_lconst hx hb hd (by rw [hok]; rfl) kk) (by rw [hok]; exact (g64_iff _).mpr (by have := i.isLt; omega)) k
  | iload i => exact zs_iload (i := i) (fun H locs ls rest x h kk => lv_iload hx hb hd h kk) hs k
  | iload_n i => exact zs_iload (i := i.val) (fun H locs ls rest x h kk => lv_iload_n hx hb hd rfl h kk) hs k
  | lload i => exact zs_lload (i := i) (fun H locs ls rest x h kk => lv_lload hx hb hd h kk) hs k
  | lload_n i => exact zs_lload (i := i.val) (fun H locs ls rest x h kk => lv_lload_n hx hb hd rfl h kk) hs k
  | aload i => exact zs_aload (i := i) (fun H locs ls rest x h kk => lv_aload hx hb hd h kk) hs k
  | aload_n i => exact zs_aload (i := i.val) (fun H locs ls rest x h kk => lv_aload_n hx hb hd rfl h kk) hs k
  | istore i => exact zs_istore (i := i) (fun H locs ls rest x lv h kk => lv_istore hx hb hd h (Nat.le_of_ble_eq_true hok) rfl kk) hs k
  | istore_n i => exact zs_istore (i := i.val) (fun H locs ls rest x lv h kk => lv_istore_n hx hb hd rfl h (Nat.le_of_ble_eq_true hok) rfl kk) hs k
  | lstore i => exact zs_lstore (i := i) (fun H locs ls rest x lv h kk => lv_lstore hx hb hd h (Nat.le_of_ble_eq_true hok) rfl kk) hs k
  | lstore_n i => exact zs_lstore (i := i.val) (fun H locs ls rest x lv h kk => lv_lstore_n hx hb hd rfl h (Nat.le_of_ble_eq_true hok) rfl kk) hs k
  | astore i => exact zs_astore (i := i) (fun H locs ls rest x lv h kk => lv_astore hx hb hd h (Nat.le_of_ble_eq_true hok) rfl kk) hs k
  | astore_n i => exact zs_astore (i := i.val) (fun H locs ls rest x lv h kk => lv_astore_n hx hb hd rfl h (Nat.le_of_ble_eq_true hok) rfl kk) hs k
  | iinc i z =>
    simp only [zok1, Bool.and_eq_true, decide_eq_true_eq] at hok
    simp only [stp] at hs
    split at hs
    · rename_i x hxx
      split at hs
      · cases hs
      · rename_i hz
        cases hs
        intro H locs ls hW hL hG
        have hmem : (i, cv ad (vI x)) ∈ zlv ad 0 lo := zlv_mem.mpr ⟨i, vI x, hxx, by simp⟩
        obtain ⟨j, hj⟩ := List.getElem?_of_mem hmem
        exact lv_iinc hx hb hd hL.has (k := j) hj (v := Int32.ofInt (o_add x rz)) (by unfold o_add; rw [Int32.ofInt_toInt, hok.2]) (Nat.le_of_ble_eq_true hok.1) rfl (fun ls' h' => k H locs ls' hW (hL.store1 (v := vI (o_add x rz)) (g32_of _) hz h') hG)
    · cases hs
  | iaload => exact zs_ald (Or.inl rfl) C (fun H locs ls rest q t0 a n0 cA f i h1 h2 h3 h4 kk => va_iald hx hb hK h1 q t0 h2 h3 h4 hd kk) hs k
  | baload => exact zs_ald (Or.inr rfl) C (fun H locs ls rest q t0 a n0 cA f i h1 h2 h3 h4 kk => va_bald hx hb hK h1 q t0 h2 h3 h4 hd kk) hs k
  | laload => exact zs_lald C (fun H locs ls rest q t0 a n0 cA f i h1 h2 h3 h4 kk => va_lald hx hb hK h1 q t0 h2 h3 h4 hd kk) hs k
  | aaload => exact zs_aald C (fun H locs ls rest q t0 a n0 cA cn f i h1 h2 h3 h4 kk => va_aldq hx hb hK h1 q t0 h2 h3 h4 hd kk) hs k
  | iastore => exact zs_ast (F := fun x => x) (fun x h => h.symm) (Or.inl rfl) C (fun H locs ls rest q t0 a n0 cA f i x h1 h2 h3 h4 h5 h6 kk => va_iast hx hb hK h1 h2 h3 q t0 h4 h5 h6 hd (fun H1 locs1 hP1 _ hS1 => kk H1 locs1 hP1 hS1)) hs k
  | bastore => exact zs_ast (F := fun x => x.toInt8.toInt32) (fun x h => rfl) (Or.inr rfl) C (fun H locs ls rest q t0 a n0 cA f i x h1 h2 h3 h4 h5 h6 kk => va_bast hx hb hK h1 h2 h3 q t0 h4 h5 h6 hd (fun H1 locs1 hP1 _ hS1 => kk H1 locs1 hP1 hS1)) hs k
  | lastore => exact zs_last C (fun H locs ls rest q t0 a n0 cA f i x h1 h2 h3 h4 h5 h6 kk => va_last hx hb hK h1 h2 h3 q t0 h4 h5 h6 hd (fun H1 locs1 hP1 _ hS1 => kk H1 locs1 hP1 hS1)) hs k
  | arraylength => exact zs_alen C (fun H locs ls rest q t0 a cA x ty h1 h2 h3 kk => va_alen hx hb hK h1 q t0 h2 h3 rfl hd kk) hlen hs k
  | pop =>
    simp only [stp] at hs
    split at hs
    · split at hs
      · rename_i h1
        cases hs
        intro H locs ls hW hL hG
        exact lv_pop hx hb hd (cv_cat1 h1) (k H locs ls hW hL (fun w hw => hG w (List.mem_cons_of_mem _ hw)))
      · cases hs
    · cases hs
  | dup =>
    simp only [stp] at hs
    split at hs
    · split at hs
      · rename_i h1
        cases hs
        intro H locs ls hW hL hG
        exact lv_dup hx hb hd (cv_cat1 h1) (k H locs ls hW hL (fun w hw => hG w (by simp at hw ⊢; exact hw)))
      · cases hs
    · cases hs
  | dup2 =>
    simp only [stp] at hs
    split at hs
    · split at hs
      · rename_i h1
        simp only [Bool.and_eq_true] at h1
        cases hs
        intro H locs ls hW hL hG
        exact lv_dup2_11 hx hb hd (cv_cat1 h1.1) (cv_cat1 h1.2) (k H locs ls hW hL (fun w hw => hG w (by simp at hw ⊢; rcases hw with h | h | h | h | h <;> simp [h])))
      · cases hs
    · cases hs
  | iadd => exact zs_bin (F := fun x y => x + y) (fun _ _ => rfl) (fun H locs ls rest x y kk => lv_iadd hx hb hd kk) hs k
  | isub => exact zs_bin (F := fun x y => x - y) (fun _ _ => rfl) (fun H locs ls rest x y kk => lv_isub hx hb hd kk) hs k
  | imul => exact zs_bin (F := fun x y => x * y) (fun _ _ => rfl) (fun H locs ls rest x y kk => lv_imul hx hb hd kk) hs k
  | idiv => exact zs_div (F := fun x y => x / y) (fun _ _ => rfl) (fun H locs ls rest x y h kk => lv_idiv hx hb hd h kk) hs k
  | irem => exact zs_div (F := fun x y => x - x / y * y) (fun _ _ => rfl) (fun H locs ls rest x y h kk => lv_irem hx hb hd h kk) hs k
  | iand => exact zs_bin (F := fun x y => x &&& y) (fun _ _ => rfl) (fun H locs ls rest x y kk => lv_iand hx hb hd kk) hs k
  | ior => exact zs_bin (F := fun x y => x ||| y) (fun _ _ => rfl) (fun H locs ls rest x y kk => lv_ior hx hb hd kk) hs k
  | ixor => exact zs_bin (F := fun x y => x ^^^ y) (fun _ _ => rfl) (fun H locs ls rest x y kk => lv_ixor hx hb hd kk) hs k
  | ishl => exact zs_bin (F := fun x y => x <<< (y &&& 31)) (fun _ _ => rfl) (fun H locs ls rest x y kk => lv_ishl hx hb hd kk) hs k
  | ishr => exact zs_bin (F := fun x y => x >>> (y &&& 31)) (fun _ _ => rfl) (fun H locs ls rest x y kk => lv_ishr hx hb hd kk) hs k
  | iushr => exact zs_bin (F := fun x y => (x.toUInt32 >>> (y.toUInt32 &&& Int32.toUInt32 31)).toInt32) (fun _ _ => rfl) (fun H locs ls rest x y kk => lv_iushr hx hb hd rfl kk) hs k
  | ladd => exact zs_binL (F := fun x y => x + y) (fun _ _ => rfl) (fun H locs ls rest x y kk => lv_ladd hx hb hd kk) hs k
  | lsub => exact zs_binL (F := fun x y => x - y) (fun _ _ => rfl) (fun H locs ls rest x y kk => lv_lsub hx hb hd kk) hs k
  | lmul => exact zs_binL (F := fun x y => x * y) (fun _ _ => rfl) (fun H locs ls rest x y kk => lv_lmul hx hb hd kk) hs k
  | ldiv => exact zs_divL (F := fun x y => x / y) (fun _ _ => rfl) (fun H locs ls rest x y h kk => lv_ldiv hx hb hd h kk) hs k
  | lrem => exact zs_divL (F := fun x y => x - x / y * y) (fun _ _ => rfl) (fun H locs ls rest x y h kk => lv_lrem hx hb hd h kk) hs k
  | land => exact zs_binL (F := fun x y => x &&& y) (fun _ _ => rfl) (fun H locs ls rest x y kk => lv_land hx hb hd kk) hs k
  | lor => exact zs_binL (F := fun x y => x ||| y) (fun _ _ => rfl) (fun H locs ls rest x y kk => lv_lor hx hb hd kk) hs k
  | lshl =>
    simp only [stp] at hs
    split at hs
    · cases hs
      intro H locs ls hW hL hG
      exact lv_lshl hx hb hd (by rw [l_shl, Int64.ofInt_toInt]) (k H locs ls hW hL (fun w hw => (List.mem_cons.mp hw).elim (fun e => by rw [e]; exact g64_of _) (fun h => hG w (List.mem_cons_of_mem _ (List.mem_cons_of_mem _ h)))))
    · cases hs
  | lcmp =>
    simp only [stp] at hs
    split at hs
    · rename_i y x r
      cases hs
      intro H locs ls hW hL hG
      have hy : g64 y := hG (vL y) (by simp)
      have hxg : g64 x := hG (vL x) (by simp)
      refine W.lcmp hx hb hd ?_
      rw [z_lcmp hxg hy]
      refine k H locs ls hW hL (fun w hw => (List.mem_cons.mp hw).elim (fun e => ?_) (fun h => hG w (List.mem_cons_of_mem _ (List.mem_cons_of_mem _ h))))
      rw [e]
      exact (g32_iff _).mpr (by unfold l_cmp; split <;> (try split) <;> omega)
    · cases hs
  | i2l =>
    simp only [stp] at hs
    split at hs
    · rename_i x r
      cases hs
      intro H locs ls hW hL hG
      have hxg : g32 x := hG (vI x) (by simp)
      exact lv_i2l hx hb hd (z_i2l hxg).1 (k H locs ls hW hL (fun w hw => (List.mem_cons.mp hw).elim (fun e => by rw [e]; exact (z_i2l hxg).2) (fun h => hG w (List.mem_cons_of_mem _ h))))
    · cases hs
  | l2i =>
    simp only [stp] at hs
    split at hs
    · rename_i x r
      cases hs
      intro H locs ls hW hL hG
      exact lv_l2i hx hb hd (by rw [o_l2i, Int32.ofInt_toInt]) (k H locs ls hW hL (fun w hw => (List.mem_cons.mp hw).elim (fun e => by rw [e]; exact g32_of _) (fun h => hG w (List.mem_cons_of_mem _ h))))
    · cases hs
  | i2b => exact zs_un (F := fun x => x.toInt8.toInt32) (fun _ => rfl) (fun H locs ls rest x kk => lv_i2b hx hb hd rfl kk) hs k
  | i2s => exact zs_un (F := fun x => x.toInt16.toInt32) (fun _ => rfl) (fun H locs ls rest x kk => lv_i2s hx hb hd rfl kk) hs k
  | goto off =>
    simp only [zok1, beq_iff_eq] at hok
    cases hs
    intro H locs ls hW hL hG
    exact lv_goto hx hb hd hok (k H locs ls hW hL hG)
  | getfield i =>
    simp only [zok1] at hok
    split at hok
    · rename_i C1 T N hc
      simp only [Bool.and_eq_true, decide_eq_true_eq] at hok
      exact zs_get C hc hok.1.1 hok.1.2 (fun H locs ls rest q a fs v h1 h2 h3 kk => va_get hx hb hts (fun w hw => zcl_in _ (List.mem_of_getElem? hc) w hw) hown hK h1 q h2 hc rn.2.1 hok.1.1 (hts _ (zhas_mem hok.2)) (fun _ h => h) h3 hd kk) hs k
    · cases hok
  | putfield i =>
    simp only [zok1] at hok
    split at hok
    · rename_i C1 T N hc
      simp only [Bool.and_eq_true, decide_eq_true_eq, Bool.not_eq_true'] at hok
      have hty := zcl_ty _ (List.mem_of_getElem? hc)
      simp only [ztyb, List.all_eq_true, List.mem_range, Bool.and_eq_true, Bool.or_eq_true, decide_eq_true_eq] at hty
      have hds := zcl_ds _ _ hc
      simp only [zdsb, List.all_eq_true, List.mem_range] at hds
      have hdj := hds rn.2.1 hok.1.1.1
      have hgd : (zft rn.1).getD rn.2.1 (9, 0, 0, 0) = rn.2.2 := by simp [List.getD_eq_getElem?_getD, hok.1.1.2]
      rw [hgd] at hdj
      refine zs_put C hc hok.1.1.1 hok.1.1.2 (fun H locs ls rest q a fs v h1 h2 h3 h4 h5 h6 kk => ?_) hs k
      have hfit : ∃ ty, parseFieldDescriptor (T rn.2.1).2.2.1 = some ty ∧ narrow ty v = v ∧ fits ty v = true := by
        obtain ⟨ci, j, t1, t2⟩ := rn
        dsimp only at h6 hdj ⊢
        rcases h6 with ⟨e1, x, rfl⟩ | ⟨e1, x, rfl⟩ | ⟨e1, h⟩
        · subst e1
          exact ⟨.int, by simpa using hdj, rfl, rfl⟩
        · subst e1
          exact ⟨.long, by simpa using hdj, rfl, rfl⟩
        · subst e1
          refine ⟨.boolean, by simpa using hdj, ?_⟩
          rcases h with h | h <;> subst h <;> exact ⟨rfl, rfl⟩
      obtain ⟨ty, ht1, ht2, ht3⟩ := hfit
      have hty0 : ∀ a, a < N → parseFieldDescriptor (T a).2.2.1 = some ((parseFieldDescriptor (T a).2.2.1).getD .int) := by
        intro a ha
        have h7 := (hty a ha).1
        cases h8 : parseFieldDescriptor (T a).2.2.1 with
        | none => rw [h8] at h7; cases h7
        | some t => rfl
      exact va_put hx hb hts (fun w hw => zcl_in _ (List.mem_of_getElem? hc) w hw) (fun a => (parseFieldDescriptor (T a).2.2.1).getD .int) hty0 (fun a ha b hb' hne => ((hty a ha).2 b hb').resolve_left hne) hown hK h1 h2 h3 q h4 hc rn.2.1 hok.1.1.1 (hts _ (zhas_mem hok.1.2)) (fun _ h => h) hok.2 ht1 ht2 ht3 h5 hd (fun H1 locs1 hP1 _ hS1 => kk H1 locs1 hP1 hS1)
    · cases hok
  | invokestatic i =>
    simp only [zok1] at hok
    simp only [stp, z_stat] at hs
    split at hs
    · rename_i h8
      have h8 : rn.1 = 998 := by simpa using h8
      have h9 : ¬ rn.1 = 999 := by omega
      rw [if_neg h9, if_pos h8] at hok
      exact zs_math C (zhas_mem hok) hfr hlr hcc hss hd hs k
    · exact zs_copy C (fun h => by rw [if_pos h] at hok; exact zhas_mem hok) hfr hlr hd hs k
  | _ => cases hs
/-- the table of a method: each entry is what the code says -/
def zdec (cc : ByteArray) (pc : Nat) (ins : Instr) : Bool := match ins with
  | .tableswitch _ _ _ _ => match decode cc pc with
    | .ok (i, _) => decide (i = ins)
    | _ => false
  | .lookupswitch _ ps => match decode cc pc with
    | .ok (i, _) => decide (i = ins) && (ps.toList.zip (ps.toList.drop 1)).all (fun (a, next) => a.1 < next.1)
    | _ => false
  | _ => match decode cc pc with
    | .ok (i, n) => decide (i = ins) && n == zlen ins
    | _ => false
def ztab (own : String) (cc : ByteArray) (nL : Nat) (T : List ZE) : Bool := T.all (fun q => zdec cc q.1 q.2.1 && zok1 own nL q.1 q.2.1 q.2.2.1 q.2.2.2)
theorem zent_mem {T : List ZE} {pc : Nat} {x : Instr × (Nat × Nat × Nat × Nat × Nat × Nat) × Int} (h : zent T pc = some x) : (pc, x) ∈ T := by
  induction T with
  | nil => cases h
  | cons a r ih =>
    obtain ⟨q, y⟩ := a
    simp only [zent] at h
    split at h
    · rename_i hq
      have hq : q = pc := by simpa using hq
      cases h
      rw [hq]
      exact List.mem_cons_self
    · exact List.mem_cons_of_mem _ (ih h)
theorem ztab_at {T : List ZE} {i : Instr} {rn : Nat × Nat × Nat × Nat × Nat × Nat} {rz : Int} (hT : ztab own cc nL T = true) (h : zent T pc = some (i, rn, rz)) : zdec cc pc i = true ∧ zok1 own nL pc i rn rz = true := by
  have := List.all_eq_true.mp hT _ (zent_mem h)
  simpa only [Bool.and_eq_true] using this
theorem zdec_plain {i : Instr} (h : zdec cc pc i = true) (h1 : ∀ a b c d, i ≠ .tableswitch a b c d) (h2 : ∀ a b, i ≠ .lookupswitch a b) : decode cc pc = .ok (i, zlen i) := by
  unfold zdec at h
  split at h
  · exact absurd rfl (h1 _ _ _ _)
  · exact absurd rfl (h2 _ _)
  · split at h
    · rename_i i2 n2 hd
      simp only [Bool.and_eq_true, decide_eq_true_eq, beq_iff_eq] at h
      rw [hd, h.1, h.2]
    · cases h
theorem stp_plain {i : Instr} {rn : Nat × Nat × Nat × Nat × Nat × Nat} {rz : Int} {x : ZT} (h : stp i rn rz pc lo st M = some x) : (∀ a b c d, i ≠ .tableswitch a b c d) ∧ ∀ a b, i ≠ .lookupswitch a b := by
  constructor <;> (intros; rintro rfl; cases h)
theorem zruns {T : List ZE} (hT : ztab own cc nL T = true) (C : zC Y own cc nL p R s m args c D tys dA A) (hlen : ∀ (q k l0 : Nat), Y[q]? = some (k, l0) → l0 < 2147483648) (hfr : 1 ≤ R.frames) (hlr : 64 ≤ R.locals) (hcc : cells ≤ R.cells) (hss : slots ≤ R.slots) :
    ∀ (n : Nat) (x y : ZT), zrun T n x = some y → ZS Y nL p l e R s m args below meth c cells slots Q D ad dA A y.1 y.2.1 y.2.2.1 y.2.2.2 → ZS Y nL p l e R s m args below meth c cells slots Q D ad dA A x.1 x.2.1 x.2.2.1 x.2.2.2 := by
  intro n
  induction n with
  | zero =>
    intro x y h k
    cases h
    exact k
  | succ n ih =>
    intro x y h k
    simp only [zrun] at h
    split at h
    · rename_i i rn rz he
      split at h
      · rename_i s' hs
        obtain ⟨h1, h2⟩ := ztab_at hT he
        obtain ⟨h3, h4⟩ := stp_plain hs
        exact zstep C hlen hfr hlr hcc hss (zdec_plain h1 h3 h4) h2 hs (ih s' y h k)
      · cases h
    · cases h
end ZAll
