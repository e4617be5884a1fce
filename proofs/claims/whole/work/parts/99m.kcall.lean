/-! a call of a constructor; all steps together; runs -/
section KSound3
variable {sk : (Nat → Nat) × (Nat → Nat)} {own : String} {cc : ByteArray} {nL : Nat} {p : Program} {l : Launch} {e : Env} {R : Room} {s : State} {m : MethodId} {args : Array Value} {below : List Frame} {meth : Method} {c : Code} {Q : State → Prop} {D : va_G} {A : Nat → Prop} {N0 : Nat → Bool} {ad0 : Nat → Nat} {dA0 : Nat → ClassId} {G : Nat → Nat → Bool} {fin : Nat → Nat → KWd} {mc ms : Nat → Nat} {kini : Nat → Zm} {kd : Nat → Nat}
variable {pc n ce sl : Nat} {lo : ZL} {st : List AV} {W0 : KWd} {ns : List Nat} {y : KST}
theorem kw_erase {W : KWd} {ad : Nat → Nat} {dA : Nat → ClassId} {i : Nat} : (kw ad dA W).eraseIdx i = kw ad dA (W.eraseIdx i) := by
  unfold kw
  rw [List.eraseIdx_eq_take_drop_succ, List.eraseIdx_eq_take_drop_succ, List.map_append, List.map_take, List.map_drop]
theorem kblind {av : List Value} {ad : Nat → Nat} {dA : Nat → ClassId} {sz : Nat} {Wi : KWd} : FrameBlind (va_Pc av (kPre sk D ad dA sz Wi)) := by
  intro a U gg mk q
  obtain ⟨q0, q1, qP, qK, qD, qE, qS⟩ := q
  exact ⟨q0, q1, qP, va_K.moved (u := U) (U := U.calling gg mk a) (Vm.Alike.refl U.vm) qK, qD, kE_same (u := U) (U := U.calling gg mk a) rfl qE, kSx.same (u := U) (U := U.calling gg mk a) rfl qS⟩
theorem ks_call (C : kCx sk own cc nL p R s m args meth c A) {idx ci : Nat} (hM : ∀ q, G ci q = true → KM l (kini ci) (kd ci) (mc ci) (ms ci) ci q (fin ci q)) (hk : ∀ q, G ci q = true → kMo (kini ci) ∧ kd ci + 2 ≤ R.frames ∧ 64 * (kd ci + 2) ≤ R.locals)
    (hlink : Jvm.Cond.methodLink own idx (zy (kini ci)) ∈ zws ∨ (own, idx, zy (kini ci)) ∈ kNL) (hd : decode cc pc = .ok (.invokespecial idx, 3))
    (hs : k_call N0 G fin mc ms R.cells R.slots pc ci lo st W0 ns ce sl = some y) (kk : KB nL p l e R s m args below meth c Q D A N0 ad0 dA0 y) : KB nL p l e R s m args below meth c Q D A N0 ad0 dA0 (pc, lo, st, W0, ns, ce, sl) := by
  obtain ⟨hx, hb, hml, hown, hts, hAs, hE, hin2, hfr, hlr, hSx⟩ := C
  unfold k_call at hs
  split at hs
  · rename_i q q2 q3 r
    split at hs
    · rename_i i ci' fs hf
      split at hs
      · rename_i hg
        cases hs
        simp only [Bool.and_eq_true, beq_iff_eq, decide_eq_true_eq] at hg
        obtain ⟨rfl, rfl, hG1, hce, hsl, hr4, hfw, hfq, hfin, hnd, hni⟩ := hg
        obtain ⟨hmo, hdf, hdl⟩ := hk q hG1
        obtain ⟨m1, m2, m3, m4, m5, m6, m7, m8⟩ := hmo.spec
        have hMet := hM q hG1
        generalize hLe : ((fin ci' q).map (fun x => x.1)).filter (fun j => !(j == q)) = L at hfw hfq hfin
        intro ad dA tys hA H locs ls hP hD hS hK hT hL hG
        have hj := kfind0 hf
        have hil : i < W0.length := (List.getElem?_eq_some_iff.mp hj).1
        have he := kw_at (ad := ad) (dA := dA) hj
        have hC : [i].map (fun i => (kw ad dA W0)[i]?) = (kw ad dA (kWi ci' q)).map some := by
          show [(kw ad dA W0)[i]?] = _
          rw [he]
          rfl
        have hlw : (kw ad dA W0).length = W0.length := by simp [kw]
        have hR : (List.range i ++ List.range' (i + 1) (W0.length - (i + 1))).map (fun i => (kw ad dA W0)[i]?) = (kw ad dA (W0.eraseIdx i)).map some := by
          have h := k_erase (W := kw ad dA W0) (i := i)
          rw [hlw, kw_erase] at h
          exact h.resolve_right (by omega)
        have hFc := va_free (wc := kw ad dA (kWi ci' q)) hD hS hAs [i] hC
        have hPc := hP.sub (ws' := kw ad dA (kWi ci' q)) [i] (by show List.filterMap (fun i => (kw ad dA W0)[i]?) [i] = kw ad dA (kWi ci' q); simp only [List.filterMap_cons, List.filterMap_nil, he]; rfl)
        have hDc := hD.sub (ws' := kw ad dA (kWi ci' q)) [i] (by rfl) hC
        have hpre : ∀ U : State, U.heap = H → s.WarmedH U.vm → va_Pc [.ref (ad q)] (kPre sk D ad dA H.size (kWi ci' q)) #[Value.ref (ad q)] U := fun U hU hW => ⟨rfl, by rw [hU], by rw [hU]; exact hPc, va_K.moved hW.alike (hK.sub (tys' := []) [] rfl), hDc.weaken (fun _ _ _ _ => trivial), kE_warm hW hE, by rw [hU]; exact (kSx.warm hW (hSx.kept hS.2.1)).narrow hFc⟩
        have hroom : 8 + (zn (kini ci') + 11) + (krm (kd ci') (mc ci') (ms ci')).locals ≤ R.locals := by
          show 8 + (zn (kini ci') + 11) + 64 * (kd ci' + 1) ≤ R.locals
          omega
        have hrun : va_Run p l e R s m args below meth c H locs ce sl (mc ci') (ms ci') (F0 m pc ls ((vR q q2 q3 :: r).map (cv ad))) (r.map (cv ad)) (kQ (kWi ci' q) (fin ci' q) D ad dA (va_A (kw ad dA (kWi ci' q)) H.size) #[Value.ref (ad q)]) (va_A (kw ad dA (kWi ci' q)) H.size) := by
          rcases hlink with hlink | hlink
          · exact va_runI (As := []) (rest := r.map (cv ad)) (Ts := zws) ⟨hx, hb, hml, hown, hts⟩ (hMet sk D ad dA H.size) (cwI (bytes := zc (kini ci')) (ws' := zws) 0 hts (kgoodIn m1) (by rw [m8]) rfl rfl (hts _ m2) (hts _ hlink) (hts _ m3) m7 m5 ⟨hdf, hroom⟩) ⟨kblind, hpre⟩ rfl rfl hL.1 rfl (lv_room (zcat_small (Nat.le_of_ble_eq_true hr4))) hd ⟨Nat.le_of_ble_eq_true hce, Nat.le_of_ble_eq_true hsl⟩
          · exact va_runIN (As := []) (rest := r.map (cv ad)) (Ts := zws) ⟨hx, hb, hml, hown, hts⟩ (hMet sk D ad dA H.size) ⟨va_cnB (bytes := zc (kini ci')) (ws' := zws) 0 hts (kgoodIn m1) (by rw [m8]) rfl rfl (hE.1 _ hlink) (hts _ m2) m5 ⟨hdf, hroom⟩, m7, hts _ m3⟩ ⟨kblind, hpre⟩ rfl rfl hL.1 rfl (lv_room (zcat_small (Nat.le_of_ble_eq_true hr4))) hd ⟨Nat.le_of_ble_eq_true hce, Nat.le_of_ble_eq_true hsl⟩
        refine va_callv hrun hS (fun q _ h => hFc q h) hFc (fun u t H1 locs1 ht hvm hw hB hz1 hk1 hS1 => ?_)
        obtain ⟨hP1, hK1, hT1, hD1⟩ := hB
        rw [ht] at hP1
        have hK1 := va_K.moved hvm.symm hK1
        obtain ⟨hP2, hD2⟩ := va_join hP hD [i] (List.range i ++ List.range' (i + 1) (W0.length - (i + 1))) hC hR hnd (fun j hj1 hj2 => by
          rw [List.mem_singleton.mp hj2] at hj1
          rw [List.contains_iff_mem.mpr hj1] at hni
          cases hni) hk1 hFc hP1 hD1
        obtain ⟨f1, f2, f3, f4⟩ := kfresh_spec hfw
        obtain ⟨g1, -, -, -⟩ := kfresh_spec hfq
        have hq0 := hw _ List.mem_cons_self
        have hLq : kno L q = true := by
          have := List.all_eq_true.mp g1 _ List.mem_cons_self
          simp only [kpN, Bool.and_eq_true] at this
          exact this.1
        have hN : ∀ j, (j == q || L.contains j) = true → u.1 j = kmix L u.1 ad j ∧ u.2.1 j = kmix L u.2.1 dA j := by
          intro j hj
          cases hc : L.contains j with
          | true => exact ⟨(kmix_in hc).symm, (kmix_in hc).symm⟩
          | false =>
            rw [hc, Bool.or_false] at hj
            have hj : j = q := by simpa using hj
            subst hj
            rw [← kmix_out hLq, ← kmix_out hLq]
            exact hq0
        have e1 : kw ad dA (W0.eraseIdx i) = kw (kmix L u.1 ad) (kmix L u.2.1 dA) (W0.eraseIdx i) := kw_congr (fun j hj => ⟨kmix_out hj, kmix_out hj⟩) f1
        have e2 : kw u.1 u.2.1 (fin ci' q) = kw (kmix L u.1 ad) (kmix L u.2.1 dA) (fin ci' q) := kw_congr hN hfin
        have e3 : r.map (cv ad) = r.map (cv (kmix L u.1 ad)) := kst_congr (fun j hj => kmix_out hj) f2
        rw [e1, e2, ← kw_app] at hP2 hD2
        rw [e3]
        refine kk (kmix L u.1 ad) (kmix L u.2.1 dA) (tys ++ u.2.2) (fun j hj => ?_) H1 locs1 ls hP2 hD2 hS1 (hK.app hK1) (kT_app (kT_more (kT_congr (fun j hj => kmix_out hj) f1 (kT_sub (fun x hx => List.mem_of_mem_eraseIdx hx) hT))) ?_) (klo_congr (fun j hj => kmix_out hj) f3 hL) (fun w hw => hG w (List.mem_cons_of_mem _ hw))
        · rw [← kmix_out (f4 j hj), ← kmix_out (f4 j hj)]
          exact hA j hj
        · have hT3 := kT_congr (fun j hj => (hN j hj).2) hfin hT1
          intro i2 q4 k2 n2 rs2 hi
          obtain ⟨t0, h0⟩ := hT3 i2 q4 k2 n2 rs2 hi
          exact ⟨tys.length + t0, by rw [List.getElem?_append_right (by omega), Nat.add_sub_cancel_left]; exact h0⟩
      · cases hs
    · cases hs
  · cases hs
end KSound3
