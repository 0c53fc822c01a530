/-! The law's calls of its wrappers; the law's loop in the real machine. -/
theorem Pcx_blind {D : va_G} {q : Nat → Nat → Nat} {ca : Nat → ClassId} {μ : PM} {as : List PV} : FrameBlind (Pcx D q ca μ as) := fun a U g mk h => ⟨h.1, h.2.1, Kp.moved (u := U) (U := U.calling g mk a) (Vm.Alike.refl U.vm) h.2.2.1, stX.to (U := U) (V := U.calling g mk a) (State.WarmedH.refl U) (fun _ _ h _ => h) h.2.2.2⟩
section P39
variable {p : Program} {l : Launch} {e : Env} {R : Room} {s : State} {m : MethodId} {args : Array Value} {below : List Frame} {meth : Method} {c : Code} {H : Heap} {locs : List Loc} {cells slots : Nat}
theorem lw_inv {y : MethodName} {bytes cc : ByteArray} {maxL nL index pc : Nat} {hh : List (Nat × Nat × Nat × Nat)} {Pc : Array Value → State → Prop} {Qc : Array Value → State → Outcome → State → Prop} {free : Addr → Prop} {As rest : List Value} {lsA : Array Slot}
    (hx : p.tables.exec = Jvm.exec) (hb : c.code = cc) (hml : c.maxLocals = nL) (hown : s.vm.findClass "ThrowFlowLaw" = some m.cls) (hts : ∀ w ∈ al_w, w.before args s = true)
    (hM : Met l y (.codeWith y bytes maxL (some .int) hh :: al_w) rmW Pc Qc 1 6 free) (hbl : FrameBlind Pc) (cw : Cond.codeWith y bytes maxL (some .int) hh ∈ al_w) (wl : Cond.methodLink "ThrowFlowLaw" index y ∈ al_w) (ws : Cond.static y ∈ al_w) (wi : Cond.initialized y.cls ∈ al_w) (hy : y.cls ≠ "java/lang/invoke/MethodHandle" ∧ y.cls ≠ "java/lang/invoke/VarHandle")
    (hn : (parseMethodDescriptor y.desc).map (fun d => d.parameters.length) = some As.length) (hR : 10 ≤ R.frames ∧ 8 + (maxL + 11) + 262 ≤ R.locals) (hcs : cells + 1 ≤ R.cells ∧ slots + 6 ≤ R.slots) (hPc : ∀ U : State, U.heap = H → s.WarmedH U.vm → Pc As.toArray U) (hsz : lsA.size = nL) (hrest : (rest.map fun v => v.category).sum ≤ 8) (hdg : decode cc pc = .ok (.invokestatic index, 3)) :
    va_Run p l e R s m args below meth c H locs cells slots 1 6 (F0 m pc lsA (As.reverse ++ rest)) rest (Qc As.toArray) free := by
  have gw : ∀ w ∈ al_w, ∀ (a' : Array Value) (U : State), s.WarmedH U.vm → w.before a' U = true := fun w hw a' U hW => word_at hW (good_of_word (List.mem_filter.mp hw).2) (hts w hw)
  have hBk : Jvm.Free.Back l R p e below s args y 3 8 (PreOf R 1 6 Pc) (PostOf Qc 1 6 free) := va_backW (bytes := bytes) (maxL := maxL) (ret := some .int) (hh := hh) hM hbl rfl rfl (by show 9 + 1 ≤ R.frames; omega) (by show 8 + (maxL + 11) + 262 ≤ R.locals; omega) (fun w hw a' U hW => by
    rcases List.mem_cons.mp hw with rfl | h
    · exact gw _ cw a' U hW
    · exact gw w h a' U hW) List.mem_cons_self (fun a' U hW => gw _ wi a' U hW)
  intro T hT X
  obtain ⟨mk, methM, cM, hnamed, hmethM, hcM, -, -, -, -, -, hsigM⟩ := Cond.codeWith_spec (hts _ cw)
  have hstatic : methM.isStatic = true := Cond.static_spec hnamed hmethM (hts _ ws)
  obtain ⟨kP, hkP, -⟩ := className_of_methodNamed hnamed
  have hinitP : kP.init = .initialized := Cond.initialized_spec (findClass_of_methodNamed hnamed) hkP (hts _ wi)
  have hlen : As.length = methM.sig.parameters.length := by
    rw [hsigM] at hn
    exact (Option.some.inj hn).symm
  obtain ⟨vm₁, X₁, hstep₁⟩ := X.invokestatic hx hown (hts _ wl) hnamed hmethM hstatic hkP hinitP hy (g := F0 m pc lsA (As.reverse ++ rest)) rfl (argsL := As) (rest := rest) hlen rfl (by rw [hb]; exact hdg)
  obtain ⟨v, B, X', hpost, hsteps⟩ := hBk m meth c ⟨T.setVm vm₁, locs, cells, slots⟩ (F0 m pc lsA rest) (.invokestatic index) mk As.toArray X₁ rfl (hsz.trans hml.symm) (by rw [hb]; exact hdg) (by show 2 * 0 + (rest.map fun v => v.category).sum ≤ 8; omega) (X₁.named hnamed) ⟨hcs.1, hcs.2, hPc (T.setVm vm₁) hT X₁.warmed⟩
  obtain ⟨U', l2, c2, s2⟩ := B
  obtain ⟨g', mk', t, L, e1, e2, hq, h1, hL, h2, h3⟩ := hpost
  dsimp only [Jvm.Free.Pt.U, Jvm.Free.Pt.locs, Jvm.Free.Pt.cells, Jvm.Free.Pt.slots] at X' e1 e2 h1 h2 h3 hsteps
  subst h1; subst h2; subst h3
  exact ⟨v, (T.setVm vm₁).calling g' mk' As.toArray, t, U', L, hT, X', hL, e1, e2, hq, fun target h => hstep₁ _ fun acts => by rw [doInvoke_state]; exact hsteps.trans h⟩
end P39
theorem allI_s {v : PV} {l : List PV} (h : allI (v :: l)) : ∃ a, v = pI a ∧ allI l := by
  match v, h with
  | .inl a, h => exact ⟨a, rfl, h⟩
theorem keepSt_law {H0 H : Heap} {locs : List Loc} (hS : va_S (fun x => H0.size ≤ x) H0 H locs) : keepSt H0 H := by
  intro a cell h1 _
  have hlt := (Array.getElem?_eq_some_iff.mp h1).1
  rw [hS.2.1 a hlt (by omega)]
  exact h1
theorem wwI : Cond.initialized "ThrowFlowLaw" ∈ al_w := in_w 46 (by decide +kernel) rfl
theorem wwL0 : Cond.methodLink "ThrowFlowLaw" 40 yW0 ∈ al_w := in_w 375 (by decide +kernel) rfl
theorem wwS0 : Cond.static yW0 ∈ al_w := in_w 376 (by decide +kernel) rfl
theorem wwD0 : decode (bm 105) 120 = .ok (.invokestatic 40, 3) := by decide +kernel
theorem wwL3 : Cond.methodLink "ThrowFlowLaw" 59 yW3 ∈ al_w := in_w 478 (by decide +kernel) rfl
theorem wwS3 : Cond.static yW3 ∈ al_w := in_w 479 (by decide +kernel) rfl
theorem wwD3 : decode (bm 105) 244 = .ok (.invokestatic 59, 3) := by decide +kernel
theorem wwL4 : Cond.methodLink "ThrowFlowLaw" 63 yW4 ∈ al_w := in_w 527 (by decide +kernel) rfl
theorem wwS4 : Cond.static yW4 ∈ al_w := in_w 528 (by decide +kernel) rfl
theorem wwD4 : decode (bm 105) 342 = .ok (.invokestatic 63, 3) := by decide +kernel
theorem wwL5 : Cond.methodLink "ThrowFlowLaw" 67 yW5 ∈ al_w := in_w 548 (by decide +kernel) rfl
theorem wwS5 : Cond.static yW5 ∈ al_w := in_w 549 (by decide +kernel) rfl
theorem wwD5 : decode (bm 105) 446 = .ok (.invokestatic 67, 3) := by decide +kernel
theorem wwL11 : Cond.methodLink "ThrowFlowLaw" 91 yW11 ∈ al_w := in_w 557 (by decide +kernel) rfl
theorem wwS11 : Cond.static yW11 ∈ al_w := in_w 558 (by decide +kernel) rfl
theorem wwD11 : decode (bm 105) 723 = .ok (.invokestatic 91, 3) := by decide +kernel
set_option maxHeartbeats 4000000 in
theorem law_real {l : Launch} (hfl : l.flags = pinnedFlags ++ [noTraceFlag]) : ∀ (n pc : Nat) (ls : PL) (st : List PV) (μ : PM), Bx 105 pc ls st μ (LwP n) → ∀ {p : Program} {e : Env} {R : Room} {s : State} {m : MethodId} {args : Array Value} {below : List Frame} {meth : Method} {c : Code} {H : Heap} {locs : List Loc} {cells slots : Nat} {Q : State → Prop} {lsA : Array Slot} {D : va_G} {q : Nat → Nat → Nat} {ca : Nat → ClassId} {xs : Nat → Int32} {L : Nat},
    qij q → Cx p s m args c 105 D ca → stX s → 10 ≤ R.frames ∧ 289 ≤ R.locals → cells + n ≤ R.cells ∧ slots + 6 * n ≤ R.slots → lok q ls lsA (mxl 105) → (∀ v ∈ st, okv v) → wd D q ca μ H → va_S (fun x => s.heap.size ≤ x) s.heap H locs → (∀ t m, vld t m → s.heap.size ≤ q t m) → okX q xs L (fun x => s.heap.size ≤ x) s 105 → mX xs L μ →
    (∀ (H' : Heap) (locs' : List Loc) (cells' slots' : Nat) (lsB : Array Slot), cells' ≤ cells + n → slots' ≤ slots + 6 * n → va_S (fun x => s.heap.size ≤ x) s.heap H' locs' → W p l e R s m args below meth c H' locs' cells' slots' Q (F0 m 816 lsB [.int 1])) →
    W p l e R s m args below meth c H locs cells slots Q (F0 m pc lsA (st.map (tr q))) := by
  have hdl : dep 105 ≤ 10 ∧ lcm 105 ≤ 289 := by decide
  intro n
  induction n with
  | zero =>
    intro pc ls st μ hB p e R s m args below meth c H locs cells slots Q lsA D q ca xs L hq C0 hX9 hR hcs hl hv hw hS hA hX hM kk
    obtain ⟨nn, pce, lse, ste, μ1, hr, rfl, rfl⟩ := hB
    exact snd_all l nn hq 105 pc ls st μ _ _ _ _ hr C0 (by omega) (by omega) hl hv hw hS hA hX hM (fun H' locs' lsB hl' hv' hw' hS' hM' => kk H' locs' cells slots lsB (by omega) (by omega) hS')
  | succ n ih =>
    intro pc ls st μ hB p e R s m args below meth c H locs cells slots Q lsA D q ca xs L hq C0 hX9 hR hcs hl hv hw hS hA hX hM kk
    obtain ⟨nn, pce, lse, ste, μ1, hr, hP⟩ := hB
    refine snd_all l nn hq 105 pc ls st μ _ _ _ _ hr C0 (by omega) (by omega) hl hv hw hS hA hX hM (fun H' locs' lsB hl' hv' hw' hS' hM' => ?_)
    obtain ⟨hx, hb, hml, hown, hts, hK⟩ := id C0
    rcases hP with ⟨rfl, rfl⟩ | ⟨k, cm, as, h1, rfl, hal, hlen, hWr⟩
    · exact kk H' locs' cells slots lsB (by omega) (by omega) hS'
    · have go : ∀ (As : List Value) (P : Int32 → PM → Prop), (∀ y μ2, P y μ2 → Bx 105 (pce + 3) lse [pI y] μ2 (LwP n)) → va_Run p l e R s m args below meth c H' locs' cells slots 1 6 (F0 m pce lsB (As.reverse ++ [])) [] (QcW D q ca xs L P As.toArray) (Aw q) → W p l e R s m args below meth c H' locs' cells slots Q (F0 m pce lsB (As.reverse ++ [])) := by
        intro As P hPB hrun T hT X
        obtain ⟨v, st₀, t, T', L0, h0, X', hL, e1, e2, ⟨⟨y, μ2, hv9, hP2, hw2, hM2⟩, hF⟩, st9⟩ := hrun T hT X
        cases hv9
        have hS2 : va_S (fun x => s.heap.size ≤ x) s.heap T'.heap (locs' ++ L0) := by
          refine ⟨?_, fun z h1 h2 => ?_, fun z hz => ?_⟩
          · rw [e1]
            have := hF.1
            rw [h0] at this
            exact Nat.le_trans hS'.1 this
          · rw [e1, hF.2 z (by rw [h0]; exact Nat.lt_of_lt_of_le h1 hS'.1) (fun ⟨t, m, h3, h4⟩ => h2 (by rw [h4]; exact hA t m h3)), h0]
            exact hS'.2.1 z h1 h2
          · rcases List.mem_append.mp hz with h | h
            · exact hS'.2.2 z h
            · obtain ⟨t, m, h3, h4⟩ := hL z h
              show s.heap.size ≤ z.base
              rw [h4]; exact hA t m h3
        obtain ⟨tt, a1, b1⟩ := ih (pce + 3) lse [pI y] μ2 (hPB y μ2 hP2) (cells := cells + 1) (slots := slots + 6) hq C0 hX9 hR (by omega) hl' (fun v h => by simp only [List.mem_cons, List.not_mem_nil, or_false] at h; subst h; trivial) (by rw [e1]; exact hw2) hS2 hA hX hM2 (fun H2 locs2 c2 s2 ls2 h1 h2 h3 => kk H2 locs2 c2 s2 ls2 (by omega) (by omega) h3) T' rfl X'
        exact ⟨tt, st9 tt a1, b1⟩
      have hPc : ∀ (as : List PV) (U : State), U.heap = H' → s.WarmedH U.vm → Pcx D q ca μ1 as ((as.map (tr q)).toArray) U := fun as U hU hW => ⟨rfl, by rw [hU]; exact hw', Kp.moved hW.alike hK, stX.to hW (by rw [hU]; exact keepSt_law hS') hX9⟩
      unfold wrp at h1
      by_cases hpc : pce = 120
      · rw [if_pos hpc] at h1
        cases h1
        subst hpc
        obtain ⟨a1, rfl⟩ : ∃ a1 : Int32, as = [pI a1] := by
          have hlen : as.length = 1 := hlen
          match as, hal, hlen with
          | [v1], hal, _ =>
            obtain ⟨a1, e1, hal⟩ := allI_s hal
            exact ⟨a1, by rw [e1]⟩
        exact go (([pR 0 0, pI a1, pR 34 0] : List PV).map (tr q)) _ (fun y μ2 h => h) (lw_inv (locs := locs') (cells := cells) (slots := slots) (H := H') (lsA := lsB) (As := ([pR 0 0, pI a1, pR 34 0] : List PV).map (tr q)) (rest := []) hx hb hml hown hts (metW0 hfl (D := D) (q := q) (ca := ca) hq hM' hWr) Pcx_blind cwW0 wwL0 wwS0 wwI (by decide) (by rfl) (by show 10 ≤ R.frames ∧ 8 + (4 + 11) + 262 ≤ R.locals; omega) (by omega) (hPc [pR 0 0, pI a1, pR 34 0]) hl'.1 (by show 0 ≤ 8; omega) wwD0)
      rw [if_neg hpc] at h1
      by_cases hpc : pce = 244
      · rw [if_pos hpc] at h1
        cases h1
        subst hpc
        obtain ⟨a1, a2, a3, a4, rfl⟩ : ∃ a1 a2 a3 a4 : Int32, as = [pI a1, pI a2, pI a3, pI a4] := by
          have hlen : as.length = 4 := hlen
          match as, hal, hlen with
          | [v1, v2, v3, v4], hal, _ =>
            obtain ⟨a1, e1, hal⟩ := allI_s hal
            obtain ⟨a2, e2, hal⟩ := allI_s hal
            obtain ⟨a3, e3, hal⟩ := allI_s hal
            obtain ⟨a4, e4, hal⟩ := allI_s hal
            exact ⟨a1, a2, a3, a4, by rw [e1, e2, e3, e4]⟩
        exact go (([pR 0 0, pI a1, pI a2, pI a3, pI a4, pR 34 0] : List PV).map (tr q)) _ (fun y μ2 h => h) (lw_inv (locs := locs') (cells := cells) (slots := slots) (H := H') (lsA := lsB) (As := ([pR 0 0, pI a1, pI a2, pI a3, pI a4, pR 34 0] : List PV).map (tr q)) (rest := []) hx hb hml hown hts (metW3 hfl (D := D) (q := q) (ca := ca) hq hM' hWr) Pcx_blind cwW3 wwL3 wwS3 wwI (by decide) (by rfl) (by show 10 ≤ R.frames ∧ 8 + (7 + 11) + 262 ≤ R.locals; omega) (by omega) (hPc [pR 0 0, pI a1, pI a2, pI a3, pI a4, pR 34 0]) hl'.1 (by show 0 ≤ 8; omega) wwD3)
      rw [if_neg hpc] at h1
      by_cases hpc : pce = 342
      · rw [if_pos hpc] at h1
        cases h1
        subst hpc
        obtain ⟨a1, a2, a3, a4, a5, rfl⟩ : ∃ a1 a2 a3 a4 a5 : Int32, as = [pI a1, pI a2, pI a3, pI a4, pI a5] := by
          have hlen : as.length = 5 := hlen
          match as, hal, hlen with
          | [v1, v2, v3, v4, v5], hal, _ =>
            obtain ⟨a1, e1, hal⟩ := allI_s hal
            obtain ⟨a2, e2, hal⟩ := allI_s hal
            obtain ⟨a3, e3, hal⟩ := allI_s hal
            obtain ⟨a4, e4, hal⟩ := allI_s hal
            obtain ⟨a5, e5, hal⟩ := allI_s hal
            exact ⟨a1, a2, a3, a4, a5, by rw [e1, e2, e3, e4, e5]⟩
        exact go (([pR 0 0, pI a1, pI a2, pI a3, pI a4, pI a5, pR 34 0] : List PV).map (tr q)) _ (fun y μ2 h => h) (lw_inv (locs := locs') (cells := cells) (slots := slots) (H := H') (lsA := lsB) (As := ([pR 0 0, pI a1, pI a2, pI a3, pI a4, pI a5, pR 34 0] : List PV).map (tr q)) (rest := []) hx hb hml hown hts (metW4 hfl (D := D) (q := q) (ca := ca) hq hM' hWr) Pcx_blind cwW4 wwL4 wwS4 wwI (by decide) (by rfl) (by show 10 ≤ R.frames ∧ 8 + (8 + 11) + 262 ≤ R.locals; omega) (by omega) (hPc [pR 0 0, pI a1, pI a2, pI a3, pI a4, pI a5, pR 34 0]) hl'.1 (by show 0 ≤ 8; omega) wwD4)
      rw [if_neg hpc] at h1
      by_cases hpc : pce = 446
      · rw [if_pos hpc] at h1
        cases h1
        subst hpc
        obtain ⟨a1, a2, a3, a4, a5, rfl⟩ : ∃ a1 a2 a3 a4 a5 : Int32, as = [pI a1, pI a2, pI a3, pI a4, pI a5] := by
          have hlen : as.length = 5 := hlen
          match as, hal, hlen with
          | [v1, v2, v3, v4, v5], hal, _ =>
            obtain ⟨a1, e1, hal⟩ := allI_s hal
            obtain ⟨a2, e2, hal⟩ := allI_s hal
            obtain ⟨a3, e3, hal⟩ := allI_s hal
            obtain ⟨a4, e4, hal⟩ := allI_s hal
            obtain ⟨a5, e5, hal⟩ := allI_s hal
            exact ⟨a1, a2, a3, a4, a5, by rw [e1, e2, e3, e4, e5]⟩
        exact go (([pR 0 0, pI a1, pI a2, pI a3, pI a4, pI a5, pR 34 0] : List PV).map (tr q)) _ (fun y μ2 h => h) (lw_inv (locs := locs') (cells := cells) (slots := slots) (H := H') (lsA := lsB) (As := ([pR 0 0, pI a1, pI a2, pI a3, pI a4, pI a5, pR 34 0] : List PV).map (tr q)) (rest := []) hx hb hml hown hts (metW5 hfl (D := D) (q := q) (ca := ca) hq hM' hWr) Pcx_blind cwW5 wwL5 wwS5 wwI (by decide) (by rfl) (by show 10 ≤ R.frames ∧ 8 + (8 + 11) + 262 ≤ R.locals; omega) (by omega) (hPc [pR 0 0, pI a1, pI a2, pI a3, pI a4, pI a5, pR 34 0]) hl'.1 (by show 0 ≤ 8; omega) wwD5)
      rw [if_neg hpc] at h1
      by_cases hpc : pce = 723
      · rw [if_pos hpc] at h1
        cases h1
        subst hpc
        obtain ⟨a1, a2, a3, rfl⟩ : ∃ a1 a2 a3 : Int32, as = [pI a1, pI a2, pI a3] := by
          have hlen : as.length = 3 := hlen
          match as, hal, hlen with
          | [v1, v2, v3], hal, _ =>
            obtain ⟨a1, e1, hal⟩ := allI_s hal
            obtain ⟨a2, e2, hal⟩ := allI_s hal
            obtain ⟨a3, e3, hal⟩ := allI_s hal
            exact ⟨a1, a2, a3, by rw [e1, e2, e3]⟩
        exact go (([pR 0 0, pI a1, pI a2, pI a3, pR 34 0] : List PV).map (tr q)) _ (fun y μ2 h => h) (lw_inv (locs := locs') (cells := cells) (slots := slots) (H := H') (lsA := lsB) (As := ([pR 0 0, pI a1, pI a2, pI a3, pR 34 0] : List PV).map (tr q)) (rest := []) hx hb hml hown hts (metW11 hfl (D := D) (q := q) (ca := ca) hq hM' hWr) Pcx_blind cwW11 wwL11 wwS11 wwI (by decide) (by rfl) (by show 10 ≤ R.frames ∧ 8 + (6 + 11) + 262 ≤ R.locals; omega) (by omega) (hPc [pR 0 0, pI a1, pI a2, pI a3, pR 34 0]) hl'.1 (by show 0 ≤ 8; omega) wwD11)
      rw [if_neg hpc] at h1
      cases h1
