/-! A wrapper's call of a method that may throw. -/
def okW (a i n : Nat) : Prop := (okM a ∧ a ≠ lawi ∧ dep a ≤ 8 ∧ (ym a).cls = "ThrowFlow") ∧ Cond.methodLink "ThrowFlowLaw" i (ym a) ∈ al_w ∧ Cond.instanceMethod (ym a) ∈ al_w ∧ Cond.selects "ThrowFlow" (ym a) (ym a) ∈ al_w ∧ Cond.initialized "ThrowFlow" ∈ al_w ∧ (parseMethodDescriptor (ym a).desc).map (fun d => d.parameters.length) = some n
/-- the first of the clauses that takes class x has its handler at h -/
def hsl (pc x h : Nat) : List (Nat × Nat × Nat × Nat) → Prop
  | [] => False
  | (a, b, hp, ct) :: t => (a ≤ pc ∧ pc < b) ∧ ct ≠ 0 ∧ ∃ y, y < 4 ∧ Cond.classLink "ThrowFlowLaw" ct (exn y) ∈ al_w ∧ ((y = x ∧ hp = h) ∨ (x ≠ y ∧ hsl pc x h t))
theorem hsl_ok {e : Env} {s : State} {args : Array Value} {d th : ClassId} {pc x h : Nat} (hpl : e.platform.magicAccessors = ({} : Platform).magicAccessors) (hown : s.vm.findClass "ThrowFlowLaw" = some d) (hts : ∀ w ∈ al_w, w.before args s = true) (hX : stX s) (hx : x < 4) (hth : s.vm.findClass (exn x) = some th) : ∀ (t : List ExceptionTableEntry) (hh : List (Nat × Nat × Nat × Nat)), t.map (fun h => (h.startPc, h.endPc, h.handlerPc, h.catchType)) = hh → hsl pc x h hh → hs_ok e.platform s d pc th h t
  | [], hh, hm, hl => by
    subst hm
    exact hl.elim
  | z :: t, hh, hm, hl => by
    subst hm
    obtain ⟨⟨h1, h2⟩, h3, y, hy, hlk, h4⟩ := hl
    obtain ⟨c', hc', hcl⟩ := Cond.classLink_spec hown (hts _ hlk) e.platform hpl
    obtain ⟨c, tt, k1, k2, k3⟩ := hX.2.1 x y hx hy
    cases hth.symm.trans k1
    cases hc'.symm.trans k2
    refine ⟨?_, h3, c', hcl, ?_⟩
    · simp only [covers, Bool.and_eq_true, decide_eq_true_eq]
      exact ⟨h1, h2⟩
    · rcases h4 with ⟨rfl, h5⟩ | ⟨h5, h6⟩
      · rw [decide_eq_true rfl] at k3
        exact Or.inl ⟨k3, h5⟩
      · rw [decide_eq_false h5] at k3
        exact Or.inr ⟨k3, hsl_ok hpl hown hts hX hx hth t _ rfl h6⟩
theorem allI_ok : ∀ {as : List PV}, allI as → ∀ v ∈ as, okv v ∧ nlg v = true
  | [], _, v, h => by cases h
  | .inl x :: l, hl, v, h => by
    rcases List.mem_cons.mp h with rfl | h
    · exact ⟨trivial, rfl⟩
    · exact allI_ok (as := l) hl v h
  | .inr (.inl _) :: l, hl, v, h => hl.elim
  | .inr (.inr _) :: l, hl, v, h => hl.elim
set_option maxHeartbeats 4000000 in
theorem w_inv {l : Launch} (hfl : l.flags = pinnedFlags ++ [noTraceFlag]) {p : Program} {e : Env} {R : Room} {s : State} {m : MethodId} {args : Array Value} {below : List Frame} {meth : Method} {c : Code} {Qf : State → Prop} {cc : ByteArray} {nL pc i a : Nat} {lsA : Array Slot} {D : va_G} {q : Nat → Nat → Nat} {ca : Nat → ClassId} {xs : Nat → Int32} {L : Nat} {μ : PM} {as : List PV} {rest : List Value} {Q : Nat → Option PV → PM → Prop} {hh : List (Nat × Nat × Nat × Nat)} {hnd : Nat → Nat}
    (hx : p.tables.exec = Jvm.exec) (hb : c.code = cc) (hml : c.maxLocals = nL) (hown : s.vm.findClass "ThrowFlowLaw" = some m.cls) (hts : ∀ w ∈ al_w, w.before args s = true) (hK : Kp D ca s) (hX : stX s) (hw : wd D q ca μ s.heap) (hq : qij q) (hM : mX xs L μ)
    (hexc : c.exceptionTable.toList.map (fun h => (h.startPc, h.endPc, h.handlerPc, h.catchType)) = hh) (hok : okW a i as.length) (hal : allI as) (hlen : as.length + 1 ≤ mxl a) (hC : Ct a (pR 0 0 :: as) μ Q)
    (hsz : lsA.size = nL) (hrest : (rest.map fun v => v.category).sum ≤ 8) (hdg : decode cc pc = .ok (.invokevirtual i, 3)) (hR : 9 ≤ R.frames ∧ 8 + (mxl a + 11) + (lcm a + 100) ≤ R.locals ∧ 1 ≤ R.cells ∧ 6 ≤ R.slots)
    (hh9 : ∀ x r μ2, Q (x + 1) r μ2 → x < 4 ∧ hsl pc x (hnd x) hh)
    (kr : ∀ r μ2 H' locs', Q 0 r μ2 → wd D q ca μ2 H' → va_S (Aw q) s.heap H' locs' → mX xs L μ2 → W p l e R s m args below meth c H' locs' 0 0 Qf (F0 m (pc + 3) lsA ((r.map (tr q)).toList ++ rest)))
    (kt : ∀ x r μ2 H' locs' b, Q (x + 1) r μ2 → wd D q ca μ2 H' → va_S (Aw q) s.heap H' locs' → mX xs L μ2 → W p l e R s m args below meth c H' locs' 1 6 Qf (F0 m (hnd x) lsA [.ref b])) :
    W p l e R s m args below meth c s.heap [] 0 0 Qf (F0 m pc lsA ((as.map (tr q)).reverse ++ .ref (q 0 0) :: rest)) := by
  obtain ⟨nn, pce, lse, ste, μ1, x, r, hr, hp, hQ⟩ := hC
  obtain ⟨⟨hokm, hlaw, hdep, hcl⟩, wl, wi, wse, wini, hnp⟩ := hok
  have hv0 : vld 0 0 := ⟨by decide, Or.inl ⟨by decide, rfl⟩⟩
  have hoa : ∀ v ∈ pR 0 0 :: as, okv v ∧ nlg v = true := fun v h => by
    rcases List.mem_cons.mp h with rfl | h
    · exact ⟨Or.inl hv0, rfl⟩
    · exact allI_ok hal v h
  have hob := wd_obj hw hv0 (by decide)
  have hrecv : ∃ cellB : Cell, s.heap[q 0 0]? = some cellB ∧ cellB.vm.isStatics = false ∧ s.vm.findClass "ThrowFlow" = some cellB.cls := by
    obtain ⟨r9, r1, cell, g1, g2, g3, -⟩ := hob
    have r1' : r9 = ("ThrowFlow", TC0, 3) := by cases r1; rfl
    exact ⟨cell, g1, by rw [g3]; rfl, by rw [g2]; exact (hK.1 0 _ rfl).2.1⟩
  have hroomL : 2 * (F0 m pc lsA rest).monitorRoom + (rest.map fun v => v.category).sum ≤ 8 := by show 2 * 0 + _ ≤ 8; omega
  cases x with
  | zero =>
    have hmet := met_of (D := D) (ca := ca) (snd_all l nn) hq hlaw hokm hr hp hoa (by simpa using hlen) hM
    have hn : (parseMethodDescriptor (ym a).desc).map (fun d => d.parameters.length) = some (as.map (tr q)).length := by rw [hnp]; simp
    have hG : GoodIn al_w (wsV "ThrowFlowLaw" i "ThrowFlow" (ym a) (wsA a)) := gd_w (fun w h => by
      unfold wsV at h
      rcases List.mem_append.mp h with h | h
      · simp only [List.mem_cons, List.not_mem_nil, or_false] at h
        rcases h with rfl | rfl | rfl | rfl
        · exact wl
        · exact wi
        · exact wse
        · exact wini
      · rcases List.mem_cons.mp h with rfl | h
        · exact hokm.2.2.1
        · exact h)
    have hroom : (rmo a).frames + 1 ≤ R.frames ∧ 8 + (mxl a + 11) + (rmo a).locals ≤ R.locals := by
      show dep a + 1 ≤ R.frames ∧ 8 + (mxl a + 11) + lcm a ≤ R.locals
      omega
    have hrun := va_runV (p := p) (e := e) (below := below) (meth := meth) (As := as.map (tr q)) (b := q 0 0) (rest := rest) (g := F0 m pc lsA ((as.map (tr q)).reverse ++ .ref (q 0 0) :: rest)) (locs := []) (cells := 0) (slots := 0) ⟨hx, hb, hml, hown, hts⟩ hmet (cwV (as.map (tr q)).length hts hG rfl rfl rfl ⟨hcl, hokm.2.2.2.2.1, hokm.2.2.2.2.2, hn⟩ hroom) ⟨Pcm_blind, hrecv, fun U hU hW => ⟨rfl, by rw [hU]; exact hw, Kp.moved hW.alike hK⟩⟩ rfl rfl hsz rfl hroomL hdg ⟨Nat.zero_le _, Nat.zero_le _⟩
    exact call_go hrun va_S.rf (fun t m h => ⟨t, m, h, rfl⟩) (fun H' locs' hw' hS' hM' _ => kr r μ1 H' locs' hQ hw' hS' hM')
  | succ x =>
    obtain ⟨hx4, hhs⟩ := hh9 x r μ1 hQ
    have hthr := thr_of hfl (D := D) (ca := ca) (snd_all l nn) hq hlaw hokm hdep hr hp hx4 hoa (by simpa using hlen) hM
    intro T hT X
    obtain ⟨mk, methM, hnamed, hmethM, hstM, habM⟩ := Cond.instanceMethod_spec (hts _ wi)
    obtain ⟨methM', cM, hmethM', hcM, -, hlM, -, -, -, hsigM⟩ := Cond.code_spec hnamed (hts _ hokm.2.2.1)
    cases hmethM.symm.trans hmethM'
    obtain ⟨c2, r2, m2, q1, q2, q3, q4, kP, hkP, hkPi⟩ := Cond.selects_spec (hts _ wse)
    obtain ⟨cellB, hcB, hoB, hclB⟩ := hrecv
    cases hclB.symm.trans q1
    have hy : (ym a).cls ≠ "java/lang/invoke/MethodHandle" ∧ (ym a).cls ≠ "java/lang/invoke/VarHandle" := hokm.2.2.2.2
    cases (State.methodFound?_of_named hnamed hy).symm.trans q2
    cases hnamed.symm.trans q3
    have hselP : selectMethod e.platform s.vm cellB.cls mk = .method mk := by rw [Launch.admits_selectMethod X.admits]; exact q4
    have hlenA : (as.map (tr q)).length = methM.sig.parameters.length := by
      rw [hsigM] at hnp
      have : methM.sig.parameters.length = as.length := Option.some.inj hnp
      rw [this]; simp
    obtain ⟨vm₁, X₁, hstep₁⟩ := X.invokevirtual hx hown (hts _ wl) hnamed hmethM hstM hkP hkPi hy (a := q 0 0) (cell := cellB) (by rw [hT]; exact hcB) (fun z h => by rw [h] at hoB; cases hoB) hselP hmethM habM hkP hkPi (g := F0 m pc lsA ((as.map (tr q)).reverse ++ .ref (q 0 0) :: rest)) rfl (argsL := as.map (tr q)) (rest := rest) hlenA rfl (by rw [hb]; exact hdg)
    have hW₁ : s.WarmedH (T.setVm vm₁).vm := X₁.warmed
    have hnU := X₁.named hnamed
    obtain ⟨kY, hkY, -⟩ := className_of_methodNamed hnU
    have hinitY : kY.init = .initialized := Cond.initialized_spec (findClass_of_methodNamed hnU) hkY (args := #[]) (first := T.setVm vm₁) (o := none) (idx := []) (by rw [hcl]; exact word_at hW₁ (good_of_word (List.mem_filter.mp wini).2) (hts _ wini))
    have hpre : (headSpec (wsA a) (rmT a)).pre.before ((pR 0 0 :: as).map (tr q)).toArray (T.setVm vm₁) = true := atoms_intro fun w hw => by
      have hin : w ∈ al_w := by
        rcases List.mem_cons.mp hw with rfl | h
        · exact hokm.2.2.1
        · exact h
      exact word_at hW₁ (good_of_word (List.mem_filter.mp hin).2) (hts _ hin)
    have hdg' : decode c.code (F0 m pc lsA rest).pc = .ok (.invokevirtual i, 3) := by rw [hb]; exact hdg
    have happ : (headSpec (wsA a) (rmT a)).appliesLoose (ym a) e.platform ((T.setVm vm₁).calling (F0 m pc lsA rest) mk ((pR 0 0 :: as).map (tr q)).toArray) = true :=
      Spec.appliesLoose_calling (g := F0 m pc lsA rest) X₁.here hdg' hnU hkY hinitY
        (X₁.room_calling (g := F0 m pc lsA rest) (R' := rmT a) (hsz.trans hml.symm) ((X₁.warmed.alike.method? mk).trans hmethM) hcM (by show 8 + 1 ≤ R.frames; omega) (by rw [hlM]; show 2 * 0 + (rest.map fun v => v.category).sum + (mxl a + 11) + (lcm a + 100) ≤ R.locals; omega) (by show 0 + 1 ≤ R.cells; omega) (by show 0 + 6 ≤ R.slots; omega)) hpre
    obtain ⟨mid, hmid⟩ := X₁.here.above
    have hfr : ((T.setVm vm₁).setTop (F0 m pc lsA rest)).frames = (.java (F0 m pc lsA rest) :: mid) ++ below := by rw [State.frames_setTop' _ X₁.here.top, hmid]; rfl
    have hP : Pcx D q ca μ (pR 0 0 :: as) ((pR 0 0 :: as).map (tr q)).toArray ((T.setVm vm₁).calling (F0 m pc lsA rest) mk ((pR 0 0 :: as).map (tr q)).toArray) := by
      refine ⟨rfl, ?_, ?_, ?_⟩
      · show wd D q ca μ T.heap
        rw [hT]; exact hw
      · exact Kp.moved (u := s) hW₁.alike hK
      · refine stX.to (U := s) hW₁ ?_ hX
        show keepSt s.heap T.heap
        rw [hT]; exact fun _ _ h _ => h
    obtain ⟨o, s₂, hsteps, -, hend, hqq⟩ := Jvm.Free.Steps.callFree hthr p X.admits X.cas X.clock (acts := []) hfr happ hP trivial
    obtain ⟨b, ce, LL, rfl, w1, w2, w3, w4, w5, w6, w7, w8, w9⟩ := hqq
    rw [State.frames_setTop' _ X₁.here.top, X₁.tail] at hend
    obtain ⟨T', X', hWT, hsame', ht⟩ := X₁.outOfThrown (g := F0 m pc lsA rest) rfl hend w7 w8
    have hT' : T'.heap = s₂.heap := by rw [ht]; exact (Stand.throwing_heap T' _ b).symm
    have hcls : s.vm.findClass (exn x) = some ce.cls := by
      have w5' : (T.setVm vm₁).vm.findClass (exn x) = some ce.cls := w5
      rw [X₁.warmed.alike.findClass] at w5'
      exact w5'
    have hpl : e.platform.magicAccessors = ({} : Platform).magicAccessors := by rw [X.admits.platform]
    have hkk : ∃ k, s.vm.classes[ce.cls]? = some k := by
      obtain ⟨c1, kX, hc1, hk, -⟩ := Cond.instantiable_spec (ex_atoms hx4 hts hX (.instantiable (exn x) 6) (by simp [Bundle.ownAtoms]))
      cases hcls.symm.trans hc1
      exact ⟨kX, hk⟩
    obtain ⟨vm2, X2, st2⟩ := hs_catch X' (a := b) (g := F0 m pc lsA rest) rfl (cell := ce) (by rw [hT']; exact w3) (by rw [w4]; rfl) hkk (h := hnd x) (hsl_ok hpl hown hts hX hx4 hcls _ _ hexc hhs)
    obtain ⟨t, a1, b1⟩ := kt x r μ1 T'.heap LL b hQ (by rw [hT']; exact w1) ⟨by rw [hT']; have := w6.1; have h9 : T.heap.size ≤ s₂.heap.size := this; rw [hT] at h9; exact h9, fun z h1 h2 => by
      rw [hT']
      have h8 : s₂.heap[z]? = T.heap[z]? := w6.2 z (by show z < T.heap.size; rw [hT]; exact h1) h2
      rw [h8, hT], w9⟩ w2 (T'.setVm vm2) rfl (by simpa using X2)
    exact ⟨t, hstep₁ _ (fun acts => by rw [doInvoke_state]; exact hsteps.trans (by rw [ht]; exact st2 t a1)), b1⟩
