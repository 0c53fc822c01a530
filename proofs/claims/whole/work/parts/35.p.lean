/-! What a throw rests on beside the tables' words; an invocation looked at anew from where it stands. -/
def ex_names : List String := ["java/lang/RuntimeException", "java/lang/Exception"]
def cstV (A B : String) (b : Bool) (U : State) : Prop := ∃ (c t : ClassId), U.vm.findClass A = some c ∧ U.vm.findClass B = some t ∧ U.vm.assignable c t = b
theorem cstV.to {A B : String} {b : Bool} {U V : State} (hal : U.vm.Alike V.vm) (h : cstV A B b U) : cstV A B b V := by
  obtain ⟨c, t, h1, h2, h3⟩ := h
  exact ⟨c, t, by rw [hal.findClass]; exact h1, by rw [hal.findClass]; exact h2, by rw [hal.assignable]; exact h3⟩
def stF (fn fd : String) (U : State) : Prop := ∃ (c : ClassId) (k : Class) (i : Nat) (f : Field) (aS : Nat) (cell : Cell) (u : Value), U.vm.findClass Bundle.tN = some c ∧ U.fieldFound? Bundle.tN fn fd = some (c, k, i, f) ∧ f.isStatic = true ∧ k.statics = some aS ∧ U.heap[aS]? = some cell ∧ cell.vm.isStatics = true ∧ cell.cls = c ∧ f.slot < cell.slots.size ∧ k.staticTypes[f.slot]? = some f.type ∧ cell.slots[f.slot]? = some u ∧ (u = .null ∨ ∃ a, u = .ref a)
/-- the cells of statics stay -/
def keepSt (H H1 : Heap) : Prop := ∀ (a : Nat) (cell : Cell), H[a]? = some cell → cell.vm.isStatics = true → H1[a]? = some cell
theorem stF.to {fn fd : String} {U V : State} (hal : U.vm.Alike V.vm) (hk : keepSt U.heap V.heap) (h : stF fn fd U) : stF fn fd V := by
  obtain ⟨c, k, i, f, aS, cell, u, h1, h2, h3, h4, h5, h6, h7, h8, h9, h10, h11⟩ := h
  obtain ⟨k', g1, g2⟩ := State.fieldFound?_setVm (s := U) hal h2
  exact ⟨c, k', i, f, aS, cell, u, by rw [hal.findClass]; exact h1, g1, h3, by rw [g2]; exact h4, hk aS cell h5 h6, h6, h7, h8, by rw [g2]; exact h9, h10, h11⟩
theorem stF.lays {fn fd : String} {U : State} {A : Array Value} (h : stF fn fd U) : (Cond.laysStatic Bundle.tN fn fd).before A U = true := by
  obtain ⟨c, k, i, f, aS, cell, u, h1, h2, h3, h4, h5, h6, h7, h8, h9, h10, h11⟩ := h
  simp [Cond.before, Cond.holds, Cond.value, h1, h2, h3, h4, h5, h6, h7, h8, h9]
theorem stF.isR {fn fd : String} {U : State} {A : Array Value} (h : stF fn fd U) : (Cond.isRef (.static Bundle.tN fn fd)).before A U = true := by
  obtain ⟨c, k, i, f, aS, cell, u, h1, h2, h3, h4, h5, h6, h7, h8, h9, h10, h11⟩ := h
  have he : (Term.static Bundle.tN fn fd).eval A U none [] U = some u := by simp [Term.eval, State.fieldNamed?, h2, h3, h4, h5, h6, h10]
  simp only [Cond.before, Cond.holds, Cond.value, he]
  rcases h11 with rfl | ⟨a, rfl⟩ <;> simp
def stX (U : State) : Prop := ((Cond.declares (Bundle.initS "java/lang/RuntimeException")).before #[] U = true ∧ (Cond.declares (Bundle.initS "java/lang/Exception")).before #[] U = true ∧ (Cond.declares (Bundle.initS Bundle.tN)).before #[] U = true) ∧ (∀ x y, x < 4 → y < 4 → cstV (exn x) (exn y) (decide (x = y)) U) ∧ stF "UNASSIGNED_STACK" Bundle.steD U ∧ stF "SUPPRESSED_SENTINEL" Bundle.listD U ∧ ∀ sx tx, (sx, tx) ∈ xstr → (Cond.stringRef "ThrowFlow" sx tx).before #[] U = true
theorem stX.to {U V : State} (hW : U.WarmedH V.vm) (hk : keepSt U.heap V.heap) (h : stX U) : stX V := by
  obtain ⟨⟨d1, d2, d3⟩, h2, h3, h4, h5⟩ := h
  have hs : ∀ sx tx, (Cond.stringRef "ThrowFlow" sx tx).before #[] U = true → (Cond.stringRef "ThrowFlow" sx tx).before #[] V = true := by
    intro sx tx h
    have h1 := Cond.stringRef_warmed (args := #[]) hW h
    simp only [Cond.before, Cond.holds, Cond.value] at h1 ⊢
    exact h1
  exact ⟨⟨va_Nw.warmD hW d1, va_Nw.warmD hW d2, va_Nw.warmD hW d3⟩, fun x y hx hy => (h2 x y hx hy).to hW.alike, h3.to hW.alike hk, h4.to hW.alike hk, fun sx tx hm => hs sx tx (h5 sx tx hm)⟩
theorem ex_str {own tx : String} {k : Nat} {A : Array Value} {U : State} (h : (Cond.stringRef own k tx).before A U = true) : ∃ a, (Term.string own k).eval #[] U none [] U = some (.ref a) := by
  simp only [Cond.before, Cond.holds, Cond.value] at h
  cases hc : U.vm.findClass own with
  | none => simp [hc] at h
  | some cur =>
    simp only [hc] at h
    cases hr : U.resolvedAt? own k with
    | none => simp [hr] at h
    | some r =>
      cases r with
      | string a =>
        refine ⟨a, ?_⟩
        simp only [State.resolvedAt?, hc] at hr
        cases hk : U.vm.classes[cur]? with
        | none => simp [hk] at hr
        | some kk => simp [hk] at hr; simp [Term.eval, hc, hk, hr]
      | _ => simp [hr] at h
def ex_bad (x : Nat) : List Cond := [.declares (Bundle.initS "java/lang/RuntimeException"), .declares (Bundle.initS "java/lang/Exception"), .declares (Bundle.initS Bundle.tN), .castable (exn x) (exn x), .laysStatic Bundle.tN "UNASSIGNED_STACK" Bundle.steD, .laysStatic Bundle.tN "SUPPRESSED_SENTINEL" Bundle.listD, .isRef (.static Bundle.tN "UNASSIGNED_STACK" Bundle.steD), .isRef (.static Bundle.tN "SUPPRESSED_SENTINEL" Bundle.listD)]
def ex_in (x : Nat) : Bool := (Bundle.ownAtoms "ThrowFlow" (exi x) (exn x) ex_names).all (fun w => (goodWord w && decide (w ∈ lw_tbl)) || decide (w ∈ ex_bad x))
theorem ex_in0 : ex_in 0 = true := by decide +kernel
theorem ex_in1 : ex_in 1 = true := by decide +kernel
theorem ex_in2 : ex_in 2 = true := by decide +kernel
theorem ex_in3 : ex_in 3 = true := by decide +kernel
theorem ex_atoms {x : Nat} (hx : x < 4) {args : Array Value} {s : State} (hts : ∀ w ∈ al_w, w.before args s = true) (hX : stX s) : ∀ w ∈ Bundle.ownAtoms "ThrowFlow" (exi x) (exn x) ex_names, w.before args s = true := by
  have h0 : ex_in x = true := by
    match x, hx with
    | 0, _ => exact ex_in0
    | 1, _ => exact ex_in1
    | 2, _ => exact ex_in2
    | 3, _ => exact ex_in3
  intro w hw
  have h1 := List.all_eq_true.mp h0 w hw
  rw [Bool.or_eq_true, Bool.and_eq_true, decide_eq_true_eq, decide_eq_true_eq] at h1
  rcases h1 with ⟨g1, g2⟩ | h1
  · exact hts w (List.mem_filter.mpr ⟨g2, g1⟩)
  · obtain ⟨⟨d1, d2, d3⟩, h2, h3, h4, h5⟩ := hX
    have dc : ∀ y, (Cond.declares y).before #[] s = true → (Cond.declares y).before args s = true := fun y h => va_tabs rfl rfl h
    simp only [ex_bad, List.mem_cons, List.not_mem_nil, or_false] at h1
    rcases h1 with rfl | rfl | rfl | rfl | rfl | rfl | rfl | rfl
    · exact dc _ d1
    · exact dc _ d2
    · exact dc _ d3
    · obtain ⟨c, t, k1, k2, k3⟩ := h2 x x hx hx
      rw [decide_eq_true rfl] at k3
      simp [Cond.before, Cond.holds, Cond.value, k1, k3]
      cases k1.symm.trans k2
      exact k3
    · exact h3.lays
    · exact h4.lays
    · exact h3.isR
    · exact h4.isR
theorem ex_i0 : Cond.initialized "java/lang/IllegalArgumentException" ∈ al_w := in_w 57 (by decide +kernel) rfl
theorem ex_i1 : Cond.initialized "java/lang/UnsupportedOperationException" ∈ al_w := in_w 58 (by decide +kernel) rfl
theorem ex_i2 : Cond.initialized "java/lang/IndexOutOfBoundsException" ∈ al_w := in_w 59 (by decide +kernel) rfl
theorem ex_i3 : Cond.initialized "java/lang/IllegalStateException" ∈ al_w := in_w 61 (by decide +kernel) rfl
section P35
variable {p : Program} {l : Launch} {e : Env} {R : Room} {s : State} {m : MethodId} {args : Array Value} {below : List Frame} {meth : Method} {c : Code} {T : State} {locs : List Loc} {cells slots : Nat}
/-- an invocation, looked at as if it began where it stands -/
theorem st_base (X : Stand p l e R s m args below meth c T locs cells slots) (hc : cells ≤ R.cells) (hs : slots ≤ R.slots) : Stand p l e { R with cells := R.cells - cells, slots := R.slots - slots } (T.setFrames (.invoking m args :: below)) m args below meth c T [] 0 0 := by
  obtain ⟨g0, hf0⟩ := X.frames_eq
  obtain ⟨th, hth, -⟩ := State.frames_cons hf0
  have hcur : T.cur < T.threads.size := (Array.getElem?_eq_some_iff.mp hth).1
  have hfr : (T.setFrames (.invoking m args :: below)).frames = .invoking m args :: below := State.frames_setFrames _ hcur
  have hm' : (T.setFrames (.invoking m args :: below)).vm.method? m = some meth := X.method'
  obtain ⟨r1, r2, r3, r4⟩ := State.hasRoom_stack X.room
  have r5 := State.hasRoom_real X.room
  have r6 := State.hasRoom_plain X.room
  have hroom := X.room
  simp only [State.hasRoom, Bool.and_eq_true, decide_eq_true_eq] at hroom
  have hl1 := State.localsInUse_invoking X.frames X.method X.code
  have hl2 := State.localsInUse_invoking hfr hm' X.code
  rw [X.frames] at r1 r2
  refine ⟨X.admits, X.cas, X.clock, hfr, ?_, ?_, hm', X.code, X.here, X.tail, State.WarmedH.refl _, by rw [State.stackLimits_setFrames], by rw [State.stackBytes_setFrames], ?_⟩
  · simp only [State.hasRoom, Bool.and_eq_true, decide_eq_true_eq]
    rw [hfr, hl2, State.stackLimits_setFrames, State.stackBytes_setFrames, X.limits, X.bytes]
    rw [hl1] at r3 r4 r5
    have h1 := X.heapSize
    have h2 := X.used
    have h3 : (T.setFrames (.invoking m args :: below)).slotsTrue = true := X.book
    refine ⟨⟨⟨⟨r5, r1, r2, r3, r4, r6⟩, ?_⟩, ?_⟩, h3⟩
    · show T.heap.size + (R.cells - cells) ≤ _
      have := hroom.1.1.2
      omega
    · show T.slotsUsed + (R.slots - slots) ≤ _
      have := hroom.1.2
      omega
  · have hh := X.hears
    have e1 : ∀ k, (T.setFrames (.invoking m args :: below)).vm.method? k = s.vm.method? k := fun k => X.warmed.alike.method? k
    have e2 : ∀ k, (T.setFrames (.invoking m args :: below)).code? k = s.code? k := fun k => by rw [State.code?_eq, State.code?_eq, e1]
    unfold State.hears at hh ⊢
    simp only [e1, e2]
    exact hh
  · have e1 : (T.setFrames (.invoking m args :: below)).setFrames T.frames = T := by rw [State.setFrames_setFrames, State.setFrames_self hth]
    refine ⟨?_, Nat.le_refl _, Nat.le_refl _, ?_, ?_, fun a cl h => ⟨cl, h, rfl, rfl, fun _ _ => rfl⟩⟩
    · show T = { (T.setFrames (.invoking m args :: below)).setFrames T.frames with heap := T.heap, slotsUsed := T.slotsUsed }
      rw [e1]
    · show T.slotsUsed = T.slotsUsed + ((T.heap.toList.drop T.heap.size).map (·.slots.size)).sum
      rw [List.drop_eq_nil_of_le (by simp)]; simp
    · show ((T.heap.toList.drop T.heap.size).map (·.slots.size)).sum ≤ 0
      rw [List.drop_eq_nil_of_le (by simp)]; simp
/-- a throw, where the walk has made and changed nothing -/
theorem thr_site {H : Heap} {mi pc x : Nat} {lsA : Array Slot} {D : va_G} {ca : Nat → ClassId} (htr : e.platform.stackTraces = false) (C0 : Cx p s m args c mi D ca) (hX : stX s) (hx4 : x < 4) (hT9 : okT mi pc x) (hout : c.exceptionTable.isEmpty = true) (hlocks : meth.locks = false) (hsz : lsA.size = mxl mi) (hR : 6 ≤ R.frames ∧ 90 ≤ R.locals ∧ 1 ≤ R.cells ∧ 6 ≤ R.slots) :
    W p l e R s m args below meth c s.heap [] 0 0 (fun U => U.status = .running ∧ Ended U below (.threw s.heap.size) ∧ s.WarmedH U.vm ∧ s.sameButNew ({ U with vm := s.vm } : State) [] 1 6 ∧ ∃ ce : Cell, U.heap[s.heap.size]? = some ce ∧ ce.vm = .none ∧ s.vm.findClass (exn x) = some ce.cls) (F0 m pc lsA []) := by
  obtain ⟨hx, hb, hml, hown, hts, hK⟩ := C0
  obtain ⟨hom, ix, sx, tx, d0, d3, d4, d6, d9, hcl, hstr⟩ := hT9
  rw [hom] at hown
  have hat := ex_atoms hx4 hts hX
  have hin : (Cond.instantiable (exn x) 6).before args s = true := hat _ (by simp [Bundle.ownAtoms])
  have hini : (Cond.initialized (exn x)).before args s = true := by
    refine hts _ ?_
    match x, hx4 with
    | 0, _ => exact ex_i0
    | 1, _ => exact ex_i1
    | 2, _ => exact ex_i2
    | 3, _ => exact ex_i3
  have hstr2 := hX.2.2.2.2 sx tx hstr
  obtain ⟨qs, hqs⟩ := ex_str hstr2
  refine W.newc hx hb hown (hts _ hcl) hin hini (g := F0 m pc lsA []) rfl d0 (by omega) (by omega) fun cC kC f1 f2 f3 f4 => ?_
  refine lv_dup (va := .ref s.heap.size) hx hb d3 rfl ?_
  refine va_ldcS hx hb hown ⟨hstr2, hqs⟩ d4 ?_
  intro T hT X
  have hexc : ∀ z ∈ c.exceptionTable.toList, covers z (pc + 6 + 3) = false := by
    intro z hz
    rw [Array.isEmpty_iff.mp hout] at hz
    simp at hz
  obtain ⟨U, st, g1, g2, g3, g4, ce, g5, g6⟩ := X.ctorThrowS hx htr (own := "ThrowFlow") (cls := exn x) (names := ex_names) (ic := exi x) hown (by match x, hx4 with | 0, _ => decide +kernel | 1, _ => decide +kernel | 2, _ => decide +kernel | 3, _ => decide +kernel) (by decide +kernel) hat (fun _ h => by cases h) (a := s.heap.size) f1 f2 (by rw [hT]; simp) (Nat.le_refl _) (msg := .ref qs) rfl (g := F0 m (pc + 6) lsA [.ref qs, .ref s.heap.size, .ref s.heap.size]) rfl (hsz.trans hml.symm) rfl rfl (rest := []) rfl (by rw [hb]; exact d6) (by rw [hb]; exact d9) hexc (by show 2 + 3 < R.frames; omega) (by show 2 * 0 + (1 + 0) + (13 * (2 + 1) + 42) ≤ R.locals; omega) hlocks
  exact ⟨U, st, g1, g2, g3, g4, ce, g5, g6.vm, g6.cls⟩
end P35
