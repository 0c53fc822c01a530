/-! The class's methods where they throw. -/
def rmT (a : Nat) : Room := { frames := 8, cells := 1, slots := 6, locals := lcm a + 100 }
def Pcx (D : va_G) (q : Nat → Nat → Nat) (ca : Nat → ClassId) (μ : PM) (as : List PV) : Array Value → State → Prop := va_Pc (as.map (tr q)) (fun U => wd D q ca μ U.heap ∧ Kp D ca U ∧ stX U)
def Qthr (D : va_G) (q : Nat → Nat → Nat) (ca : Nat → ClassId) (xs : Nat → Int32) (L : Nat) (μ1 : PM) (x : Nat) : Array Value → State → Outcome → State → Prop := fun _ st o t => ∃ (b : Addr) (ce : Cell) (LL : List Loc), o = .threw b ∧ wd D q ca μ1 t.heap ∧ mX xs L μ1 ∧ t.heap[b]? = some ce ∧ ce.vm = .none ∧ st.vm.findClass (exn x) = some ce.cls ∧ va_F (Aw q) st t ∧ st.WarmedH t.vm ∧ st.sameButNew ({ t with vm := st.vm } : State) LL 1 6 ∧ ∀ z ∈ LL, Aw q z.base
/-- the world's cells are no statics -/
theorem wd_ns {D : va_G} {q : Nat → Nat → Nat} {ca : Nat → ClassId} {μ : PM} {H : Heap} (h : wd D q ca μ H) {a : Nat} (ha : Aw q a) {cell : Cell} (hc : H[a]? = some cell) : cell.vm.isStatics = false := by
  obtain ⟨t, m, hv, rfl⟩ := ha
  have := h t m hv
  unfold ent at this
  by_cases h1 : cn t < 90
  · rw [if_pos h1] at this
    obtain ⟨r, r1, cl, g1, g2, g3, -⟩ := this
    cases hc.symm.trans g1
    rw [g3]; rfl
  · rw [if_neg h1] at this
    by_cases h2 : cn t = 90
    · rw [if_pos h2] at this
      have this : H[q t m]? = some (vp_cell _ _) := this
      cases hc.symm.trans this
      rw [vp_cell_i]; rfl
    · rw [if_neg h2] at this
      by_cases h3 : cn t = 91
      · rw [if_pos h3] at this
        have this : H[q t m]? = some (vp_cell _ _) := this
        cases hc.symm.trans this
        rfl
      · rw [if_neg h3] at this
        have this : H[q t m]? = some (vp_cell _ _) := this
        cases hc.symm.trans this
        rw [vp_cell_l]; rfl
theorem keepSt_S {D : va_G} {q : Nat → Nat → Nat} {ca : Nat → ClassId} {μ : PM} {H0 H : Heap} {locs : List Loc} (hw : wd D q ca μ H0) (hS : va_S (Aw q) H0 H locs) : keepSt H0 H := by
  intro a cell h1 h2
  have hlt := (Array.getElem?_eq_some_iff.mp h1).1
  rw [hS.2.1 a hlt (fun z => by rw [wd_ns hw z h1] at h2; cases h2)]
  exact h1
theorem wd_keep {D : va_G} {q : Nat → Nat → Nat} {ca : Nat → ClassId} {μ : PM} {H H1 : Heap} (h : wd D q ca μ H) (hk : ∀ a, a < H.size → H1[a]? = H[a]?) : wd D q ca μ H1 := fun t m hv => (h t m hv).kept (hk _ (h t m hv).lt)
set_option maxHeartbeats 4000000 in
theorem thr_of {l : Launch} (hfl : l.flags = pinnedFlags ++ [noTraceFlag]) {n : Nat} (hS : SND l n) {D : va_G} {q : Nat → Nat → Nat} {ca : Nat → ClassId} {xs : Nat → Int32} {L : Nat} (hq : qij q) {a : Nat} (hl : a ≠ lawi) (hok : okM a) (hdep : dep a ≤ 8) {as : List PV} {μ μ1 : PM} {pce x : Nat} {lse : PL} {ste : List PV} {r : Option PV} (hr : prun n a 0 (pen as (mxl a)) [] μ = some (pce, lse, ste, μ1)) (hp : pret a pce ste = some (x + 1, r)) (hx4 : x < 4) (has : ∀ v ∈ as, okv v ∧ nlg v = true) (hlen : as.length ≤ mxl a) (hM : mX xs L μ) :
    Jvm.Free.MetFree l (ym a) (headSpec (wsA a) (rmT a)) (Pcx D q ca μ as) (fun _ _ _ _ _ => True) (Qthr D q ca xs L μ1 x) := by
  have hsite : okT a pce x ∧ ste = [] := by
    cases hc : cd a pce with
    | none => unfold pret at hp; rw [hc] at hp; cases hp
    | some en =>
      obtain ⟨op, u1, u2, u3⟩ := en
      have hk := ok_all a pce op u1 u2 u3 hc
      unfold pret at hp
      rw [hc] at hp
      split at hp
      next heq =>
        split at hp
        next => cases hp
        next => cases hp
      next heq =>
        split at hp
        next => split at hp <;> cases hp
        next => cases hp
      next heq =>
        split at hp
        next => cases hp
        next => cases hp
      next heq =>
        split at hp
        next => cases hp
        next => cases hp
      next heq =>
        cases heq
        split at hp
        next => cases hp; exact ⟨hk, rfl⟩
        next => cases hp
      next => cases hp
  obtain ⟨hsite, rfl⟩ := hsite
  refine Jvm.Free.MetFree.of_bodyS (code := bm a) (maxLocals := mxl a) (ret := rtm a) hok.1 ?_ ?_
  · intro args s m h hn
    obtain ⟨meth, c, h1, h2, h3, h4, h5, h6, -, -⟩ := Cond.code_spec hn (atoms_spec (ws := wsA a) h _ List.mem_cons_self)
    exact ⟨meth, c, h1, h2, h3, h4, h5, h6⟩
  intro p e s m args below meth c s₁ B hml hv _
  obtain ⟨rfl, hw, hK, hX⟩ := hv
  have hts := atoms_spec (ws := wsA a) B.pre
  have hown : s.vm.findClass (om a) = some m.cls := by rw [← hok.2.1]; exact findClass_of_methodNamed B.named
  have C0 : Cx p s m (as.map (tr q)).toArray c a D ca := ⟨B.exec, B.bytes, hml, hown, fun w h => hts w (List.mem_cons_of_mem _ h), hK⟩
  have hl0 := lv_entry (as.map (tr q)) (n := mxl a) (by rw [lg_len as (fun w h => (has w h).2)]; exact hlen)
  have hempty : c.exceptionTable.isEmpty = true := by
    obtain ⟨meth', c', h1, h2, -, -, -, -, h7, -⟩ := Cond.code_spec B.named (hts _ List.mem_cons_self)
    cases B.method.symm.trans h1
    cases (Stand.of_body B).code.symm.trans h2
    exact h7
  have hlocks := B.notSynchronized
  have htr : e.platform.stackTraces = false := Launch.traces_off hfl B.admits
  have key : W p l e (rmT a) s m (as.map (tr q)).toArray below meth c s.heap [] 0 0 (fun t => ∃ o, t.status = .running ∧ Ended t below o ∧ Qthr D q ca xs L μ1 x (as.map (tr q)).toArray s o t) (entryFrame m (as.map (tr q)).toArray (mxl a)) := by
    rw [lg_entry_eq]
    generalize (lg_sl (as.map (tr q)) ++ List.replicate (mxl a - (lg_sl (as.map (tr q))).length) Slot.unset).toArray = lsA at hl0 ⊢
    have hlk : lok q (pen as (mxl a)) lsA (mxl a) := by
      refine ⟨hl0.1, hl0.2.1, fun k v h => ?_⟩
      obtain ⟨h1, -⟩ := pen_at as (mxl a) k v h
      have h2 := args_in (q := q) as 0 k v (fun w h => (has w h).2) h1
      rw [Nat.zero_add] at h2
      exact ⟨hl0.2.2 (k, tr q v) h2, has v (List.mem_of_getElem? h1)⟩
    refine hS hq a 0 _ [] μ pce lse [] μ1 hr (R := rmT a) (A := Aw q) C0 ⟨hdep, Nat.le_add_right _ _⟩ ⟨Nat.zero_le _, Nat.zero_le _⟩ hlk (fun v h => by cases h) hw va_S.rf (fun t m h => ⟨t, m, h, rfl⟩) (fun z => absurd z hl) hM ?_
    intro H' locs' lsB hz _ hw' hS' hM'
    intro T hT X
    have X' := st_base X (Nat.zero_le _) (Nat.zero_le _)
    have hW1 : s.WarmedH (T.setFrames (.invoking m (as.map (tr q)).toArray :: below)).vm := X.warmed
    have hX' : stX (T.setFrames (.invoking m (as.map (tr q)).toArray :: below)) := stX.to hW1 (by show keepSt s.heap T.heap; rw [hT]; exact keepSt_S hw hS') hX
    have C1 : Cx p (T.setFrames (.invoking m (as.map (tr q)).toArray :: below)) m (as.map (tr q)).toArray c a D ca := ⟨C0.1, C0.2.1, C0.2.2.1, by show T.vm.findClass _ = _; rw [X.warmed.alike.findClass]; exact hown, fun w h => word_at hW1 (good_of_word (List.mem_filter.mp h).2) (C0.2.2.2.2.1 w h), Kp.moved hW1.alike hK⟩
    obtain ⟨U, st, g1, g2, g3, g4, ce, g5, g6, g7⟩ := thr_site (H := T.heap) (l := l) (below := below) (meth := meth) (lsA := lsB) htr C1 hX' hx4 hsite hempty hlocks hz.1 (by show 6 ≤ 8 ∧ 90 ≤ lcm a + 100 ∧ 1 ≤ 1 - 0 ∧ 6 ≤ 6 - 0; omega) T rfl X'
    have hsz : s.heap.size ≤ T.heap.size := by rw [hT]; exact hS'.1
    have hUh : ∀ z, z < T.heap.size → U.heap[z]? = T.heap[z]? := by
      intro z hz
      obtain ⟨cl, hcl⟩ : ∃ cl, T.heap[z]? = some cl := ⟨T.heap[z], Array.getElem?_eq_getElem hz⟩
      obtain ⟨cl', h1, h2, h3, h4⟩ := g4.2.2.2.2.2 z cl hcl
      have h1' : U.heap[z]? = some cl' := h1
      rw [h1', hcl]
      have : cl'.slots = cl.slots := Array.ext_getElem? (fun i => h4 i (by simp))
      rw [h2, this]
    have gw : T.sameButNew (U.setVm T.vm) [] 1 6 := by
      obtain ⟨e1, e2⟩ := g4
      refine ⟨?_, e2⟩
      have e3 : (T.setFrames (.invoking m (as.map (tr q)).toArray :: below)).setFrames ({ U with vm := (T.setFrames (.invoking m (as.map (tr q)).toArray :: below)).vm } : State).frames = T.setFrames (U.setVm T.vm).frames := State.setFrames_setFrames _ _ _
      rw [e3] at e1
      exact e1
    refine ⟨U, st, .threw T.heap.size, g1, g2, T.heap.size, ce, locs' ++ [], rfl, wd_keep (by rw [hT]; exact hw') hUh, hM', g5, g6, by rw [← X.warmed.alike.findClass]; exact g7, ⟨?_, ?_⟩, State.WarmedH.trans X.warmed g3, ?_, ?_⟩
    · have h1 := g4.2.1
      have h1' : T.heap.size ≤ U.heap.size := h1
      omega
    · intro z hz hA
      rw [hUh z (by omega), hT]
      exact hS'.2.1 z hz hA
    · exact X.same.trans (gw.setVm s.vm)
    · intro z hz
      rw [List.append_nil] at hz
      exact hS'.2.2 z hz
  obtain ⟨t, a1, o, b1, b2, b3⟩ := key s₁ (by rw [B.state]; rfl) (Stand.of_body B)
  exact ⟨t, o, a1, b1, b2, b3⟩
