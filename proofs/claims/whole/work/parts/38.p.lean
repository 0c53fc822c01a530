/-! The law's wrappers. -/
def QcW (D : va_G) (q : Nat → Nat → Nat) (ca : Nat → ClassId) (xs : Nat → Int32) (L : Nat) (P : Int32 → PM → Prop) : Array Value → State → Outcome → State → Prop := fun _ st o t => (∃ (y : Int32) (μ2 : PM), o = .returned (some (.int y)) ∧ P y μ2 ∧ wd D q ca μ2 t.heap ∧ mX xs L μ2) ∧ va_F (Aw q) st t
def rmW : Room := { frames := 9, cells := 1, slots := 6, locals := 262 }
theorem w_back (v : Int32) : v.toInt64.toInt32 = v := by simp
section WL
variable {p : Program} {l : Launch} {e : Env} {R : Room} {s : State} {m : MethodId} {args : Array Value} {below : List Frame} {meth : Method} {c : Code} {H : Heap} {locs : List Loc} {cells slots : Nat} {Q : State → Prop}
variable {pc : Nat} {ls : Array Slot} {rest : List Value} {D : va_G} {q : Nat → Nat → Nat} {ca : Nat → ClassId} {μ : PM} {A : Nat → Prop}
theorem w_last {cc : ByteArray} (hx : p.tables.exec = Jvm.exec) (hb : c.code = cc) (hK : Kp D ca s) (hw : wd D q ca μ H) (hq : qij q) (hS : va_S A s.heap H locs) (hA : A (q 34 0)) {v : Int32} (hdg : decode cc pc = .ok (.lastore, 1))
    (kk : ∀ (H1 : Heap) (locs1 : List Loc), wd D q ca (pu μ 34 0 0 v) H1 → va_S A s.heap H1 locs1 → W p l e R s m args below meth c H1 locs1 cells slots Q (F0 m (pc + 1) ls rest)) : W p l e R s m args below meth c H locs cells slots Q (F0 m pc ls (.long v.toInt64 :: .int 0 :: .ref (q 34 0) :: rest)) := by
  have hv : vld 34 0 := ⟨by decide, Or.inl ⟨by decide, rfl⟩⟩
  refine W.last hx hb (wd_lng hw hv) ((hK.2 1 _ rfl).1 1 (fun j => .long (μ 34 0 j).toInt64)) (fun q => by cases q) (by show ¬ ((0 : Int32) < 0 ∨ (arrV _ _ _).slots.size ≤ _); rw [arrV_size]; exact (vp_in_iff (x := 0) (n := 1)).mpr ⟨by decide, by decide⟩) rfl rfl hdg fun H1 e1 z oq => ?_
  refine kk H1 _ (hw.put hq hv ?_ oq) (hS.put z oq hA)
  unfold ent
  rw [if_neg (by decide), if_neg (by decide), if_neg (by decide)]
  show H1[q 34 0]? = some (vp_cell _ _)
  rw [e1, vp_cell_l, vp_cell_l, arrV_store]
  congr 2
  funext k
  by_cases hk : k = 0
  · subst hk
    simp [updV, pu]
  · have : ¬ k = (0 : Int32).toNatClampNeg := by simpa using hk
    simp [updV, pu, hk]
end WL
theorem wcl_13 : Cond.classLink "ThrowFlowLaw" 13 (exn 0) ∈ al_w := in_w 378 (by decide +kernel) rfl
theorem wcl_15 : Cond.classLink "ThrowFlowLaw" 15 (exn 1) ∈ al_w := in_w 379 (by decide +kernel) rfl
theorem wcl_21 : Cond.classLink "ThrowFlowLaw" 21 (exn 2) ∈ al_w := in_w 481 (by decide +kernel) rfl
theorem wcl_34 : Cond.classLink "ThrowFlowLaw" 34 (exn 3) ∈ al_w := in_w 560 (by decide +kernel) rfl
def yW0 : MethodName := ⟨"ThrowFlowLaw", "kind", "(LThrowFlow;I[J)I"⟩
def hhW0 : List (Nat × Nat × Nat × Nat) := [(0, 9, 12, 13), (0, 9, 15, 15)]
def wsW0 : List Cond := .codeWith yW0 method_3_code 4 (some .int) hhW0 :: al_w
set_option maxRecDepth 20000 in
theorem cwW0 : Cond.codeWith yW0 method_3_code 4 (some .int) hhW0 ∈ al_w := in_w 377 (by rfl) rfl
theorem okW0 : okW 0 7 1 := ⟨⟨okm_0, by decide, by decide, rfl⟩, in_w 380 (by decide +kernel) rfl, in_w 381 (by decide +kernel) rfl, in_w 382 (by decide +kernel) rfl, in_w 47 (by decide +kernel) rfl, by decide +kernel⟩
set_option maxHeartbeats 4000000 in
theorem metW0 {l : Launch} (hfl : l.flags = pinnedFlags ++ [noTraceFlag]) {D : va_G} {q : Nat → Nat → Nat} {ca : Nat → ClassId} {xs : Nat → Int32} {L : Nat} (hq : qij q) {μ : PM} {a1 : Int32} (hM : mX xs L μ) {P : Int32 → PM → Prop} (hWr : Wr 0 wK [pI a1] μ P) : Met l yW0 wsW0 rmW (Pcx D q ca μ [pR 0 0, pI a1, pR 34 0]) (QcW D q ca xs L P) 1 6 (Aw q) := by
  refine va_MetW (cc := method_3_code) (maxL := 4) (ret := some .int) (hh := hhW0) (by decide +kernel) rfl ?_
  intro p e s m args below meth c s₁ B hml hv
  obtain ⟨rfl, hw, hK, hX⟩ := hv
  have hts := atoms_spec (ws := wsW0) B.pre
  have hown : s.vm.findClass "ThrowFlowLaw" = some m.cls := findClass_of_methodNamed B.named
  have hx := B.exec
  have hb := B.bytes
  have hrt := B.returns
  have hlocks := B.notSynchronized
  have hexc : c.exceptionTable.toList.map (fun h => (h.startPc, h.endPc, h.handlerPc, h.catchType)) = hhW0 := by
    obtain ⟨m9, meth9, c9, hn9, h1, h2, -, -, h5, -⟩ := Cond.codeWith_spec (hts _ List.mem_cons_self)
    cases B.named.symm.trans hn9
    cases B.method.symm.trans h1
    cases (Stand.of_body B).code.symm.trans h2
    exact h5
  have hl0 := lv_entry (([pR 0 0, pI a1, pR 34 0] : List PV).map (tr q)) (n := 4) (by rw [lg_len _ (fun w h => by simp only [List.mem_cons, List.not_mem_nil, or_false] at h; rcases h with rfl | rfl | rfl <;> rfl)]; simp)
  rw [lg_entry_eq]
  generalize (lg_sl (([pR 0 0, pI a1, pR 34 0] : List PV).map (tr q)) ++ List.replicate (4 - (lg_sl (([pR 0 0, pI a1, pR 34 0] : List PV).map (tr q))).length) Slot.unset).toArray = lsA at hl0 ⊢
  have hl : lv_has lsA 4 [(0, .ref (q 0 0)), (1, .int a1), (2, .ref (q 34 0))] := hl0
  refine lv_aload_n (k := 2) hx hb (by decide +kernel) rfl (lv_at hl 2 rfl) ?_
  refine lv_iconst (n := 0) (v := 0) hx hb (by decide +kernel) rfl ?_
  refine lv_aload_n (k := 0) hx hb (by decide +kernel) rfl (lv_at hl 0 rfl) ?_
  refine lv_iload_n (k := 1) hx hb (by decide +kernel) rfl (lv_at hl 1 rfl) ?_
  refine w_inv hfl (a := 0) (i := 7) (as := [pI a1]) (rest := [.int 0, .ref (q 34 0)]) (hnd := fun x => if x = 0 then 12 else if x = 1 then 15 else 0) hx hb hml hown (fun w h => hts w (List.mem_cons_of_mem _ h)) hK hX hw hq hM hexc okW0 trivial (by show 1 + 1 ≤ mxl 0; decide) hWr hl.1 (by show 1 + (1 + 0) ≤ 8; omega) (by decide +kernel) (by show 9 ≤ 9 ∧ 8 + (mxl 0 + 11) + (lcm 0 + 100) ≤ 262 ∧ 1 ≤ 1 ∧ 6 ≤ 6; decide) ?_ ?_ ?_
  · intro x r μ2 hQ
    rcases hQ with ⟨h, -⟩ | ⟨y, hy, -⟩
    · omega
    · match x, hy with
      | 0, _ => exact ⟨by decide, ⟨by decide, by decide, 0, by decide, wcl_13, Or.inl ⟨rfl, rfl⟩⟩⟩
      | 1, _ => exact ⟨by decide, ⟨by decide, by decide, 0, by decide, wcl_13, Or.inr ⟨by decide, ⟨by decide, by decide, 1, by decide, wcl_15, Or.inl ⟨rfl, rfl⟩⟩⟩⟩⟩
      | 2, hy => cases hy
      | 3, hy => cases hy
      | n + 4, hy => cases hy
  · intro r μ2 H' locs' hQ hw' hS' hM'
    rcases hQ with ⟨-, v, rfl, hP⟩ | ⟨y, hy, -⟩
    · refine W.widen (Nat.zero_le 1) (Nat.zero_le 6) ?_
      refine lv_i2l hx hb (by decide +kernel) rfl ?_
      refine w_last hx hb hK hw' hq hS' ⟨34, 0, ⟨by decide, Or.inl ⟨by decide, rfl⟩⟩, rfl⟩ (by decide +kernel) (fun H1 locs1 hw1 hS1 => ?_)
      refine lv_goto (off := 9) (tgt := 18) hx hb (by decide +kernel) (by decide) ?_
      refine lv_iconst (n := 0) (v := 0) hx hb (by decide +kernel) rfl ?_
      exact W.iret (v := 0) hx hb hrt (fun t ht hW => ⟨⟨0, _, rfl, hP, by rw [ht]; exact hw1, hM'.put (by decide) (by decide)⟩, hS1.F ht⟩) hS1.2.2 (by decide +kernel)
    · cases hy
  · intro x r μ2 H' locs' b hQ hw' hS' hM'
    rcases hQ with ⟨h, -⟩ | ⟨y, hy, hP⟩
    · omega
    · match x, hy with
      | 0, hy =>
        cases hy
        show W _ _ _ _ _ _ _ _ _ _ _ _ _ _ _ (F0 m 12 lsA _)
        refine lv_astore_n (k := 3) hx hb (by decide +kernel) rfl hl (by decide) rfl (fun ls1 hl1 => ?_)
        refine lv_iconst (n := 1) (v := 1) hx hb (by decide +kernel) rfl ?_
        exact W.iret (v := 1) hx hb hrt (fun t ht hW => ⟨⟨1, _, rfl, hP, by rw [ht]; exact hw', hM'⟩, hS'.F ht⟩) hS'.2.2 (by decide +kernel)
      | 1, hy =>
        cases hy
        show W _ _ _ _ _ _ _ _ _ _ _ _ _ _ _ (F0 m 15 lsA _)
        refine lv_astore_n (k := 3) hx hb (by decide +kernel) rfl hl (by decide) rfl (fun ls1 hl1 => ?_)
        refine lv_iconst (n := 2) (v := 2) hx hb (by decide +kernel) rfl ?_
        exact W.iret (v := 2) hx hb hrt (fun t ht hW => ⟨⟨2, _, rfl, hP, by rw [ht]; exact hw', hM'⟩, hS'.F ht⟩) hS'.2.2 (by decide +kernel)
      | 2, hy => cases hy
      | 3, hy => cases hy
      | n + 4, hy => cases hy
def yW3 : MethodName := ⟨"ThrowFlowLaw", "add", "(LThrowFlow;IIII[J)I"⟩
def hhW3 : List (Nat × Nat × Nat × Nat) := [(0, 14, 17, 21), (0, 14, 21, 15), (0, 14, 25, 13)]
def wsW3 : List Cond := .codeWith yW3 method_4_code 7 (some .int) hhW3 :: al_w
set_option maxRecDepth 20000 in
theorem cwW3 : Cond.codeWith yW3 method_4_code 7 (some .int) hhW3 ∈ al_w := in_w 480 (by rfl) rfl
theorem okW3 : okW 3 17 4 := ⟨⟨okm_3, by decide, by decide, rfl⟩, in_w 482 (by decide +kernel) rfl, in_w 483 (by decide +kernel) rfl, in_w 484 (by decide +kernel) rfl, in_w 47 (by decide +kernel) rfl, by decide +kernel⟩
set_option maxHeartbeats 4000000 in
theorem metW3 {l : Launch} (hfl : l.flags = pinnedFlags ++ [noTraceFlag]) {D : va_G} {q : Nat → Nat → Nat} {ca : Nat → ClassId} {xs : Nat → Int32} {L : Nat} (hq : qij q) {μ : PM} {a1 a2 a3 a4 : Int32} (hM : mX xs L μ) {P : Int32 → PM → Prop} (hWr : Wr 3 wA [pI a1, pI a2, pI a3, pI a4] μ P) : Met l yW3 wsW3 rmW (Pcx D q ca μ [pR 0 0, pI a1, pI a2, pI a3, pI a4, pR 34 0]) (QcW D q ca xs L P) 1 6 (Aw q) := by
  refine va_MetW (cc := method_4_code) (maxL := 7) (ret := some .int) (hh := hhW3) (by decide +kernel) rfl ?_
  intro p e s m args below meth c s₁ B hml hv
  obtain ⟨rfl, hw, hK, hX⟩ := hv
  have hts := atoms_spec (ws := wsW3) B.pre
  have hown : s.vm.findClass "ThrowFlowLaw" = some m.cls := findClass_of_methodNamed B.named
  have hx := B.exec
  have hb := B.bytes
  have hrt := B.returns
  have hlocks := B.notSynchronized
  have hexc : c.exceptionTable.toList.map (fun h => (h.startPc, h.endPc, h.handlerPc, h.catchType)) = hhW3 := by
    obtain ⟨m9, meth9, c9, hn9, h1, h2, -, -, h5, -⟩ := Cond.codeWith_spec (hts _ List.mem_cons_self)
    cases B.named.symm.trans hn9
    cases B.method.symm.trans h1
    cases (Stand.of_body B).code.symm.trans h2
    exact h5
  have hl0 := lv_entry (([pR 0 0, pI a1, pI a2, pI a3, pI a4, pR 34 0] : List PV).map (tr q)) (n := 7) (by rw [lg_len _ (fun w h => by simp only [List.mem_cons, List.not_mem_nil, or_false] at h; rcases h with rfl | rfl | rfl | rfl | rfl | rfl <;> rfl)]; simp)
  rw [lg_entry_eq]
  generalize (lg_sl (([pR 0 0, pI a1, pI a2, pI a3, pI a4, pR 34 0] : List PV).map (tr q)) ++ List.replicate (7 - (lg_sl (([pR 0 0, pI a1, pI a2, pI a3, pI a4, pR 34 0] : List PV).map (tr q))).length) Slot.unset).toArray = lsA at hl0 ⊢
  have hl : lv_has lsA 7 [(0, .ref (q 0 0)), (1, .int a1), (2, .int a2), (3, .int a3), (4, .int a4), (5, .ref (q 34 0))] := hl0
  refine lv_aload hx hb (by decide +kernel) (lv_at hl 5 rfl) ?_
  refine lv_iconst (n := 0) (v := 0) hx hb (by decide +kernel) rfl ?_
  refine lv_aload_n (k := 0) hx hb (by decide +kernel) rfl (lv_at hl 0 rfl) ?_
  refine lv_iload_n (k := 1) hx hb (by decide +kernel) rfl (lv_at hl 1 rfl) ?_
  refine lv_iload_n (k := 2) hx hb (by decide +kernel) rfl (lv_at hl 2 rfl) ?_
  refine lv_iload_n (k := 3) hx hb (by decide +kernel) rfl (lv_at hl 3 rfl) ?_
  refine lv_iload hx hb (by decide +kernel) (lv_at hl 4 rfl) ?_
  refine w_inv hfl (a := 3) (i := 17) (as := [pI a1, pI a2, pI a3, pI a4]) (rest := [.int 0, .ref (q 34 0)]) (hnd := fun x => if x = 0 then 25 else if x = 1 then 21 else if x = 2 then 17 else 0) hx hb hml hown (fun w h => hts w (List.mem_cons_of_mem _ h)) hK hX hw hq hM hexc okW3 trivial (by show 4 + 1 ≤ mxl 3; decide) hWr hl.1 (by show 1 + (1 + 0) ≤ 8; omega) (by decide +kernel) (by show 9 ≤ 9 ∧ 8 + (mxl 3 + 11) + (lcm 3 + 100) ≤ 262 ∧ 1 ≤ 1 ∧ 6 ≤ 6; decide) ?_ ?_ ?_
  · intro x r μ2 hQ
    rcases hQ with ⟨h, -⟩ | ⟨y, hy, -⟩
    · omega
    · match x, hy with
      | 0, _ => exact ⟨by decide, ⟨by decide, by decide, 2, by decide, wcl_21, Or.inr ⟨by decide, ⟨by decide, by decide, 1, by decide, wcl_15, Or.inr ⟨by decide, ⟨by decide, by decide, 0, by decide, wcl_13, Or.inl ⟨rfl, rfl⟩⟩⟩⟩⟩⟩⟩
      | 1, _ => exact ⟨by decide, ⟨by decide, by decide, 2, by decide, wcl_21, Or.inr ⟨by decide, ⟨by decide, by decide, 1, by decide, wcl_15, Or.inl ⟨rfl, rfl⟩⟩⟩⟩⟩
      | 2, _ => exact ⟨by decide, ⟨by decide, by decide, 2, by decide, wcl_21, Or.inl ⟨rfl, rfl⟩⟩⟩
      | 3, hy => cases hy
      | n + 4, hy => cases hy
  · intro r μ2 H' locs' hQ hw' hS' hM'
    rcases hQ with ⟨-, v, rfl, hP⟩ | ⟨y, hy, -⟩
    · refine W.widen (Nat.zero_le 1) (Nat.zero_le 6) ?_
      refine lv_i2l hx hb (by decide +kernel) rfl ?_
      refine w_last hx hb hK hw' hq hS' ⟨34, 0, ⟨by decide, Or.inl ⟨by decide, rfl⟩⟩, rfl⟩ (by decide +kernel) (fun H1 locs1 hw1 hS1 => ?_)
      refine lv_goto (off := 15) (tgt := 29) hx hb (by decide +kernel) (by decide) ?_
      refine lv_iconst (n := 0) (v := 0) hx hb (by decide +kernel) rfl ?_
      exact W.iret (v := 0) hx hb hrt (fun t ht hW => ⟨⟨0, _, rfl, hP, by rw [ht]; exact hw1, hM'.put (by decide) (by decide)⟩, hS1.F ht⟩) hS1.2.2 (by decide +kernel)
    · cases hy
  · intro x r μ2 H' locs' b hQ hw' hS' hM'
    rcases hQ with ⟨h, -⟩ | ⟨y, hy, hP⟩
    · omega
    · match x, hy with
      | 0, hy =>
        cases hy
        show W _ _ _ _ _ _ _ _ _ _ _ _ _ _ _ (F0 m 25 lsA _)
        refine lv_astore (i := 6) hx hb (by decide +kernel) hl (by decide) rfl (fun ls1 hl1 => ?_)
        refine lv_iconst (n := 3) (v := 3) hx hb (by decide +kernel) rfl ?_
        exact W.iret (v := 3) hx hb hrt (fun t ht hW => ⟨⟨3, _, rfl, hP, by rw [ht]; exact hw', hM'⟩, hS'.F ht⟩) hS'.2.2 (by decide +kernel)
      | 1, hy =>
        cases hy
        show W _ _ _ _ _ _ _ _ _ _ _ _ _ _ _ (F0 m 21 lsA _)
        refine lv_astore (i := 6) hx hb (by decide +kernel) hl (by decide) rfl (fun ls1 hl1 => ?_)
        refine lv_iconst (n := 2) (v := 2) hx hb (by decide +kernel) rfl ?_
        exact W.iret (v := 2) hx hb hrt (fun t ht hW => ⟨⟨2, _, rfl, hP, by rw [ht]; exact hw', hM'⟩, hS'.F ht⟩) hS'.2.2 (by decide +kernel)
      | 2, hy =>
        cases hy
        show W _ _ _ _ _ _ _ _ _ _ _ _ _ _ _ (F0 m 17 lsA _)
        refine lv_astore (i := 6) hx hb (by decide +kernel) hl (by decide) rfl (fun ls1 hl1 => ?_)
        refine lv_iconst (n := 1) (v := 1) hx hb (by decide +kernel) rfl ?_
        exact W.iret (v := 1) hx hb hrt (fun t ht hW => ⟨⟨1, _, rfl, hP, by rw [ht]; exact hw', hM'⟩, hS'.F ht⟩) hS'.2.2 (by decide +kernel)
      | 3, hy => cases hy
      | n + 4, hy => cases hy
def yW4 : MethodName := ⟨"ThrowFlowLaw", "handler", "(LThrowFlow;IIIII[J)I"⟩
def hhW4 : List (Nat × Nat × Nat × Nat) := [(0, 16, 19, 21), (0, 16, 23, 15), (0, 16, 27, 13)]
def wsW4 : List Cond := .codeWith yW4 method_5_code 8 (some .int) hhW4 :: al_w
set_option maxRecDepth 20000 in
theorem cwW4 : Cond.codeWith yW4 method_5_code 8 (some .int) hhW4 ∈ al_w := in_w 529 (by rfl) rfl
theorem okW4 : okW 4 23 5 := ⟨⟨okm_4, by decide, by decide, rfl⟩, in_w 530 (by decide +kernel) rfl, in_w 531 (by decide +kernel) rfl, in_w 532 (by decide +kernel) rfl, in_w 47 (by decide +kernel) rfl, by decide +kernel⟩
set_option maxHeartbeats 4000000 in
theorem metW4 {l : Launch} (hfl : l.flags = pinnedFlags ++ [noTraceFlag]) {D : va_G} {q : Nat → Nat → Nat} {ca : Nat → ClassId} {xs : Nat → Int32} {L : Nat} (hq : qij q) {μ : PM} {a1 a2 a3 a4 a5 : Int32} (hM : mX xs L μ) {P : Int32 → PM → Prop} (hWr : Wr 4 wA [pI a1, pI a2, pI a3, pI a4, pI a5] μ P) : Met l yW4 wsW4 rmW (Pcx D q ca μ [pR 0 0, pI a1, pI a2, pI a3, pI a4, pI a5, pR 34 0]) (QcW D q ca xs L P) 1 6 (Aw q) := by
  refine va_MetW (cc := method_5_code) (maxL := 8) (ret := some .int) (hh := hhW4) (by decide +kernel) rfl ?_
  intro p e s m args below meth c s₁ B hml hv
  obtain ⟨rfl, hw, hK, hX⟩ := hv
  have hts := atoms_spec (ws := wsW4) B.pre
  have hown : s.vm.findClass "ThrowFlowLaw" = some m.cls := findClass_of_methodNamed B.named
  have hx := B.exec
  have hb := B.bytes
  have hrt := B.returns
  have hlocks := B.notSynchronized
  have hexc : c.exceptionTable.toList.map (fun h => (h.startPc, h.endPc, h.handlerPc, h.catchType)) = hhW4 := by
    obtain ⟨m9, meth9, c9, hn9, h1, h2, -, -, h5, -⟩ := Cond.codeWith_spec (hts _ List.mem_cons_self)
    cases B.named.symm.trans hn9
    cases B.method.symm.trans h1
    cases (Stand.of_body B).code.symm.trans h2
    exact h5
  have hl0 := lv_entry (([pR 0 0, pI a1, pI a2, pI a3, pI a4, pI a5, pR 34 0] : List PV).map (tr q)) (n := 8) (by rw [lg_len _ (fun w h => by simp only [List.mem_cons, List.not_mem_nil, or_false] at h; rcases h with rfl | rfl | rfl | rfl | rfl | rfl | rfl <;> rfl)]; simp)
  rw [lg_entry_eq]
  generalize (lg_sl (([pR 0 0, pI a1, pI a2, pI a3, pI a4, pI a5, pR 34 0] : List PV).map (tr q)) ++ List.replicate (8 - (lg_sl (([pR 0 0, pI a1, pI a2, pI a3, pI a4, pI a5, pR 34 0] : List PV).map (tr q))).length) Slot.unset).toArray = lsA at hl0 ⊢
  have hl : lv_has lsA 8 [(0, .ref (q 0 0)), (1, .int a1), (2, .int a2), (3, .int a3), (4, .int a4), (5, .int a5), (6, .ref (q 34 0))] := hl0
  refine lv_aload hx hb (by decide +kernel) (lv_at hl 6 rfl) ?_
  refine lv_iconst (n := 0) (v := 0) hx hb (by decide +kernel) rfl ?_
  refine lv_aload_n (k := 0) hx hb (by decide +kernel) rfl (lv_at hl 0 rfl) ?_
  refine lv_iload_n (k := 1) hx hb (by decide +kernel) rfl (lv_at hl 1 rfl) ?_
  refine lv_iload_n (k := 2) hx hb (by decide +kernel) rfl (lv_at hl 2 rfl) ?_
  refine lv_iload_n (k := 3) hx hb (by decide +kernel) rfl (lv_at hl 3 rfl) ?_
  refine lv_iload hx hb (by decide +kernel) (lv_at hl 4 rfl) ?_
  refine lv_iload hx hb (by decide +kernel) (lv_at hl 5 rfl) ?_
  refine w_inv hfl (a := 4) (i := 23) (as := [pI a1, pI a2, pI a3, pI a4, pI a5]) (rest := [.int 0, .ref (q 34 0)]) (hnd := fun x => if x = 0 then 27 else if x = 1 then 23 else if x = 2 then 19 else 0) hx hb hml hown (fun w h => hts w (List.mem_cons_of_mem _ h)) hK hX hw hq hM hexc okW4 trivial (by show 5 + 1 ≤ mxl 4; decide) hWr hl.1 (by show 1 + (1 + 0) ≤ 8; omega) (by decide +kernel) (by show 9 ≤ 9 ∧ 8 + (mxl 4 + 11) + (lcm 4 + 100) ≤ 262 ∧ 1 ≤ 1 ∧ 6 ≤ 6; decide) ?_ ?_ ?_
  · intro x r μ2 hQ
    rcases hQ with ⟨h, -⟩ | ⟨y, hy, -⟩
    · omega
    · match x, hy with
      | 0, _ => exact ⟨by decide, ⟨by decide, by decide, 2, by decide, wcl_21, Or.inr ⟨by decide, ⟨by decide, by decide, 1, by decide, wcl_15, Or.inr ⟨by decide, ⟨by decide, by decide, 0, by decide, wcl_13, Or.inl ⟨rfl, rfl⟩⟩⟩⟩⟩⟩⟩
      | 1, _ => exact ⟨by decide, ⟨by decide, by decide, 2, by decide, wcl_21, Or.inr ⟨by decide, ⟨by decide, by decide, 1, by decide, wcl_15, Or.inl ⟨rfl, rfl⟩⟩⟩⟩⟩
      | 2, _ => exact ⟨by decide, ⟨by decide, by decide, 2, by decide, wcl_21, Or.inl ⟨rfl, rfl⟩⟩⟩
      | 3, hy => cases hy
      | n + 4, hy => cases hy
  · intro r μ2 H' locs' hQ hw' hS' hM'
    rcases hQ with ⟨-, v, rfl, hP⟩ | ⟨y, hy, -⟩
    · refine W.widen (Nat.zero_le 1) (Nat.zero_le 6) ?_
      refine lv_i2l hx hb (by decide +kernel) rfl ?_
      refine w_last hx hb hK hw' hq hS' ⟨34, 0, ⟨by decide, Or.inl ⟨by decide, rfl⟩⟩, rfl⟩ (by decide +kernel) (fun H1 locs1 hw1 hS1 => ?_)
      refine lv_goto (off := 15) (tgt := 31) hx hb (by decide +kernel) (by decide) ?_
      refine lv_iconst (n := 0) (v := 0) hx hb (by decide +kernel) rfl ?_
      exact W.iret (v := 0) hx hb hrt (fun t ht hW => ⟨⟨0, _, rfl, hP, by rw [ht]; exact hw1, hM'.put (by decide) (by decide)⟩, hS1.F ht⟩) hS1.2.2 (by decide +kernel)
    · cases hy
  · intro x r μ2 H' locs' b hQ hw' hS' hM'
    rcases hQ with ⟨h, -⟩ | ⟨y, hy, hP⟩
    · omega
    · match x, hy with
      | 0, hy =>
        cases hy
        show W _ _ _ _ _ _ _ _ _ _ _ _ _ _ _ (F0 m 27 lsA _)
        refine lv_astore (i := 7) hx hb (by decide +kernel) hl (by decide) rfl (fun ls1 hl1 => ?_)
        refine lv_iconst (n := 3) (v := 3) hx hb (by decide +kernel) rfl ?_
        exact W.iret (v := 3) hx hb hrt (fun t ht hW => ⟨⟨3, _, rfl, hP, by rw [ht]; exact hw', hM'⟩, hS'.F ht⟩) hS'.2.2 (by decide +kernel)
      | 1, hy =>
        cases hy
        show W _ _ _ _ _ _ _ _ _ _ _ _ _ _ _ (F0 m 23 lsA _)
        refine lv_astore (i := 7) hx hb (by decide +kernel) hl (by decide) rfl (fun ls1 hl1 => ?_)
        refine lv_iconst (n := 2) (v := 2) hx hb (by decide +kernel) rfl ?_
        exact W.iret (v := 2) hx hb hrt (fun t ht hW => ⟨⟨2, _, rfl, hP, by rw [ht]; exact hw', hM'⟩, hS'.F ht⟩) hS'.2.2 (by decide +kernel)
      | 2, hy =>
        cases hy
        show W _ _ _ _ _ _ _ _ _ _ _ _ _ _ _ (F0 m 19 lsA _)
        refine lv_astore (i := 7) hx hb (by decide +kernel) hl (by decide) rfl (fun ls1 hl1 => ?_)
        refine lv_iconst (n := 1) (v := 1) hx hb (by decide +kernel) rfl ?_
        exact W.iret (v := 1) hx hb hrt (fun t ht hW => ⟨⟨1, _, rfl, hP, by rw [ht]; exact hw', hM'⟩, hS'.F ht⟩) hS'.2.2 (by decide +kernel)
      | 3, hy => cases hy
      | n + 4, hy => cases hy
def yW5 : MethodName := ⟨"ThrowFlowLaw", "change", "(LThrowFlow;IIIII[J)I"⟩
def hhW5 : List (Nat × Nat × Nat × Nat) := [(0, 16, 19, 21), (0, 16, 23, 13)]
def wsW5 : List Cond := .codeWith yW5 method_6_code 8 (some .int) hhW5 :: al_w
set_option maxRecDepth 20000 in
theorem cwW5 : Cond.codeWith yW5 method_6_code 8 (some .int) hhW5 ∈ al_w := in_w 550 (by rfl) rfl
theorem okW5 : okW 5 27 5 := ⟨⟨okm_5, by decide, by decide, rfl⟩, in_w 551 (by decide +kernel) rfl, in_w 552 (by decide +kernel) rfl, in_w 553 (by decide +kernel) rfl, in_w 47 (by decide +kernel) rfl, by decide +kernel⟩
set_option maxHeartbeats 4000000 in
theorem metW5 {l : Launch} (hfl : l.flags = pinnedFlags ++ [noTraceFlag]) {D : va_G} {q : Nat → Nat → Nat} {ca : Nat → ClassId} {xs : Nat → Int32} {L : Nat} (hq : qij q) {μ : PM} {a1 a2 a3 a4 a5 : Int32} (hM : mX xs L μ) {P : Int32 → PM → Prop} (hWr : Wr 5 wC [pI a1, pI a2, pI a3, pI a4, pI a5] μ P) : Met l yW5 wsW5 rmW (Pcx D q ca μ [pR 0 0, pI a1, pI a2, pI a3, pI a4, pI a5, pR 34 0]) (QcW D q ca xs L P) 1 6 (Aw q) := by
  refine va_MetW (cc := method_6_code) (maxL := 8) (ret := some .int) (hh := hhW5) (by decide +kernel) rfl ?_
  intro p e s m args below meth c s₁ B hml hv
  obtain ⟨rfl, hw, hK, hX⟩ := hv
  have hts := atoms_spec (ws := wsW5) B.pre
  have hown : s.vm.findClass "ThrowFlowLaw" = some m.cls := findClass_of_methodNamed B.named
  have hx := B.exec
  have hb := B.bytes
  have hrt := B.returns
  have hlocks := B.notSynchronized
  have hexc : c.exceptionTable.toList.map (fun h => (h.startPc, h.endPc, h.handlerPc, h.catchType)) = hhW5 := by
    obtain ⟨m9, meth9, c9, hn9, h1, h2, -, -, h5, -⟩ := Cond.codeWith_spec (hts _ List.mem_cons_self)
    cases B.named.symm.trans hn9
    cases B.method.symm.trans h1
    cases (Stand.of_body B).code.symm.trans h2
    exact h5
  have hl0 := lv_entry (([pR 0 0, pI a1, pI a2, pI a3, pI a4, pI a5, pR 34 0] : List PV).map (tr q)) (n := 8) (by rw [lg_len _ (fun w h => by simp only [List.mem_cons, List.not_mem_nil, or_false] at h; rcases h with rfl | rfl | rfl | rfl | rfl | rfl | rfl <;> rfl)]; simp)
  rw [lg_entry_eq]
  generalize (lg_sl (([pR 0 0, pI a1, pI a2, pI a3, pI a4, pI a5, pR 34 0] : List PV).map (tr q)) ++ List.replicate (8 - (lg_sl (([pR 0 0, pI a1, pI a2, pI a3, pI a4, pI a5, pR 34 0] : List PV).map (tr q))).length) Slot.unset).toArray = lsA at hl0 ⊢
  have hl : lv_has lsA 8 [(0, .ref (q 0 0)), (1, .int a1), (2, .int a2), (3, .int a3), (4, .int a4), (5, .int a5), (6, .ref (q 34 0))] := hl0
  refine lv_aload hx hb (by decide +kernel) (lv_at hl 6 rfl) ?_
  refine lv_iconst (n := 0) (v := 0) hx hb (by decide +kernel) rfl ?_
  refine lv_aload_n (k := 0) hx hb (by decide +kernel) rfl (lv_at hl 0 rfl) ?_
  refine lv_iload_n (k := 1) hx hb (by decide +kernel) rfl (lv_at hl 1 rfl) ?_
  refine lv_iload_n (k := 2) hx hb (by decide +kernel) rfl (lv_at hl 2 rfl) ?_
  refine lv_iload_n (k := 3) hx hb (by decide +kernel) rfl (lv_at hl 3 rfl) ?_
  refine lv_iload hx hb (by decide +kernel) (lv_at hl 4 rfl) ?_
  refine lv_iload hx hb (by decide +kernel) (lv_at hl 5 rfl) ?_
  refine w_inv hfl (a := 5) (i := 27) (as := [pI a1, pI a2, pI a3, pI a4, pI a5]) (rest := [.int 0, .ref (q 34 0)]) (hnd := fun x => if x = 0 then 23 else if x = 2 then 19 else 0) hx hb hml hown (fun w h => hts w (List.mem_cons_of_mem _ h)) hK hX hw hq hM hexc okW5 trivial (by show 5 + 1 ≤ mxl 5; decide) hWr hl.1 (by show 1 + (1 + 0) ≤ 8; omega) (by decide +kernel) (by show 9 ≤ 9 ∧ 8 + (mxl 5 + 11) + (lcm 5 + 100) ≤ 262 ∧ 1 ≤ 1 ∧ 6 ≤ 6; decide) ?_ ?_ ?_
  · intro x r μ2 hQ
    rcases hQ with ⟨h, -⟩ | ⟨y, hy, -⟩
    · omega
    · match x, hy with
      | 0, _ => exact ⟨by decide, ⟨by decide, by decide, 2, by decide, wcl_21, Or.inr ⟨by decide, ⟨by decide, by decide, 0, by decide, wcl_13, Or.inl ⟨rfl, rfl⟩⟩⟩⟩⟩
      | 1, hy => cases hy
      | 2, _ => exact ⟨by decide, ⟨by decide, by decide, 2, by decide, wcl_21, Or.inl ⟨rfl, rfl⟩⟩⟩
      | 3, hy => cases hy
      | n + 4, hy => cases hy
  · intro r μ2 H' locs' hQ hw' hS' hM'
    rcases hQ with ⟨-, v, rfl, hP⟩ | ⟨y, hy, -⟩
    · refine W.widen (Nat.zero_le 1) (Nat.zero_le 6) ?_
      refine lv_i2l hx hb (by decide +kernel) rfl ?_
      refine w_last hx hb hK hw' hq hS' ⟨34, 0, ⟨by decide, Or.inl ⟨by decide, rfl⟩⟩, rfl⟩ (by decide +kernel) (fun H1 locs1 hw1 hS1 => ?_)
      refine lv_goto (off := 11) (tgt := 27) hx hb (by decide +kernel) (by decide) ?_
      refine lv_iconst (n := 0) (v := 0) hx hb (by decide +kernel) rfl ?_
      exact W.iret (v := 0) hx hb hrt (fun t ht hW => ⟨⟨0, _, rfl, hP, by rw [ht]; exact hw1, hM'.put (by decide) (by decide)⟩, hS1.F ht⟩) hS1.2.2 (by decide +kernel)
    · cases hy
  · intro x r μ2 H' locs' b hQ hw' hS' hM'
    rcases hQ with ⟨h, -⟩ | ⟨y, hy, hP⟩
    · omega
    · match x, hy with
      | 0, hy =>
        cases hy
        show W _ _ _ _ _ _ _ _ _ _ _ _ _ _ _ (F0 m 23 lsA _)
        refine lv_astore (i := 7) hx hb (by decide +kernel) hl (by decide) rfl (fun ls1 hl1 => ?_)
        refine lv_iconst (n := 2) (v := 2) hx hb (by decide +kernel) rfl ?_
        exact W.iret (v := 2) hx hb hrt (fun t ht hW => ⟨⟨2, _, rfl, hP, by rw [ht]; exact hw', hM'⟩, hS'.F ht⟩) hS'.2.2 (by decide +kernel)
      | 1, hy => cases hy
      | 2, hy =>
        cases hy
        show W _ _ _ _ _ _ _ _ _ _ _ _ _ _ _ (F0 m 19 lsA _)
        refine lv_astore (i := 7) hx hb (by decide +kernel) hl (by decide) rfl (fun ls1 hl1 => ?_)
        refine lv_iconst (n := 1) (v := 1) hx hb (by decide +kernel) rfl ?_
        exact W.iret (v := 1) hx hb hrt (fun t ht hW => ⟨⟨1, _, rfl, hP, by rw [ht]; exact hw', hM'⟩, hS'.F ht⟩) hS'.2.2 (by decide +kernel)
      | 3, hy => cases hy
      | n + 4, hy => cases hy
def yW11 : MethodName := ⟨"ThrowFlowLaw", "run", "(LThrowFlow;III[J)I"⟩
def hhW11 : List (Nat × Nat × Nat × Nat) := [(0, 12, 15, 21), (0, 12, 19, 13), (0, 12, 23, 34), (0, 12, 27, 15)]
def wsW11 : List Cond := .codeWith yW11 method_7_code 6 (some .int) hhW11 :: al_w
set_option maxRecDepth 20000 in
theorem cwW11 : Cond.codeWith yW11 method_7_code 6 (some .int) hhW11 ∈ al_w := in_w 559 (by rfl) rfl
theorem okW11 : okW 11 30 3 := ⟨⟨okm_11, by decide, by decide, rfl⟩, in_w 561 (by decide +kernel) rfl, in_w 562 (by decide +kernel) rfl, in_w 563 (by decide +kernel) rfl, in_w 47 (by decide +kernel) rfl, by decide +kernel⟩
set_option maxHeartbeats 4000000 in
theorem metW11 {l : Launch} (hfl : l.flags = pinnedFlags ++ [noTraceFlag]) {D : va_G} {q : Nat → Nat → Nat} {ca : Nat → ClassId} {xs : Nat → Int32} {L : Nat} (hq : qij q) {μ : PM} {a1 a2 a3 : Int32} (hM : mX xs L μ) {P : Int32 → PM → Prop} (hWr : Wr 11 wR [pI a1, pI a2, pI a3] μ P) : Met l yW11 wsW11 rmW (Pcx D q ca μ [pR 0 0, pI a1, pI a2, pI a3, pR 34 0]) (QcW D q ca xs L P) 1 6 (Aw q) := by
  refine va_MetW (cc := method_7_code) (maxL := 6) (ret := some .int) (hh := hhW11) (by decide +kernel) rfl ?_
  intro p e s m args below meth c s₁ B hml hv
  obtain ⟨rfl, hw, hK, hX⟩ := hv
  have hts := atoms_spec (ws := wsW11) B.pre
  have hown : s.vm.findClass "ThrowFlowLaw" = some m.cls := findClass_of_methodNamed B.named
  have hx := B.exec
  have hb := B.bytes
  have hrt := B.returns
  have hlocks := B.notSynchronized
  have hexc : c.exceptionTable.toList.map (fun h => (h.startPc, h.endPc, h.handlerPc, h.catchType)) = hhW11 := by
    obtain ⟨m9, meth9, c9, hn9, h1, h2, -, -, h5, -⟩ := Cond.codeWith_spec (hts _ List.mem_cons_self)
    cases B.named.symm.trans hn9
    cases B.method.symm.trans h1
    cases (Stand.of_body B).code.symm.trans h2
    exact h5
  have hl0 := lv_entry (([pR 0 0, pI a1, pI a2, pI a3, pR 34 0] : List PV).map (tr q)) (n := 6) (by rw [lg_len _ (fun w h => by simp only [List.mem_cons, List.not_mem_nil, or_false] at h; rcases h with rfl | rfl | rfl | rfl | rfl <;> rfl)]; simp)
  rw [lg_entry_eq]
  generalize (lg_sl (([pR 0 0, pI a1, pI a2, pI a3, pR 34 0] : List PV).map (tr q)) ++ List.replicate (6 - (lg_sl (([pR 0 0, pI a1, pI a2, pI a3, pR 34 0] : List PV).map (tr q))).length) Slot.unset).toArray = lsA at hl0 ⊢
  have hl : lv_has lsA 6 [(0, .ref (q 0 0)), (1, .int a1), (2, .int a2), (3, .int a3), (4, .ref (q 34 0))] := hl0
  refine lv_aload hx hb (by decide +kernel) (lv_at hl 4 rfl) ?_
  refine lv_iconst (n := 0) (v := 0) hx hb (by decide +kernel) rfl ?_
  refine lv_aload_n (k := 0) hx hb (by decide +kernel) rfl (lv_at hl 0 rfl) ?_
  refine lv_iload_n (k := 1) hx hb (by decide +kernel) rfl (lv_at hl 1 rfl) ?_
  refine lv_iload_n (k := 2) hx hb (by decide +kernel) rfl (lv_at hl 2 rfl) ?_
  refine lv_iload_n (k := 3) hx hb (by decide +kernel) rfl (lv_at hl 3 rfl) ?_
  refine w_inv hfl (a := 11) (i := 30) (as := [pI a1, pI a2, pI a3]) (rest := [.int 0, .ref (q 34 0)]) (hnd := fun x => if x = 0 then 19 else if x = 1 then 27 else if x = 2 then 15 else if x = 3 then 23 else 0) hx hb hml hown (fun w h => hts w (List.mem_cons_of_mem _ h)) hK hX hw hq hM hexc okW11 trivial (by show 3 + 1 ≤ mxl 11; decide) hWr hl.1 (by show 1 + (1 + 0) ≤ 8; omega) (by decide +kernel) (by show 9 ≤ 9 ∧ 8 + (mxl 11 + 11) + (lcm 11 + 100) ≤ 262 ∧ 1 ≤ 1 ∧ 6 ≤ 6; decide) ?_ ?_ ?_
  · intro x r μ2 hQ
    rcases hQ with ⟨h, -⟩ | ⟨y, hy, -⟩
    · omega
    · match x, hy with
      | 0, _ => exact ⟨by decide, ⟨by decide, by decide, 2, by decide, wcl_21, Or.inr ⟨by decide, ⟨by decide, by decide, 0, by decide, wcl_13, Or.inl ⟨rfl, rfl⟩⟩⟩⟩⟩
      | 1, _ => exact ⟨by decide, ⟨by decide, by decide, 2, by decide, wcl_21, Or.inr ⟨by decide, ⟨by decide, by decide, 0, by decide, wcl_13, Or.inr ⟨by decide, ⟨by decide, by decide, 3, by decide, wcl_34, Or.inr ⟨by decide, ⟨by decide, by decide, 1, by decide, wcl_15, Or.inl ⟨rfl, rfl⟩⟩⟩⟩⟩⟩⟩⟩⟩
      | 2, _ => exact ⟨by decide, ⟨by decide, by decide, 2, by decide, wcl_21, Or.inl ⟨rfl, rfl⟩⟩⟩
      | 3, _ => exact ⟨by decide, ⟨by decide, by decide, 2, by decide, wcl_21, Or.inr ⟨by decide, ⟨by decide, by decide, 0, by decide, wcl_13, Or.inr ⟨by decide, ⟨by decide, by decide, 3, by decide, wcl_34, Or.inl ⟨rfl, rfl⟩⟩⟩⟩⟩⟩⟩
      | n + 4, hy => cases hy
  · intro r μ2 H' locs' hQ hw' hS' hM'
    rcases hQ with ⟨-, v, rfl, hP⟩ | ⟨y, hy, -⟩
    · refine W.widen (Nat.zero_le 1) (Nat.zero_le 6) ?_
      refine lv_i2l hx hb (by decide +kernel) rfl ?_
      refine w_last hx hb hK hw' hq hS' ⟨34, 0, ⟨by decide, Or.inl ⟨by decide, rfl⟩⟩, rfl⟩ (by decide +kernel) (fun H1 locs1 hw1 hS1 => ?_)
      refine lv_goto (off := 19) (tgt := 31) hx hb (by decide +kernel) (by decide) ?_
      refine lv_iconst (n := 0) (v := 0) hx hb (by decide +kernel) rfl ?_
      exact W.iret (v := 0) hx hb hrt (fun t ht hW => ⟨⟨0, _, rfl, hP, by rw [ht]; exact hw1, hM'.put (by decide) (by decide)⟩, hS1.F ht⟩) hS1.2.2 (by decide +kernel)
    · cases hy
  · intro x r μ2 H' locs' b hQ hw' hS' hM'
    rcases hQ with ⟨h, -⟩ | ⟨y, hy, hP⟩
    · omega
    · match x, hy with
      | 0, hy =>
        cases hy
        show W _ _ _ _ _ _ _ _ _ _ _ _ _ _ _ (F0 m 19 lsA _)
        refine lv_astore (i := 5) hx hb (by decide +kernel) hl (by decide) rfl (fun ls1 hl1 => ?_)
        refine lv_iconst (n := 2) (v := 2) hx hb (by decide +kernel) rfl ?_
        exact W.iret (v := 2) hx hb hrt (fun t ht hW => ⟨⟨2, _, rfl, hP, by rw [ht]; exact hw', hM'⟩, hS'.F ht⟩) hS'.2.2 (by decide +kernel)
      | 1, hy =>
        cases hy
        show W _ _ _ _ _ _ _ _ _ _ _ _ _ _ _ (F0 m 27 lsA _)
        refine lv_astore (i := 5) hx hb (by decide +kernel) hl (by decide) rfl (fun ls1 hl1 => ?_)
        refine lv_iconst (n := 4) (v := 4) hx hb (by decide +kernel) rfl ?_
        exact W.iret (v := 4) hx hb hrt (fun t ht hW => ⟨⟨4, _, rfl, hP, by rw [ht]; exact hw', hM'⟩, hS'.F ht⟩) hS'.2.2 (by decide +kernel)
      | 2, hy =>
        cases hy
        show W _ _ _ _ _ _ _ _ _ _ _ _ _ _ _ (F0 m 15 lsA _)
        refine lv_astore (i := 5) hx hb (by decide +kernel) hl (by decide) rfl (fun ls1 hl1 => ?_)
        refine lv_iconst (n := 1) (v := 1) hx hb (by decide +kernel) rfl ?_
        exact W.iret (v := 1) hx hb hrt (fun t ht hW => ⟨⟨1, _, rfl, hP, by rw [ht]; exact hw', hM'⟩, hS'.F ht⟩) hS'.2.2 (by decide +kernel)
      | 3, hy =>
        cases hy
        show W _ _ _ _ _ _ _ _ _ _ _ _ _ _ _ (F0 m 23 lsA _)
        refine lv_astore (i := 5) hx hb (by decide +kernel) hl (by decide) rfl (fun ls1 hl1 => ?_)
        refine lv_iconst (n := 3) (v := 3) hx hb (by decide +kernel) rfl ?_
        exact W.iret (v := 3) hx hb hrt (fun t ht hW => ⟨⟨3, _, rfl, hP, by rw [ht]; exact hw', hM'⟩, hS'.F ht⟩) hS'.2.2 (by decide +kernel)
      | n + 4, hy => cases hy
