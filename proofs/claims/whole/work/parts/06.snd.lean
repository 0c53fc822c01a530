/-! Runs of the small machine are runs of the real one. -/
def SND (l : Launch) (n : Nat) : Prop := ∀ {D : va_G} {q : Nat → Nat → Nat} {ca : Nat → ClassId} {xs : Nat → Int32} {L : Nat}, qij q → ∀ (mi pc : Nat) (ls : PL) (st : List PV) (μ : PM) (pce : Nat) (lse : PL) (ste : List PV) (μ1 : PM), prun n mi pc ls st μ = some (pce, lse, ste, μ1) →
  ∀ {p : Program} {e : Env} {R : Room} {s : State} {m : MethodId} {args : Array Value} {below : List Frame} {meth : Method} {c : Code} {H : Heap} {locs : List Loc} {cells slots : Nat} {Q : State → Prop} {lsA : Array Slot} {A : Nat → Prop},
  Cx p s m args c mi D ca → dep mi ≤ R.frames ∧ lcm mi ≤ R.locals → cells ≤ R.cells ∧ slots ≤ R.slots → lok q ls lsA (mxl mi) → (∀ v ∈ st, okv v) → wd D q ca μ H → va_S A s.heap H locs → (∀ t m, vld t m → A (q t m)) → okX q xs L A s mi → mX xs L μ →
  (∀ (H' : Heap) (locs' : List Loc) (lsB : Array Slot), lok q lse lsB (mxl mi) → (∀ v ∈ ste, okv v) → wd D q ca μ1 H' → va_S A s.heap H' locs' → mX xs L μ1 → W p l e R s m args below meth c H' locs' cells slots Q (F0 m pce lsB (ste.map (tr q)))) →
  W p l e R s m args below meth c H locs cells slots Q (F0 m pc lsA (st.map (tr q)))
/-- what a call may change: the world -/
def Aw (q : Nat → Nat → Nat) : Nat → Prop := fun x => ∃ t m, vld t m ∧ x = q t m
def Pcm (D : va_G) (q : Nat → Nat → Nat) (ca : Nat → ClassId) (μ : PM) (as : List PV) : Array Value → State → Prop := va_Pc (as.map (tr q)) (fun U => wd D q ca μ U.heap ∧ Kp D ca U)
def Qcm (D : va_G) (q : Nat → Nat → Nat) (ca : Nat → ClassId) (xs : Nat → Int32) (L : Nat) (μ1 : PM) (r : Option PV) : Array Value → State → Outcome → State → Prop := fun _ st o t => (o = .returned (r.map (tr q)) ∧ wd D q ca μ1 t.heap ∧ mX xs L μ1 ∧ ∀ v, r = some v → okv v) ∧ va_F (Aw q) st t
theorem Kp.moved {D : va_G} {ca : Nat → ClassId} {u U : State} (hvm : u.vm.Alike U.vm) (h : Kp D ca u) : Kp D ca U := va_K.moved hvm h
theorem Pcm_blind {D : va_G} {q : Nat → Nat → Nat} {ca : Nat → ClassId} {μ : PM} {as : List PV} : FrameBlind (Pcm D q ca μ as) := fun a U g mk h => ⟨h.1, h.2.1, Kp.moved (u := U) (U := U.calling g mk a) (Vm.Alike.refl U.vm) h.2.2⟩
theorem pen_at : ∀ (as : List PV) (n k : Nat) (v : PV), plg (pen as n) k = some v → as[k]? = some v ∧ k < n
  | _, 0, _, _, h => by cases h
  | [], n + 1, 0, _, h => by cases h
  | [], n + 1, k + 1, v, h => by
    obtain ⟨h1, -⟩ := pen_at [] n k v h
    simp at h1
  | w :: l, n + 1, 0, v, h => by cases h; exact ⟨rfl, by omega⟩
  | w :: l, n + 1, k + 1, v, h => by
    obtain ⟨h1, h2⟩ := pen_at l n k v h
    exact ⟨h1, by omega⟩
theorem args_in {q : Nat → Nat → Nat} : ∀ (as : List PV) (i k : Nat) (v : PV), (∀ w ∈ as, nlg w = true) → as[k]? = some v → (i + k, tr q v) ∈ lv_args i (as.map (tr q))
  | [], _, _, _, _, h => by simp at h
  | w :: l, i, 0, v, hn, h => by
    cases h
    exact List.mem_cons_self
  | w :: l, i, k + 1, v, hn, h => by
    have hc := cat1 (q := q) (hn w List.mem_cons_self)
    have := args_in (q := q) l (i + 1) k v (fun x hx => hn x (List.mem_cons_of_mem _ hx)) h
    rw [show i + 1 + k = i + (k + 1) by omega] at this
    show _ ∈ (i, tr q w) :: lv_args (if (tr q w).category = 2 then i + 2 else i + 1) (l.map (tr q))
    rw [if_neg (by omega)]
    exact List.mem_cons_of_mem _ this
theorem lg_len {q : Nat → Nat → Nat} : ∀ (as : List PV), (∀ w ∈ as, nlg w = true) → (lg_sl (as.map (tr q))).length = as.length
  | [], _ => rfl
  | w :: l, hn => by
    have hc := cat1 (q := q) (hn w List.mem_cons_self)
    have := lg_len (q := q) l (fun x hx => hn x (List.mem_cons_of_mem _ hx))
    unfold lg_sl at this ⊢
    rw [List.map_cons, List.flatMap_cons, if_neg (by omega)]
    simp [this]
set_option maxHeartbeats 4000000 in
theorem met_of {l : Launch} {n : Nat} (hS : SND l n) {D : va_G} {q : Nat → Nat → Nat} {ca : Nat → ClassId} {xs : Nat → Int32} {L : Nat} (hq : qij q) {a : Nat} (hl : a ≠ lawi) (hok : okM a) {as : List PV} {μ μ1 : PM} {pce : Nat} {lse : PL} {ste : List PV} {r : Option PV} (hr : prun n a 0 (pen as (mxl a)) [] μ = some (pce, lse, ste, μ1)) (hp : pret a pce ste = some (0, r)) (has : ∀ v ∈ as, okv v ∧ nlg v = true) (hlen : as.length ≤ mxl a) (hM : mX xs L μ) :
    Met l (ym a) (wsA a) (rmo a) (Pcm D q ca μ as) (Qcm D q ca xs L μ1 r) 0 0 (Aw q) := by
  refine Met.ofW (cc := bm a) (maxL := mxl a) (ret := rtm a) hok.1 rfl ?_
  intro p e s m args below meth c s₁ B hml hv
  obtain ⟨rfl, hw, hK⟩ := hv
  have hts := atoms_spec (ws := wsA a) B.pre
  have hlocks := B.notSynchronized
  have hown : s.vm.findClass (om a) = some m.cls := by rw [← hok.2.1]; exact findClass_of_methodNamed B.named
  have C0 : Cx p s m (as.map (tr q)).toArray c a D ca := ⟨B.exec, B.bytes, hml, hown, fun w h => hts w (List.mem_cons_of_mem _ h), hK⟩
  have hl0 := lv_entry (as.map (tr q)) (n := mxl a) (by rw [lg_len as (fun w h => (has w h).2)]; exact hlen)
  rw [lg_entry_eq]
  generalize (lg_sl (as.map (tr q)) ++ List.replicate (mxl a - (lg_sl (as.map (tr q))).length) Slot.unset).toArray = lsA at hl0 ⊢
  have hlk : lok q (pen as (mxl a)) lsA (mxl a) := by
    refine ⟨hl0.1, hl0.2.1, fun k v h => ?_⟩
    obtain ⟨h1, -⟩ := pen_at as (mxl a) k v h
    have h2 := args_in (q := q) as 0 k v (fun w h => (has w h).2) h1
    rw [Nat.zero_add] at h2
    exact ⟨hl0.2.2 (k, tr q v) h2, has v (List.mem_of_getElem? h1)⟩
  refine hS hq a 0 _ [] μ pce lse ste μ1 hr (R := rmo a) (A := Aw q) C0 ⟨Nat.le_refl _, Nat.le_refl _⟩ ⟨Nat.zero_le _, Nat.zero_le _⟩ hlk (fun v h => by cases h) hw va_S.rf (fun t m h => ⟨t, m, h, rfl⟩) (fun z => absurd z hl) hM ?_
  intro H' locs' lsB hz hv' hw' hS' hM'
  have hx := B.exec
  have hb := B.bytes
  have hrt := B.returns
  cases hc : cd a pce with
  | none => unfold pret at hp; rw [hc] at hp; cases hp
  | some en =>
    obtain ⟨op, u1, u2, u3⟩ := en
    have hk := ok_all a pce op u1 u2 u3 hc
    unfold pret at hp
    rw [hc] at hp
    split at hp
    next heq =>
      cases heq
      split at hp
      next x =>
        cases hp
        have hv9 : ∀ v, some (pI x) = some v → okv v := fun v h => by cases h; trivial
        obtain ⟨h1, h2⟩ := hk
        have h3 : rtm a = some .int := by rcases h2 with h2 | h2; exact h2.2; exact absurd h2.1 (by decide)
        exact W.iret (v := x) hx hb (hrt.trans h3) (fun t ht hW => ⟨⟨rfl, by rw [ht]; exact hw', hM', hv9⟩, hS'.F ht⟩) hS'.2.2 h1
      next => cases hp
    next heq =>
      cases heq
      split at hp
      next x =>
        by_cases h01 : x = 0 ∨ x = 1
        · rw [if_pos h01] at hp
          cases hp
          have hv9 : ∀ v, some (pI x) = some v → okv v := fun v h => by cases h; trivial
          obtain ⟨h1, h2⟩ := hk
          have h3 : rtm a = some .boolean := by rcases h2 with h2 | h2; exact absurd h2.1 (by decide); exact h2.2
          exact W.zret (v := x) (ty := .boolean) hx hb (hrt.trans h3) (by rcases h01 with rfl | rfl <;> rfl) (fun t ht hW => ⟨⟨rfl, by rw [ht]; exact hw', hM', hv9⟩, hS'.F ht⟩) hS'.2.2 h1
        · rw [if_neg h01] at hp; cases hp
      next => cases hp
    next heq =>
      cases heq
      split at hp
      next =>
        cases hp
        have hv9 : ∀ v, (none : Option PV) = some v → okv v := fun v h => by cases h
        obtain ⟨h1, h2⟩ := hk
        exact W.vret hx hb (hrt.trans h2) (fun t ht hW => ⟨⟨rfl, by rw [ht]; exact hw', hM', hv9⟩, hS'.F ht⟩) hS'.2.2 h1
      next => cases hp
    next heq =>
      cases heq
      split at hp
      next t0 m0 =>
        cases hp
        have hv9 : ∀ v, some (pR t0 m0) = some v → okv v := fun v h => by cases h; exact hv' _ List.mem_cons_self
        obtain ⟨h1, nm, h2⟩ := hk
        exact W.aret (v := .ref (q t0 m0)) hx hb (hrt.trans h2) (Or.inl ⟨nm, rfl⟩) (Or.inr ⟨_, rfl⟩) (fun t ht hW => ⟨⟨rfl, by rw [ht]; exact hw', hM', hv9⟩, hS'.F ht⟩) hS'.2.2 h1
      next => cases hp
    next heq =>
      cases heq
      split at hp
      next => cases hp
      next => cases hp
    next => cases hp
/-- a call: its run in the real machine, and the way on -/
theorem call_go {l : Launch} {p : Program} {e : Env} {R : Room} {s : State} {m : MethodId} {args : Array Value} {below : List Frame} {meth : Method} {c : Code} {H : Heap} {locs : List Loc} {cells slots : Nat} {Q : State → Prop} {lsA : Array Slot} {A : Nat → Prop} {D : va_G} {q : Nat → Nat → Nat} {ca : Nat → ClassId} {xs : Nat → Int32} {L : Nat} {μ1 : PM} {r : Option PV} {pc : Nat} {st0 rest : List Value} {av : Array Value}
    (hr : va_Run p l e R s m args below meth c H locs cells slots 0 0 (F0 m pc lsA st0) rest (Qcm D q ca xs L μ1 r av) (Aw q)) (hS : va_S A s.heap H locs) (hA : ∀ t m, vld t m → A (q t m))
    (kk : ∀ (H' : Heap) (locs' : List Loc), wd D q ca μ1 H' → va_S A s.heap H' locs' → mX xs L μ1 → (∀ v, r = some v → okv v) → W p l e R s m args below meth c H' locs' cells slots Q (F0 m (pc + 3) lsA ((r.map (tr q)).toList ++ rest))) : W p l e R s m args below meth c H locs cells slots Q (F0 m pc lsA st0) := by
  intro T hT X
  obtain ⟨v, st₀, t, T', L0, h0, X', hL, e1, e2, ⟨⟨hv, hw, hM, hv9⟩, hz, hk⟩, st⟩ := hr T hT X
  cases hv
  rw [h0] at hz hk
  have hAw : ∀ x, Aw q x → A x := by rintro x ⟨t, m, h, rfl⟩; exact hA t m h
  obtain ⟨t2, a1, b1⟩ := kk T'.heap (locs ++ L0) (by rw [e1]; exact hw)
    ⟨Nat.le_trans hS.1 (by rw [e1]; exact hz), fun x h1 h2 => by rw [e1, hk x (Nat.lt_of_lt_of_le h1 hS.1) (fun z => h2 (hAw x z))]; exact hS.2.1 x h1 h2, fun x hx => by
      rcases List.mem_append.mp hx with h | h
      · exact hS.2.2 x h
      · exact hAw _ (hL x h)⟩ hM hv9 T' rfl X'
  exact ⟨t2, st t2 a1, b1⟩
theorem ptk_spec : ∀ (n : Nat) (acc st as s : List PV), ptk n acc st = some (as, s) → ∃ ps, ps.length = n ∧ st = ps ++ s ∧ as = ps.reverse ++ acc
  | 0, acc, st, as, s, h => by cases h; exact ⟨[], rfl, rfl, rfl⟩
  | n + 1, acc, [], as, s, h => by cases h
  | n + 1, acc, v :: t, as, s, h => by
    obtain ⟨ps, h1, h2, h3⟩ := ptk_spec n (v :: acc) t as s h
    exact ⟨v :: ps, by simp [h1], by simp [h2], by simp [h3]⟩
theorem pnl_spec : ∀ (l : List PV), pnl l = true → ∀ v ∈ l, nlg v = true
  | [], _, v, h => by cases h
  | w :: l, hp, v, h => by
    unfold pnl at hp
    rw [Bool.and_eq_true] at hp
    rcases List.mem_cons.mp h with rfl | h
    · exact hp.1
    · exact pnl_spec l hp.2 v h
theorem pcl_spec {op a b : Nat} {st as s : List PV} (h : pcl op a b st = some (as, s)) : op = 70 ∧ (∃ ps : List PV, ps.length = b ∧ st = ps ++ s ∧ as = ps.reverse) ∧ s.length ≤ 4 ∧ prc a as = true ∧ (∀ v ∈ as, nlg v = true) ∧ as.length ≤ mxl a := by
  unfold pcl at h
  split at h
  next =>
    cases hx : ptk b [] st with
    | none => rw [hx] at h; cases h
    | some y =>
      obtain ⟨as', s'⟩ := y
      rw [hx] at h
      dsimp only at h
      cases hc : (Nat.ble s'.length 4 && (prc a as' && (pnl as' && Nat.ble as'.length (mxl a)))) with
      | false => rw [hc] at h; cases h
      | true =>
        rw [hc] at h
        cases h
        simp only [Bool.and_eq_true] at hc
        obtain ⟨ps, h1, h2, h3⟩ := ptk_spec b [] st as s hx
        exact ⟨rfl, ⟨ps, h1, h2, by rw [h3, List.append_nil]⟩, Nat.le_of_ble_eq_true hc.1, hc.2.1, pnl_spec as hc.2.2.1, Nat.le_of_ble_eq_true hc.2.2.2⟩
  next => cases h
theorem prc_spec {a : Nat} {as : List PV} (h : prc a as = true) (hk : km a ≠ 99) : ∃ t m As, as = pR t m :: As ∧ cn t = km a := by
  unfold prc at h
  split at h
  next t m As =>
    rw [Bool.or_eq_true] at h
    rcases h with h | h
    · exact absurd (Nat.eq_of_beq_eq_true h) hk
    · exact ⟨t, m, As, rfl, Nat.eq_of_beq_eq_true h⟩
  next => exact absurd (Nat.eq_of_beq_eq_true h) hk
theorem cat_sum {q : Nat → Nat → Nat} : ∀ (s : List PV) (n : Nat), s.length ≤ n → ((s.map (tr q)).map fun v => v.category).sum ≤ 2 * n
  | [], n, _ => by simp
  | v :: s, 0, h => by simp at h
  | v :: s, n + 1, h => by
    have := cat_sum (q := q) s n (by simpa using h)
    have hc : (tr q v).category ≤ 2 := by rcases lv_cat (tr q v) with z | z <;> omega
    simp only [List.map_cons, List.sum_cons]
    omega
theorem ppu_map {q : Nat → Nat → Nat} (r : Option PV) (s : List PV) : (ppu r s).map (tr q) = (r.map (tr q)).toList ++ s.map (tr q) := by cases r <;> rfl
set_option maxHeartbeats 4000000 in
theorem call_sd {l : Launch} {n : Nat} (hN : SND l n) {p : Program} {e : Env} {R : Room} {s : State} {m : MethodId} {args : Array Value} {below : List Frame} {meth : Method} {c : Code} {H : Heap} {locs : List Loc} {cells slots : Nat} {Q : State → Prop} {mi pc a b pc' : Nat} {lsA : Array Slot} {D : va_G} {q : Nat → Nat → Nat} {ca : Nat → ClassId} {μ μ2 : PM} {A : Nat → Prop} {st as s0 : List PV} {xs : Nat → Int32} {L : Nat} {pce : Nat} {lse : PL} {ste : List PV} {r : Option PV}
    (C0 : Cx p s m args c mi D ca) (hR : dep mi ≤ R.frames ∧ lcm mi ≤ R.locals) (hcs : cells ≤ R.cells ∧ slots ≤ R.slots) (hsz : lsA.size = mxl mi) (hok : okL mi pc a b pc') (hv : ∀ v ∈ st, okv v) (hw : wd D q ca μ H) (hq : qij q) (hS : va_S A s.heap H locs) (hA : ∀ t m, vld t m → A (q t m)) (hM : mX xs L μ)
    (hc : pcl 70 a b st = some (as, s0)) (hr : prun n a 0 (pen as (mxl a)) [] μ = some (pce, lse, ste, μ2)) (hp : pret a pce ste = some (0, r))
    (kk : ∀ (H' : Heap) (locs' : List Loc), (∀ v ∈ ppu r s0, okv v) → wd D q ca μ2 H' → va_S A s.heap H' locs' → mX xs L μ2 → W p l e R s m args below meth c H' locs' cells slots Q (F0 m pc' lsA ((ppu r s0).map (tr q)))) :
    W p l e R s m args below meth c H locs cells slots Q (F0 m pc lsA (st.map (tr q))) := by
  obtain ⟨-, ⟨ps, hpl, rfl, rfl⟩, hs4, hprc, hnl, hlen⟩ := pcl_spec hc
  obtain ⟨rfl, hdep, hlaw, hokm, hkind⟩ := hok
  have hoa : ∀ v ∈ ps.reverse, okv v ∧ nlg v = true := fun v h => ⟨hv v (List.mem_append_left _ (List.mem_reverse.mp h)), hnl v h⟩
  have hmet := met_of (D := D) (ca := ca) hN hq hlaw hokm hr hp hoa hlen hM
  have hroom : (rmo a).frames + 1 ≤ R.frames ∧ 8 + (mxl a + 11) + (rmo a).locals ≤ R.locals := by
    have := hokm.2.2.2.1
    show dep a + 1 ≤ R.frames ∧ 8 + (mxl a + 11) + lcm a ≤ R.locals
    omega
  have hw8 : 2 * (F0 m pc lsA ((ps ++ s0).map (tr q))).monitorRoom + ((s0.map (tr q)).map fun v => v.category).sum ≤ 8 := lv_room (cat_sum s0 4 hs4)
  obtain ⟨hx, hb, hml, hown, hts, hK⟩ := C0
  have hgw : ∀ w ∈ wsA a, w ∈ al_w := fun w h => by
    rcases List.mem_cons.mp h with rfl | h
    · exact hokm.2.2.1
    · exact h
  have hs0 : ∀ v ∈ s0, okv v := fun v h => hv v (List.mem_append_right _ h)
  have hpp : (∀ v, r = some v → okv v) → ∀ v ∈ ppu r s0, okv v := by
    intro h v hv
    cases r with
    | none => exact hs0 v hv
    | some w =>
      rcases List.mem_cons.mp hv with rfl | hv
      · exact h _ rfl
      · exact hs0 v hv
  rcases hkind with ⟨i, T, N, h1, hk, hcl, w1, w2, w3, w4, hnp⟩ | ⟨i, h1, w1, w2, w4, hnp⟩
  · obtain ⟨t, mm, As, hre, hct⟩ := prc_spec hprc hk
    have hvt : vld t mm := by
      have h9 := (hoa (pR t mm) (by rw [hre]; exact List.mem_cons_self)).1
      rcases h9 with z | z
      · exact z
      · rw [z.1, show cn 39 = 99 from rfl] at hct
        exact absurd hct.symm hk
    have h90 := vwCl_lt hcl
    have hps : ps = As.reverse ++ [pR t mm] := by
      have := congrArg List.reverse hre
      rw [List.reverse_reverse] at this
      rw [this]; simp
    have hstack : (ps ++ s0).map (tr q) = (As.map (tr q)).reverse ++ .ref (q t mm) :: s0.map (tr q) := by
      rw [hps]; simp [tr]
    have hob := wd_obj hw hvt (by omega)
    rw [hct] at hob
    have hrecv : ∃ cellB : Cell, H[q t mm]? = some cellB ∧ cellB.vm.isStatics = false ∧ s.vm.findClass (om a) = some cellB.cls := by
      obtain ⟨r9, r1, cell, g1, g2, g3, -⟩ := hob
      exact ⟨cell, g1, by rw [g3]; rfl, by rw [g2]; exact (hK.1 (km a) _ hcl).2.1⟩
    have hn : (parseMethodDescriptor (ym a).desc).map (fun d => d.parameters.length) = some As.length := by
      cases hz : parseMethodDescriptor (ym a).desc with
      | none => rw [hz] at hnp; cases hnp
      | some d =>
        rw [hz] at hnp
        have h8 : d.parameters.length + 1 = b := Option.some.inj hnp
        have h7 : ps.length = As.length + 1 := by rw [hps]; simp
        show some d.parameters.length = _
        congr 1; omega
    have hG : GoodIn al_w (wsV (om mi) i (om a) (ym a) (wsA a)) := gd_w (fun w h => by
      unfold wsV at h
      rcases List.mem_append.mp h with h | h
      · simp only [List.mem_cons, List.not_mem_nil, or_false] at h
        rcases h with rfl | rfl | rfl | rfl
        · exact w1
        · exact w2
        · exact w3
        · exact w4
      · exact hgw w h)
    have hrun := va_runV (p := p) (e := e) (below := below) (meth := meth) (As := As.map (tr q)) (b := q t mm) (rest := s0.map (tr q)) (g := F0 m pc lsA ((ps ++ s0).map (tr q))) (locs := locs) (cells := cells) (slots := slots) ⟨hx, hb, hml, hown, hts⟩ hmet (cwV As.length hts hG rfl rfl rfl ⟨hokm.2.1, hokm.2.2.2.2.1, hokm.2.2.2.2.2, hn⟩ hroom) ⟨Pcm_blind, hrecv, fun U hU hW => ⟨by rw [hre]; rfl, by rw [hU]; exact hw, Kp.moved hW.alike hK⟩⟩ rfl (by simp) hsz hstack hw8 h1 hcs
    refine call_go hrun hS hA (fun H' locs' hw' hS' hM' hv9 => ?_)
    rw [← ppu_map]
    exact kk H' locs' (hpp hv9) hw' hS' hM'
  · have hstack : (ps ++ s0).map (tr q) = (ps.reverse.map (tr q)).reverse ++ s0.map (tr q) := by simp
    have hn : (parseMethodDescriptor (ym a).desc).map (fun d => d.parameters.length) = some ps.reverse.length := by rw [hnp]; simp [hpl]
    have hG : GoodIn al_w (va_wsS (om mi) i (ym a) (wsA a)) := gd_w (fun w h => by
      unfold va_wsS at h
      rcases List.mem_append.mp h with h | h
      · simp only [List.mem_cons, List.not_mem_nil, or_false] at h
        rcases h with rfl | rfl | rfl
        · exact w1
        · exact w2
        · rw [hokm.2.1]; exact w4
      · exact hgw w h)
    have hrun := va_runS (p := p) (e := e) (below := below) (meth := meth) (As := ps.reverse.map (tr q)) (rest := s0.map (tr q)) (g := F0 m pc lsA ((ps ++ s0).map (tr q))) (locs := locs) (cells := cells) (slots := slots) ⟨hx, hb, hml, hown, hts⟩ hmet (va_cwS ps.reverse.length hts hG rfl rfl rfl ⟨hokm.2.2.2.2.1, hokm.2.2.2.2.2, hn⟩ hroom) ⟨Pcm_blind, fun U hU hW => ⟨rfl, by rw [hU]; exact hw, Kp.moved hW.alike hK⟩⟩ rfl (by simp) hsz hstack hw8 h1 hcs
    refine call_go hrun hS hA (fun H' locs' hw' hS' hM' hv9 => ?_)
    rw [← ppu_map]
    exact kk H' locs' (hpp hv9) hw' hS' hM'
set_option maxHeartbeats 4000000 in
theorem snd_all (l : Launch) : ∀ n, SND l n := by
  intro n
  induction n with
  | zero => intro D q ca xs L hq mi pc ls st μ pce lse ste μ1 hr; cases hr
  | succ n ih =>
    intro D q ca xs L hq mi pc ls st μ pce lse ste μ1 hr p e R s m args below meth c H locs cells slots Q lsA A C0 hR hcs hl hv hw hS hA hX hM kk
    have hr' : pbody (prun n) mi pc ls st μ = some (pce, lse, ste, μ1) := hr
    unfold pbody at hr'
    cases hc : cd mi pc with
    | none => rw [hc] at hr'; cases hr'
    | some en =>
      obtain ⟨op, a, b, pc'⟩ := en
      have hok := ok_all mi pc op a b pc' hc
      rw [hc] at hr'
      dsimp only at hr'
      cases h1 : pst op a b ls st μ with
      | some y =>
        obtain ⟨ls', st', μ'⟩ := y
        rw [h1] at hr'
        exact pst_sd C0 hok hl hv hw hq hS hA hX hM h1 (fun H' locs' lsB hl' hv' hw' hS' hM' => ih hq _ _ _ _ _ _ _ _ _ hr' C0 hR hcs hl' hv' hw' hS' hA hX hM' kk)
      | none =>
        rw [h1] at hr'
        dsimp only at hr'
        cases h2 : psp op a b ls st μ with
        | some y =>
          obtain ⟨ls', st', μ'⟩ := y
          rw [h2] at hr'
          exact psp_sd C0 hok hl hv hw hq hS hA hX hM h2 (fun H' locs' lsB hl' hv' hw' hS' hM' => ih hq _ _ _ _ _ _ _ _ _ hr' C0 hR hcs hl' hv' hw' hS' hA hX hM' kk)
        | none =>
          rw [h2] at hr'
          dsimp only at hr'
          cases h3 : pbq op st with
          | some y =>
            obtain ⟨P, s0⟩ := y
            rw [h3] at hr'
            dsimp only at hr'
            refine pbq_sd C0 hok hl hv hw hq hS hA hX hM h3 (fun hP lsB hl' hv' => ?_) (fun hP lsB hl' hv' => ?_)
            · rw [if_pos hP] at hr'
              exact ih hq _ _ _ _ _ _ _ _ _ hr' C0 hR hcs hl' hv' hw hS hA hX hM kk
            · rw [if_neg hP] at hr'
              exact ih hq _ _ _ _ _ _ _ _ _ hr' C0 hR hcs hl' hv' hw hS hA hX hM kk
          | none =>
            rw [h3] at hr'
            dsimp only at hr'
            cases h4 : pcl op a b st with
            | some y =>
              obtain ⟨as, s0⟩ := y
              rw [h4] at hr'
              dsimp only at hr'
              obtain ⟨rfl, -⟩ := pcl_spec h4
              cases h5 : prun n a 0 (pen as (mxl a)) [] μ with
              | none => rw [h5] at hr'; cases hr'
              | some z =>
                obtain ⟨pce1, lse1, ste1, μ2⟩ := z
                rw [h5] at hr'
                dsimp only at hr'
                cases h6 : pret a pce1 ste1 with
                | none => rw [h6] at hr'; cases hr'
                | some y =>
                  obtain ⟨k, r⟩ := y
                  rw [h6] at hr'
                  cases k with
                  | succ k => cases hr'
                  | zero => exact call_sd ih C0 hR hcs hl.1 hok hv hw hq hS hA hM h4 h5 h6 (fun H' locs' hv' hw' hS' hM' => ih hq _ _ _ _ _ _ _ _ _ hr' C0 hR hcs hl hv' hw' hS' hA hX hM' kk)
            | none =>
              rw [h4] at hr'
              dsimp only at hr'
              cases h5 : pqs op a b st with
              | some y =>
                obtain ⟨tg, s0⟩ := y
                rw [h5] at hr'
                unfold pqs at h5
                split at h5
                next =>
                  split at h5
                  next x s1 =>
                    cases h5
                    have k := ih hq _ _ _ _ _ _ _ _ _ hr' C0 hR hcs hl (okv_tl hv) hw hS hA hX hM kk
                    have hx := C0.1
                    have hb := C0.2.1
                    rcases hok with ⟨d, lo, hi, offs, len, g1, g2, g5, g6⟩ | ⟨d, ps, len, g1, g2, g3⟩
                    · by_cases hin : lo ≤ x.toInt ∧ x.toInt ≤ hi
                      · obtain ⟨off, k1, k2⟩ := g5 x hin.1 hin.2
                        exact lv_tableIn hx hb g1 (by omega) (by omega) k1 k2 k
                      · rw [g6 x (by omega)] at k
                        exact lv_tableOut hx hb g1 (by omega) g2 k
                    · exact lv_lookup hx hb g1 g2 rfl (g3 x) k
                  next => cases h5
                next => cases h5
              | none =>
                rw [h5] at hr'
                dsimp only at hr'
                by_cases h80 : 80 ≤ op
                · rw [if_pos h80] at hr'
                  cases hr'
                  exact kk H locs lsA hl hv hw hS hM
                · rw [if_neg h80] at hr'; cases hr'
