def R_law : String := "ThrowFlowLaw"
def lw_P (b : Addr) (xs : List Int32) (args : Array Value) (s : State) : Prop := args = #[.ref b] ∧ s.IntsAt b xs ∧ xs.length ≤ 3072 ∧ (Jvm.Cond.and given_1 narrow_1).before args s = true
def lw_Q (_ : Array Value) (s : State) (o : Outcome) (t : State) : Prop := o = .returned (some (.int 1)) ∧ Framed s o t [] 601024 7293034
def lw_Z (below : List Frame) (a : Array Value) (s : State) : State → Prop := fun t => ∃ o, t.status = .running ∧ Ended t below o ∧ lw_Q a s o t
/-- the law's own end, with 1 on the stack, nothing written that was there before, its room as the claim has it -/
theorem lw_ret {p : Program} {l : Launch} {e : Env} {s : State} {m : MethodId} {below : List Frame} {meth : Method} {c : Code} {b : Nat} (hx : p.tables.exec = Jvm.exec) (hb : c.code = code) (hr : meth.sig.returnType = ret) (hlocks : meth.locks = false) {pc : Nat} {H : Heap} {ls : Array Slot} (hdg : decode code pc = .ok (.ireturn, 1)) : W p l e room_1 s m #[Value.ref b] below meth c H [] 601024 7293034 (lw_Z below #[Value.ref b] s) (F0 m pc ls [.int 1]) := by
  intro T hT X
  obtain ⟨fs, hret, hrun, hended, hW, hframe⟩ := X.leave (v := some (.int 1)) (hlocks := hlocks) (fun h => by rw [hr] at h; cases h)
  have hmeth' : T.vm.method? m = some meth := X.method'
  refine ⟨T.setFrames fs, ?_, .returned (some (.int 1)), hrun, hended, rfl, ⟨_, rfl⟩, hW, hframe⟩
  jvm_step X.here [X.here.top, hx, hb, hdg, hmeth', hr, ret, narrow_b1]
  (try refine ⟨rfl, ?_⟩); (try refine ⟨rfl, ?_⟩)
  first | (intro acts; rw [hret _ acts rfl rfl rfl]) | rw [hret _ _ rfl rfl rfl]
  exact Steps.refl _
/-- what holds at the law's entry: the machine, the code, the tables' words (any of lw_tbl by 'hts w (by decide +kernel)'), the script of L ints xs at the cell b, what the Statement gives of the start (any of its parts by flat_of_before) -/
def lw_At (p : Program) (s : State) (m : MethodId) (meth : Method) (c : Code) (b L : Nat) (xs : Nat → Int32) : Prop :=
  p.tables.exec = Jvm.exec ∧ c.code = code ∧ meth.sig.returnType = ret ∧ c.maxLocals = 7 ∧ s.vm.findClass R_law = some m.cls ∧ (∀ w ∈ lw_tbl, w.before #[Value.ref b] s = true) ∧ va_X b L xs s s.heap ∧ b < s.heap.size ∧ meth.locks = false ∧ (Jvm.Cond.and given_1 narrow_1).before #[Value.ref b] s = true
theorem wE0 : Cond.classLink "ThrowFlowLaw" 8 "ThrowFlow" ∈ al_w := in_w 62 (by decide +kernel) rfl
theorem wE1 : Cond.methodLink "ThrowFlowLaw" 36 yI0 ∈ al_w := in_w 64 (by decide +kernel) rfl
theorem wE2 : Cond.classLink "ThrowFlowLaw" 37 "ThrowFlowModel" ∈ al_w := in_w 649 (by decide +kernel) rfl
theorem wE3 : Cond.methodLink "ThrowFlowLaw" 39 yI6 ∈ al_w := in_w 651 (by decide +kernel) rfl
theorem Gw_out {N0 : Nat} {ca : Nat → ClassId} {k : Nat} (h : 97 ≤ k) : Gw N0 ca k = none := by
  unfold Gw
  rw [if_neg (by omega), if_neg (by omega), if_neg (by omega), if_neg (by omega), if_neg (by omega), if_neg (by omega), if_neg (by omega), if_neg (by omega), if_neg (by omega), if_neg (by omega), if_neg (by omega), if_neg (by omega), if_neg (by omega), if_neg (by omega), if_neg (by omega), if_neg (by omega), if_neg (by omega), if_neg (by omega), if_neg (by omega), if_neg (by omega), if_neg (by omega), if_neg (by omega), if_neg (by omega), if_neg (by omega), if_neg (by omega), if_neg (by omega), if_neg (by omega), if_neg (by omega), if_neg (by omega), if_neg (by omega), if_neg (by omega), if_neg (by omega), if_neg (by omega), if_neg (by omega)]
theorem law_B {L : Nat} {xs : Nat → Int32} (hL : L ≤ 3072) : Bx 105 20 [some (pR 39 0), some (pR 0 0), some (pR 16 0), some (pR 34 0), none, none, none] [] (mu0 L xs) (LwP 512) := by
  (repeat refine Bx_step rfl ?_)
  exact law_go (by omega) 512 0 (mu0 L xs) none none (by omega) (by omega) mu0_rel
set_option maxHeartbeats 4000000 in
set_option maxRecDepth 100000 in
theorem whole_start {p : Program} {e : Env} {s : State} {m : MethodId} {below : List Frame} {meth : Method} {c : Code} (l : Launch) (hfl : l.flags = pinnedFlags ++ [noTraceFlag]) {b L : Nat} {xs : Nat → Int32} (hL : L ≤ 3072) (C0 : lw_At p s m meth c b L xs) : W p l e room_1 s m #[Value.ref b] below meth c s.heap [] 0 0 (lw_Z below #[Value.ref b] s) (entryFrame m ([Value.ref b] : List Value).toArray 7) := by
  obtain ⟨hx, hb, hrt, hml, hown, hts, hXs, hbl, hlocks, hgv⟩ := C0
  have hown : s.vm.findClass "ThrowFlowLaw" = some m.cls := hown
  have htw : ∀ w ∈ al_w, w.before #[Value.ref b] s = true := fun w h => hts w (List.mem_filter.mp h).1
  have hao : va_AO "ThrowFlow$Body" s := va_AO.of (hts _ et_ao)
  have hkw : kw s := ⟨hao, va_Nw.of rfl (hts _ et_nl)⟩
  have hX9 := et_X hts hgv
  obtain ⟨D, ca, hK⟩ := et_K htw hao
  have hl := lv_entry [Value.ref b] (n := 7) (Nat.le_of_ble_eq_true rfl)
  rw [lg_entry_eq]
  generalize (lg_sl [Value.ref b] ++ List.replicate (7 - (lg_sl [Value.ref b]).length) Slot.unset).toArray = lsA at hl ⊢
  have hl : lv_has lsA 7 [(0, .ref b)] := hl
  have hS : va_S (fun x => s.heap.size ≤ x) s.heap s.heap [] := va_S.rf
  have hp : pw D s.heap.size (fun _ => none) s.heap := fun k e h => by cases h
  refine k_new (N0 := s.heap.size) (o := 0) (ci := 0) (fs := [.null, .null, .null]) hx hb htw hK hown rfl wE0 kn0 kt0 dv0 hp rfl hS (Nat.le_of_ble_eq_true rfl) (Nat.le_of_ble_eq_true rfl) (by decide +kernel) (fun H1 hp1 hz1 hS1 => ?_)
  refine lv_dup hx hb (by decide +kernel) rfl ?_
  refine k_go (va_runI (As := []) (b := s.heap.size + 0) (rest := [.ref (s.heap.size + 0)]) ⟨hx, hb, hml, hown, htw⟩ (ini0 l D ca s.heap.size (F := _) (eu_s)) (cwI 0 htw kg0 rfl rfl rfl (htw _ kt0) (htw _ wE1) (htw _ km0) rfl (by decide +kernel) ⟨(Nat.le_of_ble_eq_true rfl), (Nat.le_of_ble_eq_true rfl)⟩) ⟨PcK_blind, fun U hU hW => ⟨rfl, by rw [hU]; exact hz1, by rw [hU]; exact hp1, Kp.moved hW.alike hK, kw.to hW hkw⟩⟩ rfl rfl hl.1 rfl (Nat.le_of_ble_eq_true rfl) (by show decode code 4 = .ok (.invokespecial 36, 3); decide +kernel) ⟨(Nat.le_of_ble_eq_true rfl), (Nat.le_of_ble_eq_true rfl)⟩) hS1 (fun _ h => h) (fun H2 locs2 hp2 hz2 hS2 => ?_)
  refine lv_astore_n (k := 1) (lv' := [(1, .ref (s.heap.size + 0)), (0, .ref b)]) hx hb (by decide +kernel) rfl hl (by decide) rfl (fun ls2 hl2 => ?_)
  refine k_new (N0 := s.heap.size) (o := 80) (ci := 6) (fs := [.int 0, .int 0, .null, .int 0, .null, .null, .null, .null, .null, .null, .null, .null, .null, .int 0, .null, .int 0, .null, .null, .null, .null, .int 0, .int 0, .int 0]) hx hb htw hK hown rfl wE2 kn6 kt6 dv6 hp2 hz2 hS2 (Nat.le_of_ble_eq_true rfl) (Nat.le_of_ble_eq_true rfl) (by decide +kernel) (fun H3 hp3 hz3 hS3 => ?_)
  refine lv_dup hx hb (by decide +kernel) rfl ?_
  refine k_go (va_runI (As := []) (b := s.heap.size + 80) (rest := [.ref (s.heap.size + 80)]) ⟨hx, hb, hml, hown, htw⟩ (ini6 l D ca s.heap.size (F := _) (eu_s)) (cwI 0 htw kg6 rfl rfl rfl (htw _ kt6) (htw _ wE3) (htw _ km6) rfl (by decide +kernel) ⟨(Nat.le_of_ble_eq_true rfl), (Nat.le_of_ble_eq_true rfl)⟩) ⟨PcK_blind, fun U hU hW => ⟨rfl, by rw [hU]; exact hz3, by rw [hU]; exact hp3, Kp.moved hW.alike hK, kw.to hW hkw⟩⟩ rfl rfl hl2.1 rfl (Nat.le_of_ble_eq_true rfl) (by show decode code 12 = .ok (.invokespecial 39, 3); decide +kernel) ⟨(Nat.le_of_ble_eq_true rfl), (Nat.le_of_ble_eq_true rfl)⟩) hS3 (fun _ h => h) (fun H4 locs4 hp4 hz4 hS4 => ?_)
  refine lv_astore_n (k := 2) (lv' := [(2, .ref (s.heap.size + 80)), (1, .ref (s.heap.size + 0)), (0, .ref b)]) hx hb (by decide +kernel) rfl hl2 (by decide) rfl (fun ls4 hl4 => ?_)
  refine lv_iconst (n := 1) (v := 1) hx hb (by decide +kernel) (by decide) ?_
  refine k_newl (N0 := s.heap.size) (o := 96) hx hb htw hK kaL hp4 hz4 hS4 (Nat.le_of_ble_eq_true rfl) (Nat.le_of_ble_eq_true rfl) (by decide +kernel) (fun H5 hp5 hz5 hS5 => ?_)
  refine lv_astore_n (k := 3) (lv' := [(3, .ref (s.heap.size + 96)), (2, .ref (s.heap.size + 80)), (1, .ref (s.heap.size + 0)), (0, .ref b)]) hx hb (by decide +kernel) rfl hl4 (by decide) rfl (fun ls5 hl5 => ?_)
  have hpF := pw.of (F' := Gw s.heap.size ca) hp5 (fun k => by
    obtain h | h | h | h : k = 96 ∨ (80 ≤ k ∧ k < 96) ∨ k < 80 ∨ 97 ≤ k := by omega
    · subst h; rfl
    · exact ((eu_n (by omega)).trans (rng_y (by omega))).symm
    · exact ((eu_n (by omega)).trans ((rng_n (by omega)).trans ((eu_n (by omega)).trans (rng_y (by omega))))).symm
    · rw [Gw_out h]
      symm
      refine (eu_n (by omega)).trans ?_
      refine (rng_n (by omega)).trans ?_
      refine (eu_n (by omega)).trans ?_
      refine (rng_n (by omega)).trans ?_
      exact eu_n (by omega))
  have v0 : ∀ t, t = 0 ∨ t = 16 ∨ t = 34 → okv (pR t 0) := fun t h => Or.inl (by
    rcases h with rfl | rfl | rfl
    · exact ⟨by decide, Or.inl ⟨by decide, rfl⟩⟩
    · exact ⟨by decide, Or.inl ⟨by decide, rfl⟩⟩
    · exact ⟨by decide, Or.inl ⟨by decide, rfl⟩⟩)
  have hlok : lok (qw s.heap.size b) [some (pR 39 0), some (pR 0 0), some (pR 16 0), some (pR 34 0), none, none, none] ls5 (mxl 105) := by
    refine ⟨hl5.1, hl5.2.1, fun k v h => ?_⟩
    match k, h with
    | 0, h => cases h; exact ⟨lv_at hl5 3 rfl, Or.inr ⟨rfl, rfl⟩, rfl⟩
    | 1, h => cases h; exact ⟨lv_at hl5 2 rfl, v0 0 (by omega), rfl⟩
    | 2, h => cases h; exact ⟨lv_at hl5 1 rfl, v0 16 (by omega), rfl⟩
    | 3, h => cases h; exact ⟨lv_at hl5 0 rfl, v0 34 (by omega), rfl⟩
    | 4, h => cases h
    | 5, h => cases h
    | 6, h => cases h
    | n + 7, h => cases h
  have C1 : Cx p s m #[Value.ref b] c 105 D ca := ⟨hx, hb, hml, hown, htw, hK⟩
  refine law_real hfl 512 20 _ [] (mu0 L xs) (law_B hL) (q := qw s.heap.size b) (xs := xs) (L := L) qw_ij C1 hX9 ⟨(Nat.le_of_ble_eq_true rfl), (Nat.le_of_ble_eq_true rfl)⟩ ⟨(Nat.le_of_ble_eq_true rfl), (Nat.le_of_ble_eq_true rfl)⟩ hlok (fun v h => by cases h) (mu0_wd hpF) hS5 (fun t m h => qw_ge h) (fun _ => ⟨hXs, Nat.not_le.mpr hbl, hbl⟩) ⟨by omega, rfl, fun _ => rfl⟩ (fun H' locs' c' s' lsB h1 h2 h3 => ?_)
  refine va_forget h3.2.2 (W.widen ?_ ?_ (lw_ret hx hb hrt hlocks (by decide +kernel)))
  · exact Nat.le_trans h1 (Nat.le_of_ble_eq_true rfl)
  · exact Nat.le_trans h2 (Nat.le_of_ble_eq_true rfl)
set_option maxHeartbeats 4000000 in
theorem lw_walk (l : Launch) (hfl : l.flags = pinnedFlags ++ [noTraceFlag]) (b : Addr) (xs : List Int32) : MetFree l x (headSpec (Jvm.Cond.code x code maxLocals ret :: tables_1) room_1) (lw_P b xs) (fun _ _ _ _ _ => True) lw_Q := by
  refine MetFree.of_bodyS (code := code) (maxLocals := maxLocals) (ret := ret) (by decide) ?_ ?_
  · intro args s m h hn
    obtain ⟨meth, c, h1, h2, h3, h4, h5, h6, -, -⟩ := Cond.code_spec hn (atoms_spec (ws := Jvm.Cond.code x code maxLocals ret :: tables_1) h _ List.mem_cons_self)
    exact ⟨meth, c, h1, h2, h3, h4, h5, h6⟩
  · intro p e s m args below meth c s₁ B hml0 hP _
    obtain ⟨rfl, hx, hbd, hgv⟩ := hP
    obtain ⟨scr, harrAt, hlist, hof, hsmall⟩ := hx
    obtain ⟨hcb, hkn, -, -⟩ := State.arrayAt?_spec harrAt
    have hown : s.vm.findClass R_law = some m.cls := findClass_of_methodNamed B.named
    have hts0 : ∀ c ∈ (Jvm.Cond.code x code maxLocals ret :: tables_1), c.before #[Value.ref b] s = true := atoms_spec (ws := Jvm.Cond.code x code maxLocals ret :: tables_1) B.pre
    have hts : ∀ w ∈ lw_tbl, w.before #[Value.ref b] s = true := k2_hts_sels lw_privs (fun w hw => hts0 w (List.mem_cons_of_mem _ hw)) lw_privs_ok
    have hml : c.maxLocals = 7 := B.maxLocals_eq (hts0 _ List.mem_cons_self)
    have X₀ : Stand p l e room_1 s m #[Value.ref b] below meth c s₁ [] 0 0 := Stand.of_body B
    have hh0 : s₁.heap = s.heap := by rw [B.state]; rfl
    have hsz : scr.slots.size = xs.length := by rw [← Array.length_toList, hlist, List.length_map]
    have hval : ∀ j : Nat, j < xs.length → scr.slots[j]? = some (.int (xs.getD j 0)) := fun j hj => by
      rw [← Array.getElem?_toList, hlist]
      simp [hj]
    have hbl : b < s.heap.size := (Array.getElem?_eq_some_iff.mp hcb).1
    have hX : va_X b xs.length (fun j => xs.getD j 0) s s.heap := ⟨scr, hcb, hof, hkn, hsz, hval⟩
    have K : W p l e room_1 s m #[Value.ref b] below meth c s₁.heap [] 0 0 (lw_Z below #[Value.ref b] s) (entryFrame m ([Value.ref b] : List Value).toArray 7) := by
      rw [hh0]
      exact whole_start l hfl hbd ⟨B.exec, B.bytes, B.returns, hml, hown, hts, hX, hbl, B.notSynchronized, hgv⟩
    obtain ⟨t, a1, o, b1, b2, b3⟩ := K s₁ rfl X₀
    exact ⟨t, o, a1, b1, b2, b3⟩
theorem lw_pre_spec {args : Array Value} {s : State} (h : (Jvm.Cond.and given_1 narrow_1).before args s = true) (hr : rest_1_c.before args s = true) : ∃ (b : Addr) (xs : List Int32), lw_P b xs args s := by
  have hs := flat_of_before _ h
  have hq := flat_of_before _ hr
  have hc : (Cond.count 1).before args s = true := hs _ (by decide +kernel)
  have harr : (Cond.arrayOf (.arg 0) .int).before args s = true := hs _ (by decide +kernel)
  have hle : (Cond.le (.length (.arg 0)) (.int 3072)).before args s = true := hs _ (by decide +kernel)
  have hlen : (Cond.isInt (.length (.arg 0))).before args s = true := hq _ (by decide +kernel)
  have hall : (Cond.all (.arg 0) (.isInt (.elem (.arg 0) (.index 0)))).before args s = true := hq _ (by decide +kernel)
  obtain ⟨b, xs, hb, hx⟩ := State.ints_of_pre rfl harr hlen hall
  have hsm : xs.length < 2 ^ 31 := hx.choose_spec.2.2.2
  have hev : (Term.length (.arg 0)).eval args s none [] s = some (.int xs.length.toInt32) := hx.length_eval hb
  have hv := Cond.le_ints hev (show (Term.int 3072).eval args s none [] s = some (.int 3072) from rfl)
  have hd : xs.length.toInt32 ≤ 3072 := by
    simpa [Cond.before, Cond.holds, hv] using hle
  have hN : xs.length ≤ 3072 := (Int32.ofNat_le_ofNat hsm (by decide)).mp (show Int32.ofNat xs.length ≤ Int32.ofNat 3072 from hd)
  exact ⟨b, xs, Cond.one_arg hc (show args[0]? = some (.ref b) from hb), hx, hN, h⟩
theorem lw_comes (l : Launch) (hfl : l.flags = pinnedFlags ++ [noTraceFlag]) : Comes l x (Jvm.Cond.code x code maxLocals ret :: tables_1) room_1 (fun tb e args s => Calls_1 tb e args s ∧ rest_1 tb e args s ∧ Pre_1 tb e args s)
    (fun _ _ args s o t => lw_Q args s o t) := by
  intro p e ha hc hk s m args below hf hfit hheap happ hpre
  obtain ⟨b, xs, hP⟩ := lw_pre_spec hpre.2.2 hpre.2.1
  obtain ⟨k, o, h1, h2, h3, hQ⟩ := lw_walk l hfl b xs p e ha hc hk s m args below hf ((Spec.applies_iff_loose hf).mp happ).1 hP trivial
  exact ⟨k, o, h1, h2, h3, hQ⟩
theorem lw_frame {s t : State} {o : Outcome} {args : Array Value} (h : Framed s o t [] 601024 7293034) :
    Framed s o t (fieldLocs frame_1_writes args s ++ arrayLocs frame_1_arrays args s ++ staticLocs frame_1_statics s) 601024 7293034 := h
theorem lw_limb (L : Cond) (hL : ∀ (args : Array Value) (s t : State), L.after args s (.returned (some (.int 1))) t = true) :
    ArmFor flags0 classFile x code maxLocals ret World_1 tables_1 room_1 Calls_1 rest_1 Pre_1
      (fun tb e a s o t => postC L tb e a s o t ∧ Framed s o t (fieldLocs frame_1_writes a s ++ arrayLocs frame_1_arrays a s ++ staticLocs frame_1_statics s) 601024 7293034) := by
  intro l hfl _ _ p e ha hc hk s m args below hf hfit hheap happ hpre
  obtain ⟨k, o, h1, h2, h3, rfl, hF⟩ := lw_comes l hfl p e ha hc hk s m args below hf hfit hheap happ hpre
  exact ⟨k, _, h1, h2, h3, hL args s _, lw_frame hF⟩
theorem i_vc : Claimed_1_1 ∧ Claimed_1_2 := ⟨lw_limb limb_1_1 (fun args s t => by simp [limb_1_1, Cond.after, Cond.holds, Cond.value]), lw_limb limb_1_2 (fun args s t => Cond.after_iff.mpr (by
  first | (rw [show limb_1_2 = Cond.eq .result (.int 1) from rfl, Cond.eq_ints (x := 1) (y := 1) rfl rfl]; simp; done) | (simp [limb_1_2, Cond.value, Term.eval]; done)))⟩
