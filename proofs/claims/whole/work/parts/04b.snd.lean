def wsA (a : Nat) : List Cond := .code (ym a) (bm a) (mxl a) (rtm a) :: al_w
def rmo (a : Nat) : Room := { frames := dep a, cells := 0, slots := 0, locals := lcm a }
/-- what the tables say of a method -/
def okM (a : Nat) : Prop := plainName (ym a).cls = true ∧ (ym a).cls = om a ∧ Cond.code (ym a) (bm a) (mxl a) (rtm a) ∈ al_w ∧ mxl a ≤ 40 ∧ (ym a).cls ≠ "java/lang/invoke/MethodHandle" ∧ (ym a).cls ≠ "java/lang/invoke/VarHandle"
/-- a call: of an instance method, of a static one -/
def okL (mi pc a b pc' : Nat) : Prop := pc' = pc + 3 ∧ (dep a + 1 ≤ dep mi ∧ 8 + (mxl a + 11) + lcm a ≤ lcm mi) ∧ a ≠ lawi ∧ okM a ∧
  ((∃ (i : Nat) (T : u_T) (N : Nat), decode (bm mi) pc = .ok (.invokevirtual i, 3) ∧ km a ≠ 99 ∧ vwCl[km a]? = some (om a, T, N) ∧ Cond.methodLink (om mi) i (ym a) ∈ al_w ∧ Cond.instanceMethod (ym a) ∈ al_w ∧ Cond.selects (om a) (ym a) (ym a) ∈ al_w ∧ Cond.initialized (om a) ∈ al_w ∧ (parseMethodDescriptor (ym a).desc).map (fun d => d.parameters.length + 1) = some b) ∨
   (∃ i : Nat, decode (bm mi) pc = .ok (.invokestatic i, 3) ∧ Cond.methodLink (om mi) i (ym a) ∈ al_w ∧ Cond.static (ym a) ∈ al_w ∧ Cond.initialized (om a) ∈ al_w ∧ (parseMethodDescriptor (ym a).desc).map (fun d => d.parameters.length) = some b))
/-- a switch -/
def okS (mi pc a b : Nat) : Prop := (∃ (d lo hi : Int) (offs : Array Int) (len : Nat), decode (bm mi) pc = .ok (.tableswitch d lo hi offs, len) ∧ (pc : Int) + d = (b : Int) ∧
  (∀ x : Int32, lo ≤ x.toInt → x.toInt ≤ hi → ∃ off, offs[(x.toInt - lo).toNat]? = some off ∧ (pc : Int) + off = (psw (pswt a) b x : Int)) ∧ (∀ x : Int32, (x.toInt < lo ∨ hi < x.toInt) → psw (pswt a) b x = b)) ∨
  ∃ (d : Int) (ps : Array (Int × Int)) (len : Nat), decode (bm mi) pc = .ok (.lookupswitch d ps, len) ∧ (ps.toList.zip (ps.toList.drop 1)).all (fun (a, next) => a.1 < next.1) = true ∧ ∀ x : Int32, (pc : Int) + Op.lookupswitch.offset ps.toList d x.toInt = (psw (pswt a) b x : Int)
/-- the texts of what is thrown, by their places; the classes that are thrown, and the places of their constructors -/
def xstr : List (Nat × String) := [(44, "there is no such parent"), (55, "there are ten classes"), (76, "there is no such method"), (86, "the method has 24 instructions"), (92, "there is no such instruction"), (105, "the method has 4 handlers"), (111, "there can be no such handler"), (120, "there is no such method or instruction"), (155, "the fuel is not 0 .. 3000"), (166, "the fuel is at its end"), (173, "an exception came out")]
def exn : Nat → String
  | 0 => "java/lang/IllegalArgumentException"
  | 1 => "java/lang/UnsupportedOperationException"
  | 2 => "java/lang/IndexOutOfBoundsException"
  | _ => "java/lang/IllegalStateException"
def exi : Nat → Nat
  | 0 => 46
  | 1 => 57
  | 2 => 78
  | _ => 168
/-- a throw -/
def okT (mi pc x : Nat) : Prop := om mi = "ThrowFlow" ∧ ∃ (ix sx : Nat) (tx : String), decode (bm mi) pc = .ok (.new ix, 3) ∧ decode (bm mi) (pc + 3) = .ok (.dup, 1) ∧ decode (bm mi) (pc + 4) = .ok (.ldc sx, 2) ∧ decode (bm mi) (pc + 6) = .ok (.invokespecial (exi x), 3) ∧ decode (bm mi) (pc + 9) = .ok (.athrow, 1) ∧ Cond.classLink "ThrowFlow" ix (exn x) ∈ al_w ∧ (sx, tx) ∈ xstr
/-! What an entry of the code tables says of the bytes; the steps are sound. -/
def okI (mi pc op a b pc' : Nat) : Prop := match op with
  | 0 => (∃ n, decode (bm mi) pc = .ok (.iconst n, 1) ∧ Int32.ofInt n = nI a ∧ pc' = pc + 1) ∨ (∃ n, decode (bm mi) pc = .ok (.bipush n, 2) ∧ (Int8.ofInt n).toInt32 = nI a ∧ pc' = pc + 2) ∨ (∃ n, decode (bm mi) pc = .ok (.sipush n, 3) ∧ (Int16.ofInt n).toInt32 = nI a ∧ pc' = pc + 3) ∨ (∃ i, decode (bm mi) pc = .ok (.ldc i, 2) ∧ Cond.constant (om mi) i (nI a) ∈ al_w ∧ pc' = pc + 2)
  | 1 => decode (bm mi) pc = .ok (.iconst (-1), 1) ∧ pc' = pc + 1
  | 2 => (∃ k : Fin 4, decode (bm mi) pc = .ok (.iload_n k, 1) ∧ (k : Nat) = a ∧ pc' = pc + 1) ∨ (decode (bm mi) pc = .ok (.iload a, 2) ∧ pc' = pc + 2)
  | 3 => (∃ k : Fin 4, decode (bm mi) pc = .ok (.aload_n k, 1) ∧ (k : Nat) = a ∧ pc' = pc + 1) ∨ (decode (bm mi) pc = .ok (.aload a, 2) ∧ pc' = pc + 2)
  | 4 => a < mxl mi ∧ ((∃ k : Fin 4, decode (bm mi) pc = .ok (.istore_n k, 1) ∧ (k : Nat) = a ∧ pc' = pc + 1) ∨ (decode (bm mi) pc = .ok (.istore a, 2) ∧ pc' = pc + 2))
  | 5 => a < mxl mi ∧ ((∃ k : Fin 4, decode (bm mi) pc = .ok (.astore_n k, 1) ∧ (k : Nat) = a ∧ pc' = pc + 1) ∨ (decode (bm mi) pc = .ok (.astore a, 2) ∧ pc' = pc + 2))
  | 6 => decode (bm mi) pc = .ok (.iadd, 1) ∧ pc' = pc + 1
  | 7 => decode (bm mi) pc = .ok (.isub, 1) ∧ pc' = pc + 1
  | 8 => decode (bm mi) pc = .ok (.imul, 1) ∧ pc' = pc + 1
  | 9 => decode (bm mi) pc = .ok (.ior, 1) ∧ pc' = pc + 1
  | 10 => decode (bm mi) pc = .ok (.iand, 1) ∧ pc' = pc + 1
  | 11 => decode (bm mi) pc = .ok (.ixor, 1) ∧ pc' = pc + 1
  | 12 => decode (bm mi) pc = .ok (.ishl, 1) ∧ pc' = pc + 1
  | 13 => decode (bm mi) pc = .ok (.ishr, 1) ∧ pc' = pc + 1
  | 14 => decode (bm mi) pc = .ok (.dup, 1) ∧ pc' = pc + 1
  | 15 => decode (bm mi) pc = .ok (.dup2, 1) ∧ pc' = pc + 1
  | 16 => ∃ i, decode (bm mi) pc = .ok (.getfield i, 3) ∧ pc' = pc + 3 ∧ okF mi i a b
  | 17 => ∃ i, decode (bm mi) pc = .ok (.putfield i, 3) ∧ pc' = pc + 3 ∧ okP mi i a b .int
  | 18 => ∃ f, decode (bm mi) pc = .ok (.goto f, 3) ∧ (pc : Int) + f = (pc' : Int)
  | 19 => a < mxl mi ∧ (∃ n, decode (bm mi) pc = .ok (.iinc a n, 3) ∧ Int32.ofInt n = nI b ∧ pc' = pc + 3)
  | 20 => a < mxl mi ∧ decode (bm mi) pc = .ok (.iinc a (-1), 3) ∧ pc' = pc + 3
  | 21 => decode (bm mi) pc = .ok (.i2l, 1) ∧ pc' = pc + 1
  | 22 => decode (bm mi) pc = .ok (.lcmp, 1) ∧ pc' = pc + 1
  | 23 => decode (bm mi) pc = .ok (.arraylength, 1) ∧ pc' = pc + 1
  | 24 => decode (bm mi) pc = .ok (.arraylength, 1) ∧ pc' = pc + 1 ∧ mi = lawi
  | 30 => decode (bm mi) pc = .ok (.iaload, 1) ∧ pc' = pc + 1
  | 31 => decode (bm mi) pc = .ok (.iastore, 1) ∧ pc' = pc + 1
  | 32 => decode (bm mi) pc = .ok (.aaload, 1) ∧ pc' = pc + 1
  | 33 => decode (bm mi) pc = .ok (.idiv, 1) ∧ pc' = pc + 1
  | 34 => ∃ i, decode (bm mi) pc = .ok (.putfield i, 3) ∧ pc' = pc + 3 ∧ okP mi i a b .boolean
  | 35 => decode (bm mi) pc = .ok (.laload, 1) ∧ pc' = pc + 1
  | 36 => decode (bm mi) pc = .ok (.lastore, 1) ∧ pc' = pc + 1
  | 37 => decode (bm mi) pc = .ok (.iaload, 1) ∧ pc' = pc + 1 ∧ mi = lawi
  | 50 => ∃ f, decode (bm mi) pc = .ok (.ifCond .eq f, 3) ∧ (pc : Int) + f = (a : Int) ∧ pc' = pc + 3
  | 51 => ∃ f, decode (bm mi) pc = .ok (.ifCond .ne f, 3) ∧ (pc : Int) + f = (a : Int) ∧ pc' = pc + 3
  | 52 => ∃ f, decode (bm mi) pc = .ok (.ifCond .lt f, 3) ∧ (pc : Int) + f = (a : Int) ∧ pc' = pc + 3
  | 53 => ∃ f, decode (bm mi) pc = .ok (.ifCond .ge f, 3) ∧ (pc : Int) + f = (a : Int) ∧ pc' = pc + 3
  | 54 => ∃ f, decode (bm mi) pc = .ok (.ifCond .gt f, 3) ∧ (pc : Int) + f = (a : Int) ∧ pc' = pc + 3
  | 55 => ∃ f, decode (bm mi) pc = .ok (.ifCond .le f, 3) ∧ (pc : Int) + f = (a : Int) ∧ pc' = pc + 3
  | 56 => ∃ f, decode (bm mi) pc = .ok (.if_icmp .eq f, 3) ∧ (pc : Int) + f = (a : Int) ∧ pc' = pc + 3
  | 57 => ∃ f, decode (bm mi) pc = .ok (.if_icmp .ne f, 3) ∧ (pc : Int) + f = (a : Int) ∧ pc' = pc + 3
  | 58 => ∃ f, decode (bm mi) pc = .ok (.if_icmp .lt f, 3) ∧ (pc : Int) + f = (a : Int) ∧ pc' = pc + 3
  | 59 => ∃ f, decode (bm mi) pc = .ok (.if_icmp .ge f, 3) ∧ (pc : Int) + f = (a : Int) ∧ pc' = pc + 3
  | 60 => ∃ f, decode (bm mi) pc = .ok (.if_icmp .gt f, 3) ∧ (pc : Int) + f = (a : Int) ∧ pc' = pc + 3
  | 61 => ∃ f, decode (bm mi) pc = .ok (.if_icmp .le f, 3) ∧ (pc : Int) + f = (a : Int) ∧ pc' = pc + 3
  | 62 => okS mi pc a b
  | 70 => okL mi pc a b pc'
  | 80 => decode (bm mi) pc = .ok (.ireturn, 1) ∧ ((a = 1 ∧ rtm mi = some .int) ∨ (a = 2 ∧ rtm mi = some .boolean))
  | 81 => decode (bm mi) pc = .ok (.return_, 1) ∧ rtm mi = none
  | 82 => decode (bm mi) pc = .ok (.areturn, 1) ∧ ∃ n, rtm mi = some (.object n)
  | 90 => okT mi pc a
  | 91 => True
  | _ => False
/-- the script, where the law reads it -/
def okX (q : Nat → Nat → Nat) (xs : Nat → Int32) (L : Nat) (A : Nat → Prop) (s : State) (mi : Nat) : Prop := mi = lawi → va_X (q 39 0) L xs s s.heap ∧ ¬ A (q 39 0) ∧ q 39 0 < s.heap.size
def mX (xs : Nat → Int32) (L : Nat) (μ : PM) : Prop := L < 2 ^ 31 ∧ μ 38 0 0 = nI L ∧ ∀ j, μ 39 0 j = xs j
theorem mX.put {xs : Nat → Int32} {L : Nat} {μ : PM} (h : mX xs L μ) {t m k : Nat} {x : Int32} (h1 : t ≠ 38) (h2 : t ≠ 39) : mX xs L (pu μ t m k x) := by
  refine ⟨h.1, ?_, fun j => ?_⟩
  · show (if 38 = t ∧ 0 = m ∧ 0 = k then x else μ 38 0 0) = _
    rw [if_neg (fun z => h1 z.1.symm)]; exact h.2.1
  · show (if 39 = t ∧ 0 = m ∧ j = k then x else μ 39 0 j) = _
    rw [if_neg (fun z => h2 z.1.symm)]; exact h.2.2 j
section SD
variable {p : Program} {l : Launch} {e : Env} {R : Room} {s : State} {m : MethodId} {args : Array Value} {below : List Frame} {meth : Method} {c : Code} {H : Heap} {locs : List Loc} {cells slots : Nat} {Q : State → Prop}
variable {mi pc op a b pc' : Nat} {lsA : Array Slot} {D : va_G} {q : Nat → Nat → Nat} {ca : Nat → ClassId} {μ μ' : PM} {A : Nat → Prop} {ls ls' : PL} {st st' : List PV} {xs : Nat → Int32} {L : Nat}
theorem okv_tl {v : PV} {s : List PV} (h : ∀ x ∈ v :: s, okv x) : ∀ x ∈ s, okv x := fun x hx => h x (List.mem_cons_of_mem _ hx)
theorem okv_cs {v : PV} {s : List PV} (h : okv v) (h2 : ∀ x ∈ s, okv x) : ∀ x ∈ v :: s, okv x := fun x hx => by rcases List.mem_cons.mp hx with rfl | hx; exact h; exact h2 x hx
set_option maxHeartbeats 4000000 in
theorem pst_sd (C0 : Cx p s m args c mi D ca) (hok : okI mi pc op a b pc') (hl : lok q ls lsA (mxl mi)) (hv : ∀ v ∈ st, okv v) (hw : wd D q ca μ H) (hq : qij q) (hS : va_S A s.heap H locs) (hA : ∀ t m, vld t m → A (q t m)) (hX : okX q xs L A s mi) (hM : mX xs L μ) (hs : pst op a b ls st μ = some (ls', st', μ')) (kk : ∀ (H' : Heap) (locs' : List Loc) (lsB : Array Slot), lok q ls' lsB (mxl mi) → (∀ v ∈ st', okv v) → wd D q ca μ' H' → va_S A s.heap H' locs' → mX xs L μ' → W p l e R s m args below meth c H' locs' cells slots Q (F0 m pc' lsB (st'.map (tr q)))) : W p l e R s m args below meth c H locs cells slots Q (F0 m pc lsA (st.map (tr q))) := by
  have hx := C0.1
  have hb := C0.2.1
  have hown := C0.2.2.2.1
  have hts := C0.2.2.2.2.1
  match op, hok, hs with
  | 0, hok, hs =>
    cases hs
    have hv' : ∀ v ∈ pI (nI a) :: st, okv v := okv_cs trivial hv
    rcases hok with ⟨n, h1, h2, rfl⟩ | ⟨n, h1, h2, rfl⟩ | ⟨n, h1, h2, rfl⟩ | ⟨i, h1, h2, rfl⟩
    · exact lv_iconst hx hb h1 h2 (kk H locs lsA hl hv' hw hS hM)
    · exact lv_bipush hx hb h1 h2 (kk H locs lsA hl hv' hw hS hM)
    · exact lv_sipush hx hb h1 h2 (kk H locs lsA hl hv' hw hS hM)
    · exact lv_ldc hx hb hown (hts _ h2) h1 (kk H locs lsA hl hv' hw hS hM)
  | 1, hok, hs =>
    cases hs
    obtain ⟨h1, rfl⟩ := hok
    exact lv_iconst hx hb h1 rfl (kk H locs lsA hl (okv_cs trivial hv) hw hS hM)
  | 2, hok, hs =>
    dsimp only [pst] at hs
    cases hg : plg ls a with
    | none => rw [hg] at hs; cases hs
    | some v =>
      rw [hg] at hs
      match v, hg, hs with
      | .inl x, hg, hs =>
        cases hs
        have g := (hl.2.2 a _ hg).1
        rcases hok with ⟨k, h1, h2, rfl⟩ | ⟨h1, rfl⟩
        · exact lv_iload_n hx hb h1 h2 g (kk H locs lsA hl (okv_cs trivial hv) hw hS hM)
        · exact lv_iload hx hb h1 g (kk H locs lsA hl (okv_cs trivial hv) hw hS hM)
      | .inr (.inl x), hg, hs => cases hs
      | .inr (.inr (t, n)), hg, hs => cases hs
  | 3, hok, hs =>
    dsimp only [pst] at hs
    cases hg : plg ls a with
    | none => rw [hg] at hs; cases hs
    | some v =>
      rw [hg] at hs
      match v, hg, hs with
      | .inl x, hg, hs => cases hs
      | .inr (.inl x), hg, hs => cases hs
      | .inr (.inr (t, n)), hg, hs =>
        cases hs
        have g := hl.2.2 a _ hg
        rcases hok with ⟨k, h1, h2, rfl⟩ | ⟨h1, rfl⟩
        · exact lv_aload_n hx hb h1 h2 g.1 (kk H locs lsA hl (okv_cs g.2.1 hv) hw hS hM)
        · exact lv_aload hx hb h1 g.1 (kk H locs lsA hl (okv_cs g.2.1 hv) hw hS hM)
  | 4, hok, hs =>
    obtain ⟨h0, hok⟩ := hok
    match st, hv, hs with
    | .inl x :: s0, hv, hs =>
      dsimp only [pst] at hs
      cases hg : pls ls a (pI x) with
      | none => rw [hg] at hs; cases hs
      | some l1 =>
        rw [hg] at hs
        cases hs
        rcases hok with ⟨k, h1, h2, rfl⟩ | ⟨h1, rfl⟩
        · exact lv_istore_n hx hb h1 h2 hl.has h0 rfl (fun lsB hB => kk H locs lsB (hl.put hg ⟨trivial, rfl⟩ hB) (okv_tl hv) hw hS hM)
        · exact lv_istore hx hb h1 hl.has h0 rfl (fun lsB hB => kk H locs lsB (hl.put hg ⟨trivial, rfl⟩ hB) (okv_tl hv) hw hS hM)
    | .inr (.inl x) :: s0, hv, hs => cases hs
    | .inr (.inr (t, n)) :: s0, hv, hs => cases hs
    | [], hv, hs => cases hs
  | 5, hok, hs =>
    obtain ⟨h0, hok⟩ := hok
    match st, hv, hs with
    | .inr (.inr (t, n)) :: s0, hv, hs =>
      dsimp only [pst] at hs
      cases hg : pls ls a (pR t n) with
      | none => rw [hg] at hs; cases hs
      | some l1 =>
        rw [hg] at hs
        cases hs
        rcases hok with ⟨k, h1, h2, rfl⟩ | ⟨h1, rfl⟩
        · exact lv_astore_n hx hb h1 h2 hl.has h0 rfl (fun lsB hB => kk H locs lsB (hl.put hg ⟨(hv _ List.mem_cons_self), rfl⟩ hB) (okv_tl hv) hw hS hM)
        · exact lv_astore hx hb h1 hl.has h0 rfl (fun lsB hB => kk H locs lsB (hl.put hg ⟨(hv _ List.mem_cons_self), rfl⟩ hB) (okv_tl hv) hw hS hM)
    | .inl x :: s0, hv, hs => cases hs
    | .inr (.inl x) :: s0, hv, hs => cases hs
    | [], hv, hs => cases hs
  | 6, hok, hs =>
    obtain ⟨h1, rfl⟩ := hok
    match st, hv, hs with
    | .inl y :: .inl x :: s0, hv, hs =>
      cases hs
      exact lv_iadd hx hb h1 (kk H locs lsA hl (okv_cs trivial (okv_tl (okv_tl hv))) hw hS hM)
    | [], hv, hs => cases hs
    | [.inl y], hv, hs => cases hs
    | .inl y :: .inr z :: s0, hv, hs => cases hs
    | .inr z :: s0, hv, hs => cases hs
  | 7, hok, hs =>
    obtain ⟨h1, rfl⟩ := hok
    match st, hv, hs with
    | .inl y :: .inl x :: s0, hv, hs =>
      cases hs
      exact lv_isub hx hb h1 (kk H locs lsA hl (okv_cs trivial (okv_tl (okv_tl hv))) hw hS hM)
    | [], hv, hs => cases hs
    | [.inl y], hv, hs => cases hs
    | .inl y :: .inr z :: s0, hv, hs => cases hs
    | .inr z :: s0, hv, hs => cases hs
  | 8, hok, hs =>
    obtain ⟨h1, rfl⟩ := hok
    match st, hv, hs with
    | .inl y :: .inl x :: s0, hv, hs =>
      cases hs
      exact lv_imul hx hb h1 (kk H locs lsA hl (okv_cs trivial (okv_tl (okv_tl hv))) hw hS hM)
    | [], hv, hs => cases hs
    | [.inl y], hv, hs => cases hs
    | .inl y :: .inr z :: s0, hv, hs => cases hs
    | .inr z :: s0, hv, hs => cases hs
  | 9, hok, hs =>
    obtain ⟨h1, rfl⟩ := hok
    match st, hv, hs with
    | .inl y :: .inl x :: s0, hv, hs =>
      cases hs
      exact lv_ior hx hb h1 (kk H locs lsA hl (okv_cs trivial (okv_tl (okv_tl hv))) hw hS hM)
    | [], hv, hs => cases hs
    | [.inl y], hv, hs => cases hs
    | .inl y :: .inr z :: s0, hv, hs => cases hs
    | .inr z :: s0, hv, hs => cases hs
  | 10, hok, hs =>
    obtain ⟨h1, rfl⟩ := hok
    match st, hv, hs with
    | .inl y :: .inl x :: s0, hv, hs =>
      cases hs
      exact lv_iand hx hb h1 (kk H locs lsA hl (okv_cs trivial (okv_tl (okv_tl hv))) hw hS hM)
    | [], hv, hs => cases hs
    | [.inl y], hv, hs => cases hs
    | .inl y :: .inr z :: s0, hv, hs => cases hs
    | .inr z :: s0, hv, hs => cases hs
  | 11, hok, hs =>
    obtain ⟨h1, rfl⟩ := hok
    match st, hv, hs with
    | .inl y :: .inl x :: s0, hv, hs =>
      cases hs
      exact lv_ixor hx hb h1 (kk H locs lsA hl (okv_cs trivial (okv_tl (okv_tl hv))) hw hS hM)
    | [], hv, hs => cases hs
    | [.inl y], hv, hs => cases hs
    | .inl y :: .inr z :: s0, hv, hs => cases hs
    | .inr z :: s0, hv, hs => cases hs
  | 12, hok, hs =>
    obtain ⟨h1, rfl⟩ := hok
    match st, hv, hs with
    | .inl y :: .inl x :: s0, hv, hs =>
      cases hs
      exact lv_ishl hx hb h1 (kk H locs lsA hl (okv_cs trivial (okv_tl (okv_tl hv))) hw hS hM)
    | [], hv, hs => cases hs
    | [.inl y], hv, hs => cases hs
    | .inl y :: .inr z :: s0, hv, hs => cases hs
    | .inr z :: s0, hv, hs => cases hs
  | 13, hok, hs =>
    obtain ⟨h1, rfl⟩ := hok
    match st, hv, hs with
    | .inl y :: .inl x :: s0, hv, hs =>
      cases hs
      exact lv_ishr hx hb h1 (kk H locs lsA hl (okv_cs trivial (okv_tl (okv_tl hv))) hw hS hM)
    | [], hv, hs => cases hs
    | [.inl y], hv, hs => cases hs
    | .inl y :: .inr z :: s0, hv, hs => cases hs
    | .inr z :: s0, hv, hs => cases hs
  | 14, hok, hs =>
    obtain ⟨h1, rfl⟩ := hok
    match st, hv, hs with
    | .inl x :: s0, hv, hs =>
      cases hs
      exact lv_dup hx hb h1 rfl (kk H locs lsA hl (okv_cs trivial hv) hw hS hM)
    | .inr (.inr (t, n)) :: s0, hv, hs =>
      cases hs
      exact lv_dup hx hb h1 rfl (kk H locs lsA hl (okv_cs (hv _ List.mem_cons_self) hv) hw hS hM)
    | .inr (.inl x) :: s0, hv, hs => cases hs
    | [], hv, hs => cases hs
  | 15, hok, hs =>
    obtain ⟨h1, rfl⟩ := hok
    match st, hv, hs with
    | .inl x :: .inr (.inr (t, n)) :: s0, hv, hs =>
      cases hs
      exact lv_dup2_11 hx hb h1 rfl rfl (kk H locs lsA hl (okv_cs trivial (okv_cs (hv _ (List.mem_cons_of_mem _ List.mem_cons_self)) hv)) hw hS hM)
    | [], hv, hs => cases hs
    | [.inl y], hv, hs => cases hs
    | .inl y :: .inl z :: s0, hv, hs => cases hs
    | .inl y :: .inr (.inl z) :: s0, hv, hs => cases hs
    | .inr z :: s0, hv, hs => cases hs
  | 16, hok, hs =>
    obtain ⟨i, h1, rfl, h2⟩ := hok
    match st, hv, hs with
    | .inr (.inr (t, n)) :: s0, hv, hs =>
      dsimp only [pst] at hs
      cases hc : Nat.beq (cn t) a with
      | false => rw [hc] at hs; cases hs
      | true =>
        rw [hc] at hs
        dsimp only [cond] at hs
        cases hf : pfl t n b μ with
        | none => rw [hf] at hs; cases hs
        | some v =>
          rw [hf] at hs
          cases hs
          have hc' : cn t = a := Nat.eq_of_beq_eq_true hc
          have h90 : a < 90 := by obtain ⟨_, _, _, z, _⟩ := h2; exact vwCl_lt z
          have hvt : vld t n := by
            rcases hv _ List.mem_cons_self with z | z
            · exact z
            · rw [z.1, show cn 39 = 99 from rfl] at hc'; omega
          exact x_get C0 hw hvt hc' h2 hf h1 (kk H locs lsA hl (okv_cs (pfl_ok hvt hf) (okv_tl hv)) hw hS hM)
    | .inr (.inl x) :: s0, hv, hs => cases hs
    | .inl x :: s0, hv, hs => cases hs
    | [], hv, hs => cases hs
  | 17, hok, hs =>
    obtain ⟨i, h1, rfl, h2⟩ := hok
    match st, hv, hs with
    | .inl x :: .inr (.inr (t, n)) :: s0, hv, hs =>
      dsimp only [pst] at hs
      cases hc : pob t a b with
      | false => rw [hc] at hs; cases hs
      | true =>
        rw [hc] at hs
        cases hs
        obtain ⟨n38, n39⟩ := pob_ne hc
        have hvt : vld t n := by
          rcases hv _ (List.mem_cons_of_mem _ List.mem_cons_self) with z | z
          · exact z
          · exact absurd z.1 n39
        exact x_put C0 hw hq hS (hA t n hvt) hvt hc h2 rfl rfl h1 (fun H1 locs1 hw1 hS1 => kk H1 locs1 lsA hl (okv_tl (okv_tl hv)) hw1 hS1 (hM.put n38 n39))
    | [], hv, hs => cases hs
    | [.inl y], hv, hs => cases hs
    | .inl y :: .inl z :: s0, hv, hs => cases hs
    | .inl y :: .inr (.inl z) :: s0, hv, hs => cases hs
    | .inr z :: s0, hv, hs => cases hs
  | 18, hok, hs =>
    cases hs
    obtain ⟨f, h1, h2⟩ := hok
    exact lv_goto hx hb h1 h2 (kk H locs lsA hl hv hw hS hM)
  | 19, hok, hs =>
    obtain ⟨h0, z, h1, h2, rfl⟩ := hok
    dsimp only [pst] at hs
    cases hg : plg ls a with
    | none => rw [hg] at hs; cases hs
    | some v =>
      rw [hg] at hs
      match v, hg, hs with
      | .inl x, hg, hs =>
        dsimp only at hs
        cases hp : pls ls a (pI (x + nI b)) with
        | none => rw [hp] at hs; cases hs
        | some l1 =>
          rw [hp] at hs
          cases hs
          have hin := plv_in (q := q) ls 0 a _ hg
          rw [Nat.zero_add] at hin
          obtain ⟨k, hk⟩ := List.getElem?_of_mem hin
          exact lv_iinc hx hb h1 hl.has hk (by rw [h2]) h0 rfl (fun lsB hB => kk H locs lsB (hl.put (v := pI (x + nI b)) hp ⟨trivial, rfl⟩ hB) hv hw hS hM)
      | .inr (.inl x), hg, hs => cases hs
      | .inr (.inr (t, n)), hg, hs => cases hs
  | 20, hok, hs =>
    obtain ⟨h0, h1, rfl⟩ := hok
    dsimp only [pst] at hs
    cases hg : plg ls a with
    | none => rw [hg] at hs; cases hs
    | some v =>
      rw [hg] at hs
      match v, hg, hs with
      | .inl x, hg, hs =>
        dsimp only at hs
        cases hp : pls ls a (pI (x + (-1))) with
        | none => rw [hp] at hs; cases hs
        | some l1 =>
          rw [hp] at hs
          cases hs
          have hin := plv_in (q := q) ls 0 a _ hg
          rw [Nat.zero_add] at hin
          obtain ⟨k, hk⟩ := List.getElem?_of_mem hin
          exact lv_iinc hx hb h1 hl.has hk rfl h0 rfl (fun lsB hB => kk H locs lsB (hl.put (v := pI (x + (-1))) hp ⟨trivial, rfl⟩ hB) hv hw hS hM)
      | .inr (.inl x), hg, hs => cases hs
      | .inr (.inr (t, n)), hg, hs => cases hs
  | 21, hok, hs =>
    obtain ⟨h1, rfl⟩ := hok
    match st, hv, hs with
    | .inl x :: s0, hv, hs =>
      cases hs
      exact lv_i2l hx hb h1 rfl (kk H locs lsA hl (okv_cs trivial (okv_tl hv)) hw hS hM)
    | .inr z :: s0, hv, hs => cases hs
    | [], hv, hs => cases hs
  | 22, hok, hs =>
    obtain ⟨h1, rfl⟩ := hok
    match st, hv, hs with
    | .inr (.inl y) :: .inr (.inl x) :: s0, hv, hs =>
      cases hs
      exact W.lcmp hx hb h1 (kk H locs lsA hl (okv_cs trivial (okv_tl (okv_tl hv))) hw hS hM)
    | [], hv, hs => cases hs
    | .inl y :: s0, hv, hs => cases hs
    | [.inr (.inl y)], hv, hs => cases hs
    | .inr (.inr y) :: s0, hv, hs => cases hs
    | .inr (.inl y) :: .inl x :: s0, hv, hs => cases hs
    | .inr (.inl y) :: .inr (.inr x) :: s0, hv, hs => cases hs
  | 23, hok, hs =>
    obtain ⟨h1, rfl⟩ := hok
    match st, hv, hs with
    | .inr (.inr (t, n)) :: s0, hv, hs =>
      dsimp only [pst] at hs
      cases hc : Nat.ble 1 (al t) with
      | false => rw [hc] at hs; cases hs
      | true =>
        rw [hc] at hs
        cases hs
        have h0 : 0 < al t := Nat.le_of_ble_eq_true hc
        have h90 := al_cn t h0
        have hvt : vld t n := by
          rcases hv _ List.mem_cons_self with z | z
          · exact z
          · rw [z.1] at h90; exact absurd h90 (by decide)
        exact x_alen C0 hw hvt h90 h1 (kk H locs lsA hl (okv_cs trivial (okv_tl hv)) hw hS hM)
    | .inr (.inl x) :: s0, hv, hs => cases hs
    | .inl x :: s0, hv, hs => cases hs
    | [], hv, hs => cases hs
  | 24, hok, hs =>
    obtain ⟨h1, rfl, hmi⟩ := hok
    match st, hv, hs with
    | .inr (.inr (t, n)) :: s0, hv, hs =>
      dsimp only [pst] at hs
      cases hc : Nat.beq t 39 with
      | false => rw [hc] at hs; cases hs
      | true =>
        rw [hc] at hs
        cases hs
        have ht : t = 39 := Nat.eq_of_beq_eq_true hc
        subst ht
        have hn : n = 0 := by
          rcases hv _ List.mem_cons_self with z | z
          · rcases z.2 with z | z <;> omega
          · exact z.2
        subst hn
        obtain ⟨g1, g2, g3⟩ := hX hmi
        have k := kk H locs lsA hl (okv_cs trivial (okv_tl hv)) hw hS hM
        rw [List.map_cons, show tr q (pI (μ 38 0 0)) = .int (Int32.ofNat L) from congrArg Value.int hM.2.1] at k
        exact va_slen hx hb g1 g3 g2 hS h1 k
    | .inr (.inl x) :: s0, hv, hs => cases hs
    | .inl x :: s0, hv, hs => cases hs
    | [], hv, hs => cases hs
  | n + 25, hok, hs => cases hs
set_option maxHeartbeats 4000000 in
theorem psp_sd (C0 : Cx p s m args c mi D ca) (hok : okI mi pc op a b pc') (hl : lok q ls lsA (mxl mi)) (hv : ∀ v ∈ st, okv v) (hw : wd D q ca μ H) (hq : qij q) (hS : va_S A s.heap H locs) (hA : ∀ t m, vld t m → A (q t m)) (hX : okX q xs L A s mi) (hM : mX xs L μ) (hs : psp op a b ls st μ = some (ls', st', μ')) (kk : ∀ (H' : Heap) (locs' : List Loc) (lsB : Array Slot), lok q ls' lsB (mxl mi) → (∀ v ∈ st', okv v) → wd D q ca μ' H' → va_S A s.heap H' locs' → mX xs L μ' → W p l e R s m args below meth c H' locs' cells slots Q (F0 m pc' lsB (st'.map (tr q)))) : W p l e R s m args below meth c H locs cells slots Q (F0 m pc lsA (st.map (tr q))) := by
  have hx := C0.1
  have hb := C0.2.1
  match op, hok, hs with
  | 30, hok, hs =>
    obtain ⟨h1, rfl⟩ := hok
    match st, hv, hs with
    | .inl j :: .inr (.inr (t, n)) :: s0, hv, hs =>
      dsimp only [psp] at hs
      by_cases hc : 0 ≤ j.toInt ∧ j.toInt < al t
      · rw [if_pos hc] at hs
        cases hs
        have h90 := al_cn t (by omega)
        have hvt : vld t n := by
          rcases hv _ (List.mem_cons_of_mem _ List.mem_cons_self) with z | z
          · exact z
          · rw [z.1, show cn 39 = 99 from rfl] at h90; omega
        exact x_ald C0 hw hvt hc h1 (kk H locs lsA hl (okv_cs trivial (okv_tl (okv_tl hv))) hw hS hM)
      · rw [if_neg hc] at hs; cases hs
    | [], hv, hs => cases hs
    | [.inl y], hv, hs => cases hs
    | .inl y :: .inl z :: s0, hv, hs => cases hs
    | .inl y :: .inr (.inl z) :: s0, hv, hs => cases hs
    | .inr z :: s0, hv, hs => cases hs
  | 31, hok, hs =>
    obtain ⟨h1, rfl⟩ := hok
    match st, hv, hs with
    | .inl x :: .inl j :: .inr (.inr (t, n)) :: s0, hv, hs =>
      dsimp only [psp] at hs
      by_cases hc : 0 ≤ j.toInt ∧ j.toInt < al t
      · rw [if_pos hc] at hs
        cases hs
        have h90 := al_cn t (by omega)
        have hvt : vld t n := by
          rcases hv _ (List.mem_cons_of_mem _ (List.mem_cons_of_mem _ List.mem_cons_self)) with z | z
          · exact z
          · rw [z.1, show cn 39 = 99 from rfl] at h90; omega
        have n38 : t ≠ 38 := fun z => by rw [z, show cn 38 = 99 from rfl] at h90; omega
        have n39 : t ≠ 39 := fun z => by rw [z, show cn 39 = 99 from rfl] at h90; omega
        exact x_ast C0 hw hq hS (hA t n hvt) hvt hc h1 (fun H1 locs1 hw1 hS1 => kk H1 locs1 lsA hl (okv_tl (okv_tl (okv_tl hv))) hw1 hS1 (hM.put n38 n39))
      · rw [if_neg hc] at hs; cases hs
    | [], hv, hs => cases hs
    | [.inl y], hv, hs => cases hs
    | [.inl y, .inl z], hv, hs => cases hs
    | .inl y :: .inl z :: .inl u :: s0, hv, hs => cases hs
    | .inl y :: .inl z :: .inr (.inl u) :: s0, hv, hs => cases hs
    | .inl y :: .inr z :: s0, hv, hs => cases hs
    | .inr z :: s0, hv, hs => cases hs
  | 32, hok, hs =>
    obtain ⟨h1, rfl⟩ := hok
    match st, hv, hs with
    | .inl j :: .inr (.inr (t, n)) :: s0, hv, hs =>
      dsimp only [psp] at hs
      by_cases hc : t = 3 ∧ 0 ≤ j.toInt ∧ j.toInt < 8
      · rw [if_pos hc] at hs
        cases hs
        obtain ⟨rfl, hj⟩ := hc
        have hvt : vld 3 n := by
          rcases hv _ (List.mem_cons_of_mem _ List.mem_cons_self) with z | z
          · exact z
          · exact absurd z.1 (by decide)
        have hcl : j.toNatClampNeg < 8 := by
          have : (j.toNatClampNeg : Int) = j.toInt := by show ((j.toInt.toNat : Nat) : Int) = _; omega
          omega
        exact x_aal C0 hw hvt hj h1 (kk H locs lsA hl (okv_cs (Or.inl ⟨by decide, Or.inr ⟨by decide, hcl⟩⟩) (okv_tl (okv_tl hv))) hw hS hM)
      · rw [if_neg hc] at hs; cases hs
    | [], hv, hs => cases hs
    | [.inl y], hv, hs => cases hs
    | .inl y :: .inl z :: s0, hv, hs => cases hs
    | .inl y :: .inr (.inl z) :: s0, hv, hs => cases hs
    | .inr z :: s0, hv, hs => cases hs
  | 33, hok, hs =>
    obtain ⟨h1, rfl⟩ := hok
    match st, hv, hs with
    | .inl y :: .inl x :: s0, hv, hs =>
      dsimp only [psp] at hs
      by_cases hc : y = 0
      · rw [if_pos hc] at hs; cases hs
      · rw [if_neg hc] at hs
        cases hs
        exact lv_idiv hx hb h1 hc (kk H locs lsA hl (okv_cs trivial (okv_tl (okv_tl hv))) hw hS hM)
    | [], hv, hs => cases hs
    | [.inl y], hv, hs => cases hs
    | .inl y :: .inr z :: s0, hv, hs => cases hs
    | .inr z :: s0, hv, hs => cases hs
  | 34, hok, hs =>
    obtain ⟨i, h1, rfl, h2⟩ := hok
    match st, hv, hs with
    | .inl x :: .inr (.inr (t, n)) :: s0, hv, hs =>
      dsimp only [psp] at hs
      by_cases hc : pob t a b = true ∧ (x = 0 ∨ x = 1)
      · rw [if_pos hc] at hs
        cases hs
        obtain ⟨hc, h01⟩ := hc
        obtain ⟨n38, n39⟩ := pob_ne hc
        have hvt : vld t n := by
          rcases hv _ (List.mem_cons_of_mem _ List.mem_cons_self) with z | z
          · exact z
          · exact absurd z.1 n39
        exact x_put C0 hw hq hS (hA t n hvt) hvt hc h2 (by rcases h01 with rfl | rfl <;> rfl) (by rcases h01 with rfl | rfl <;> rfl) h1 (fun H1 locs1 hw1 hS1 => kk H1 locs1 lsA hl (okv_tl (okv_tl hv)) hw1 hS1 (hM.put n38 n39))
      · rw [if_neg hc] at hs; cases hs
    | [], hv, hs => cases hs
    | [.inl y], hv, hs => cases hs
    | .inl y :: .inl z :: s0, hv, hs => cases hs
    | .inl y :: .inr (.inl z) :: s0, hv, hs => cases hs
    | .inr z :: s0, hv, hs => cases hs
  | 35, hok, hs =>
    obtain ⟨h1, rfl⟩ := hok
    match st, hv, hs with
    | .inl j :: .inr (.inr (t, n)) :: s0, hv, hs =>
      dsimp only [psp] at hs
      by_cases hc : t = 34 ∧ j = 0
      · rw [if_pos hc] at hs
        cases hs
        obtain ⟨rfl, rfl⟩ := hc
        have hvt : vld 34 n := by
          rcases hv _ (List.mem_cons_of_mem _ List.mem_cons_self) with z | z
          · exact z
          · exact absurd z.1 (by decide)
        have hn : n = 0 := by rcases hvt.2 with z | z <;> omega
        subst hn
        exact x_lld C0 hw hvt h1 (kk H locs lsA hl (okv_cs trivial (okv_tl (okv_tl hv))) hw hS hM)
      · rw [if_neg hc] at hs; cases hs
    | [], hv, hs => cases hs
    | [.inl y], hv, hs => cases hs
    | .inl y :: .inl z :: s0, hv, hs => cases hs
    | .inl y :: .inr (.inl z) :: s0, hv, hs => cases hs
    | .inr z :: s0, hv, hs => cases hs
  | 36, hok, hs =>
    obtain ⟨h1, rfl⟩ := hok
    match st, hv, hs with
    | .inr (.inl x) :: .inl j :: .inr (.inr (t, n)) :: s0, hv, hs =>
      dsimp only [psp] at hs
      by_cases hc : t = 34 ∧ j = 0 ∧ x.toInt32.toInt64 = x
      · rw [if_pos hc] at hs
        cases hs
        obtain ⟨rfl, rfl, hxx⟩ := hc
        have hvt : vld 34 n := by
          rcases hv _ (List.mem_cons_of_mem _ (List.mem_cons_of_mem _ List.mem_cons_self)) with z | z
          · exact z
          · exact absurd z.1 (by decide)
        have hn : n = 0 := by rcases hvt.2 with z | z <;> omega
        subst hn
        exact x_lst C0 hw hq hS (hA 34 0 hvt) hvt hxx h1 (fun H1 locs1 hw1 hS1 => kk H1 locs1 lsA hl (okv_tl (okv_tl (okv_tl hv))) hw1 hS1 (hM.put (by decide) (by decide)))
      · rw [if_neg hc] at hs; cases hs
    | [], hv, hs => cases hs
    | .inl y :: s0, hv, hs => cases hs
    | [.inr (.inl y)], hv, hs => cases hs
    | [.inr (.inl y), .inl z], hv, hs => cases hs
    | .inr (.inr y) :: s0, hv, hs => cases hs
    | .inr (.inl y) :: .inr z :: s0, hv, hs => cases hs
    | .inr (.inl y) :: .inl z :: .inl u :: s0, hv, hs => cases hs
    | .inr (.inl y) :: .inl z :: .inr (.inl u) :: s0, hv, hs => cases hs
  | 37, hok, hs =>
    obtain ⟨h1, rfl, hmi⟩ := hok
    match st, hv, hs with
    | .inl j :: .inr (.inr (t, n)) :: s0, hv, hs =>
      dsimp only [psp] at hs
      by_cases hc : t = 39 ∧ 0 ≤ j.toInt ∧ j.toInt < (μ 38 0 0).toInt
      · rw [if_pos hc] at hs
        cases hs
        obtain ⟨rfl, hj⟩ := hc
        have hn : n = 0 := by
          rcases hv _ (List.mem_cons_of_mem _ List.mem_cons_self) with z | z
          · rcases z.2 with z | z <;> omega
          · exact z.2
        subst hn
        obtain ⟨g1, g2, g3⟩ := hX hmi
        rw [hM.2.1, nI_toInt hM.1] at hj
        have k := kk H locs lsA hl (okv_cs trivial (okv_tl (okv_tl hv))) hw hS hM
        rw [List.map_cons, show tr q (pI (μ 39 0 j.toNatClampNeg)) = .int (xs j.toNatClampNeg) from congrArg Value.int (hM.2.2 _)] at k
        exact va_sld hx hb g1 g3 g2 hS (x_in hj) h1 k
      · rw [if_neg hc] at hs; cases hs
    | [], hv, hs => cases hs
    | [.inl y], hv, hs => cases hs
    | .inl y :: .inl z :: s0, hv, hs => cases hs
    | .inl y :: .inr (.inl z) :: s0, hv, hs => cases hs
    | .inr z :: s0, hv, hs => cases hs
  | 0, hok, hs => cases hs
  | 1, hok, hs => cases hs
  | 2, hok, hs => cases hs
  | 3, hok, hs => cases hs
  | 4, hok, hs => cases hs
  | 5, hok, hs => cases hs
  | 6, hok, hs => cases hs
  | 7, hok, hs => cases hs
  | 8, hok, hs => cases hs
  | 9, hok, hs => cases hs
  | 10, hok, hs => cases hs
  | 11, hok, hs => cases hs
  | 12, hok, hs => cases hs
  | 13, hok, hs => cases hs
  | 14, hok, hs => cases hs
  | 15, hok, hs => cases hs
  | 16, hok, hs => cases hs
  | 17, hok, hs => cases hs
  | 18, hok, hs => cases hs
  | 19, hok, hs => cases hs
  | 20, hok, hs => cases hs
  | 21, hok, hs => cases hs
  | 22, hok, hs => cases hs
  | 23, hok, hs => cases hs
  | 24, hok, hs => cases hs
  | 25, hok, hs => cases hs
  | 26, hok, hs => cases hs
  | 27, hok, hs => cases hs
  | 28, hok, hs => cases hs
  | 29, hok, hs => cases hs
  | n + 38, hok, hs => cases hs
set_option maxHeartbeats 4000000 in
theorem pbq_sd (C0 : Cx p s m args c mi D ca) (hok : okI mi pc op a b pc') (hl : lok q ls lsA (mxl mi)) (hv : ∀ v ∈ st, okv v) (hw : wd D q ca μ H) (hq : qij q) (hS : va_S A s.heap H locs) (hA : ∀ t m, vld t m → A (q t m)) (hX : okX q xs L A s mi) (hM : mX xs L μ) {P : Prop} {s0 : List PV} (hs : pbq op st = some (P, s0)) (k1 : P → ∀ lsB, lok q ls lsB (mxl mi) → (∀ v ∈ s0, okv v) → W p l e R s m args below meth c H locs cells slots Q (F0 m a lsB (s0.map (tr q)))) (k2 : ¬ P → ∀ lsB, lok q ls lsB (mxl mi) → (∀ v ∈ s0, okv v) → W p l e R s m args below meth c H locs cells slots Q (F0 m pc' lsB (s0.map (tr q)))) : W p l e R s m args below meth c H locs cells slots Q (F0 m pc lsA (st.map (tr q))) := by
  have hx := C0.1
  have hb := C0.2.1
  match op, hok, hs with
  | 50, hok, hs =>
    obtain ⟨f, h1, h2, rfl⟩ := hok
    match st, hv, hs with
    | .inl x :: s0, hv, hs =>
      cases hs
      exact lv_if_eq hx hb h1 h2 (fun h => k1 h lsA hl (okv_tl hv)) (fun h => k2 h lsA hl (okv_tl hv))
    | .inr z :: s0, hv, hs => cases hs
    | [], hv, hs => cases hs
  | 51, hok, hs =>
    obtain ⟨f, h1, h2, rfl⟩ := hok
    match st, hv, hs with
    | .inl x :: s0, hv, hs =>
      cases hs
      exact lv_if_ne hx hb h1 h2 (fun h => k1 h lsA hl (okv_tl hv)) (fun h => k2 (fun z => z h) lsA hl (okv_tl hv))
    | .inr z :: s0, hv, hs => cases hs
    | [], hv, hs => cases hs
  | 52, hok, hs =>
    obtain ⟨f, h1, h2, rfl⟩ := hok
    match st, hv, hs with
    | .inl x :: s0, hv, hs =>
      cases hs
      exact lv_if_lt hx hb h1 h2 (fun h => k1 h lsA hl (okv_tl hv)) (fun h => k2 h lsA hl (okv_tl hv))
    | .inr z :: s0, hv, hs => cases hs
    | [], hv, hs => cases hs
  | 53, hok, hs =>
    obtain ⟨f, h1, h2, rfl⟩ := hok
    match st, hv, hs with
    | .inl x :: s0, hv, hs =>
      cases hs
      exact lv_if_ge hx hb h1 h2 (fun h => k1 h lsA hl (okv_tl hv)) (fun h => k2 h lsA hl (okv_tl hv))
    | .inr z :: s0, hv, hs => cases hs
    | [], hv, hs => cases hs
  | 54, hok, hs =>
    obtain ⟨f, h1, h2, rfl⟩ := hok
    match st, hv, hs with
    | .inl x :: s0, hv, hs =>
      cases hs
      exact lv_if_gt hx hb h1 h2 (fun h => k1 h lsA hl (okv_tl hv)) (fun h => k2 h lsA hl (okv_tl hv))
    | .inr z :: s0, hv, hs => cases hs
    | [], hv, hs => cases hs
  | 55, hok, hs =>
    obtain ⟨f, h1, h2, rfl⟩ := hok
    match st, hv, hs with
    | .inl x :: s0, hv, hs =>
      cases hs
      exact lv_if_le hx hb h1 h2 (fun h => k1 h lsA hl (okv_tl hv)) (fun h => k2 h lsA hl (okv_tl hv))
    | .inr z :: s0, hv, hs => cases hs
    | [], hv, hs => cases hs
  | 56, hok, hs =>
    obtain ⟨f, h1, h2, rfl⟩ := hok
    match st, hv, hs with
    | .inl y :: .inl x :: s0, hv, hs =>
      cases hs
      exact lv_icmp_eq hx hb h1 h2 (fun h => k1 h lsA hl (okv_tl (okv_tl hv))) (fun h => k2 h lsA hl (okv_tl (okv_tl hv)))
    | [], hv, hs => cases hs
    | [.inl y], hv, hs => cases hs
    | .inl y :: .inr z :: s0, hv, hs => cases hs
    | .inr z :: s0, hv, hs => cases hs
  | 57, hok, hs =>
    obtain ⟨f, h1, h2, rfl⟩ := hok
    match st, hv, hs with
    | .inl y :: .inl x :: s0, hv, hs =>
      cases hs
      exact lv_icmp_ne hx hb h1 h2 (fun h => k1 h lsA hl (okv_tl (okv_tl hv))) (fun h => k2 (fun z => z h) lsA hl (okv_tl (okv_tl hv)))
    | [], hv, hs => cases hs
    | [.inl y], hv, hs => cases hs
    | .inl y :: .inr z :: s0, hv, hs => cases hs
    | .inr z :: s0, hv, hs => cases hs
  | 58, hok, hs =>
    obtain ⟨f, h1, h2, rfl⟩ := hok
    match st, hv, hs with
    | .inl y :: .inl x :: s0, hv, hs =>
      cases hs
      exact lv_icmp_lt hx hb h1 h2 (fun h => k1 h lsA hl (okv_tl (okv_tl hv))) (fun h => k2 h lsA hl (okv_tl (okv_tl hv)))
    | [], hv, hs => cases hs
    | [.inl y], hv, hs => cases hs
    | .inl y :: .inr z :: s0, hv, hs => cases hs
    | .inr z :: s0, hv, hs => cases hs
  | 59, hok, hs =>
    obtain ⟨f, h1, h2, rfl⟩ := hok
    match st, hv, hs with
    | .inl y :: .inl x :: s0, hv, hs =>
      cases hs
      exact lv_icmp_ge hx hb h1 h2 (fun h => k1 h lsA hl (okv_tl (okv_tl hv))) (fun h => k2 h lsA hl (okv_tl (okv_tl hv)))
    | [], hv, hs => cases hs
    | [.inl y], hv, hs => cases hs
    | .inl y :: .inr z :: s0, hv, hs => cases hs
    | .inr z :: s0, hv, hs => cases hs
  | 60, hok, hs =>
    obtain ⟨f, h1, h2, rfl⟩ := hok
    match st, hv, hs with
    | .inl y :: .inl x :: s0, hv, hs =>
      cases hs
      exact lv_icmp_gt hx hb h1 h2 (fun h => k1 h lsA hl (okv_tl (okv_tl hv))) (fun h => k2 h lsA hl (okv_tl (okv_tl hv)))
    | [], hv, hs => cases hs
    | [.inl y], hv, hs => cases hs
    | .inl y :: .inr z :: s0, hv, hs => cases hs
    | .inr z :: s0, hv, hs => cases hs
  | 61, hok, hs =>
    obtain ⟨f, h1, h2, rfl⟩ := hok
    match st, hv, hs with
    | .inl y :: .inl x :: s0, hv, hs =>
      cases hs
      exact lv_icmp_le hx hb h1 h2 (fun h => k1 h lsA hl (okv_tl (okv_tl hv))) (fun h => k2 h lsA hl (okv_tl (okv_tl hv)))
    | [], hv, hs => cases hs
    | [.inl y], hv, hs => cases hs
    | .inl y :: .inr z :: s0, hv, hs => cases hs
    | .inr z :: s0, hv, hs => cases hs
  | 0, hok, hs => cases hs
  | 1, hok, hs => cases hs
  | 2, hok, hs => cases hs
  | 3, hok, hs => cases hs
  | 4, hok, hs => cases hs
  | 5, hok, hs => cases hs
  | 6, hok, hs => cases hs
  | 7, hok, hs => cases hs
  | 8, hok, hs => cases hs
  | 9, hok, hs => cases hs
  | 10, hok, hs => cases hs
  | 11, hok, hs => cases hs
  | 12, hok, hs => cases hs
  | 13, hok, hs => cases hs
  | 14, hok, hs => cases hs
  | 15, hok, hs => cases hs
  | 16, hok, hs => cases hs
  | 17, hok, hs => cases hs
  | 18, hok, hs => cases hs
  | 19, hok, hs => cases hs
  | 20, hok, hs => cases hs
  | 21, hok, hs => cases hs
  | 22, hok, hs => cases hs
  | 23, hok, hs => cases hs
  | 24, hok, hs => cases hs
  | 25, hok, hs => cases hs
  | 26, hok, hs => cases hs
  | 27, hok, hs => cases hs
  | 28, hok, hs => cases hs
  | 29, hok, hs => cases hs
  | 30, hok, hs => cases hs
  | 31, hok, hs => cases hs
  | 32, hok, hs => cases hs
  | 33, hok, hs => cases hs
  | 34, hok, hs => cases hs
  | 35, hok, hs => cases hs
  | 36, hok, hs => cases hs
  | 37, hok, hs => cases hs
  | 38, hok, hs => cases hs
  | 39, hok, hs => cases hs
  | 40, hok, hs => cases hs
  | 41, hok, hs => cases hs
  | 42, hok, hs => cases hs
  | 43, hok, hs => cases hs
  | 44, hok, hs => cases hs
  | 45, hok, hs => cases hs
  | 46, hok, hs => cases hs
  | 47, hok, hs => cases hs
  | 48, hok, hs => cases hs
  | 49, hok, hs => cases hs
  | n + 62, hok, hs => cases hs
end SD
