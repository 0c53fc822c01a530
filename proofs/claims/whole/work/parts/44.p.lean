/-! At the law's entry: what throws rest on, the tables of classes. -/
theorem et_d0 : Cond.declares (Bundle.initS "java/lang/RuntimeException") ∈ lw_tbl := List.mem_of_getElem? (i := 388) (by decide +kernel)
theorem et_d1 : Cond.declares (Bundle.initS "java/lang/Exception") ∈ lw_tbl := List.mem_of_getElem? (i := 390) (by decide +kernel)
theorem et_d2 : Cond.declares (Bundle.initS Bundle.tN) ∈ lw_tbl := List.mem_of_getElem? (i := 392) (by decide +kernel)
theorem et_c0 : Cond.castable (exn 0) (exn 0) ∈ lw_tbl := List.mem_of_getElem? (i := 386) (by decide +kernel)
theorem et_c1 : Cond.castable (exn 1) (exn 1) ∈ lw_tbl := List.mem_of_getElem? (i := 459) (by decide +kernel)
theorem et_c2 : Cond.castable (exn 2) (exn 2) ∈ lw_tbl := List.mem_of_getElem? (i := 488) (by decide +kernel)
theorem et_c3 : Cond.castable (exn 3) (exn 3) ∈ lw_tbl := List.mem_of_getElem? (i := 634) (by decide +kernel)
theorem et_l0 : Cond.laysStatic Bundle.tN "UNASSIGNED_STACK" Bundle.steD ∈ lw_tbl := List.mem_of_getElem? (i := 411) (by decide +kernel)
theorem et_l1 : Cond.laysStatic Bundle.tN "SUPPRESSED_SENTINEL" Bundle.listD ∈ lw_tbl := List.mem_of_getElem? (i := 413) (by decide +kernel)
theorem et_ao : Cond.arrayOver (.object "ThrowFlow$Body") ∈ lw_tbl := List.mem_of_getElem? (i := 91) (by decide +kernel)
theorem et_nl : Cond.methodLinkNest "ThrowFlow$Text" 24 ⟨"ThrowFlow$Body", "<init>", "()V"⟩ "ThrowFlow" ∈ lw_tbl := List.mem_of_getElem? (i := 93) (by decide +kernel)
theorem et_s44 : Cond.stringRef "ThrowFlow" 44 "there is no such parent" ∈ lw_tbl := List.mem_of_getElem? (i := 426) (by decide +kernel)
theorem et_s55 : Cond.stringRef "ThrowFlow" 55 "there are ten classes" ∈ lw_tbl := List.mem_of_getElem? (i := 466) (by decide +kernel)
theorem et_s76 : Cond.stringRef "ThrowFlow" 76 "there is no such method" ∈ lw_tbl := List.mem_of_getElem? (i := 495) (by decide +kernel)
theorem et_s86 : Cond.stringRef "ThrowFlow" 86 "the method has 24 instructions" ∈ lw_tbl := List.mem_of_getElem? (i := 506) (by decide +kernel)
theorem et_s92 : Cond.stringRef "ThrowFlow" 92 "there is no such instruction" ∈ lw_tbl := List.mem_of_getElem? (i := 518) (by decide +kernel)
theorem et_s105 : Cond.stringRef "ThrowFlow" 105 "the method has 4 handlers" ∈ lw_tbl := List.mem_of_getElem? (i := 538) (by decide +kernel)
theorem et_s111 : Cond.stringRef "ThrowFlow" 111 "there can be no such handler" ∈ lw_tbl := List.mem_of_getElem? (i := 543) (by decide +kernel)
theorem et_s120 : Cond.stringRef "ThrowFlow" 120 "there is no such method or instruction" ∈ lw_tbl := List.mem_of_getElem? (i := 555) (by decide +kernel)
theorem et_s155 : Cond.stringRef "ThrowFlow" 155 "the fuel is not 0 .. 3000" ∈ lw_tbl := List.mem_of_getElem? (i := 565) (by decide +kernel)
theorem et_s166 : Cond.stringRef "ThrowFlow" 166 "the fuel is at its end" ∈ lw_tbl := List.mem_of_getElem? (i := 641) (by decide +kernel)
theorem et_s173 : Cond.stringRef "ThrowFlow" 173 "an exception came out" ∈ lw_tbl := List.mem_of_getElem? (i := 648) (by decide +kernel)
theorem et_not {A B : String} {args : Array Value} {s : State} (h : (Cond.not (.castable A B)).before args s = true) : cstV A B false s := by
  have hv := Cond.holds_not_iff.mp h
  simp only [Cond.value] at hv
  cases h1 : s.vm.findClass A with
  | none => simp [h1] at hv
  | some c =>
    cases h2 : s.vm.findClass B with
    | none => simp [h1, h2] at hv
    | some t =>
      simp only [h1, h2] at hv
      exact ⟨c, t, h1, h2, Option.some.inj hv⟩
theorem et_yes {A B : String} {args : Array Value} {s : State} (h : (Cond.castable A B).before args s = true) : cstV A B true s := by
  obtain ⟨c, t, h1, h2, h3⟩ := Cond.castable_spec h
  exact ⟨c, t, h1, h2, h3⟩
theorem et_st {fn fd : String} {args : Array Value} {s : State} (h1 : (Cond.laysStatic Bundle.tN fn fd).before args s = true) (h2 : (Cond.isRef (.static Bundle.tN fn fd)).before args s = true) : stF fn fd s := by
  obtain ⟨c, k, i, f, a, cell, g1, g2, g3, g4, g5, g6, g7, g8, g9⟩ := Cond.laysStatic_spec h1
  obtain ⟨u, hu⟩ := Cond.staticRefV g2 g3 g4 g5 g6 h2
  refine ⟨c, k, i, f, a, cell, u.v, g1, g2, g3, g4, g5, g6, g7, g8, g9, hu, ?_⟩
  obtain ⟨v, hv⟩ := u
  cases v with
  | null => exact Or.inl rfl
  | ref x => exact Or.inr ⟨x, rfl⟩
  | _ => cases hv
theorem et_X {b : Nat} {s : State} (hts : ∀ w ∈ lw_tbl, w.before #[Value.ref b] s = true) (hgv : (Jvm.Cond.and given_1 narrow_1).before #[Value.ref b] s = true) : stX s := by
  have hs := flat_of_before _ hgv
  refine ⟨⟨va_Nw.of rfl (hts _ et_d0), va_Nw.of rfl (hts _ et_d1), va_Nw.of rfl (hts _ et_d2)⟩, fun x y hx hy => ?_, et_st (hts _ et_l0) (hs _ (by decide +kernel)), et_st (hts _ et_l1) (hs _ (by decide +kernel)), fun sx tx hm => ?_⟩
  · match x, hx, y, hy with
    | 0, _, 0, _ => exact et_yes (hts _ et_c0)
    | 0, _, 1, _ => exact et_not (hs (.not (.castable (exn 0) (exn 1))) (by decide +kernel))
    | 0, _, 2, _ => exact et_not (hs (.not (.castable (exn 0) (exn 2))) (by decide +kernel))
    | 0, _, 3, _ => exact et_not (hs (.not (.castable (exn 0) (exn 3))) (by decide +kernel))
    | 1, _, 0, _ => exact et_not (hs (.not (.castable (exn 1) (exn 0))) (by decide +kernel))
    | 1, _, 1, _ => exact et_yes (hts _ et_c1)
    | 1, _, 2, _ => exact et_not (hs (.not (.castable (exn 1) (exn 2))) (by decide +kernel))
    | 1, _, 3, _ => exact et_not (hs (.not (.castable (exn 1) (exn 3))) (by decide +kernel))
    | 2, _, 0, _ => exact et_not (hs (.not (.castable (exn 2) (exn 0))) (by decide +kernel))
    | 2, _, 1, _ => exact et_not (hs (.not (.castable (exn 2) (exn 1))) (by decide +kernel))
    | 2, _, 2, _ => exact et_yes (hts _ et_c2)
    | 2, _, 3, _ => exact et_not (hs (.not (.castable (exn 2) (exn 3))) (by decide +kernel))
    | 3, _, 0, _ => exact et_not (hs (.not (.castable (exn 3) (exn 0))) (by decide +kernel))
    | 3, _, 1, _ => exact et_not (hs (.not (.castable (exn 3) (exn 1))) (by decide +kernel))
    | 3, _, 2, _ => exact et_not (hs (.not (.castable (exn 3) (exn 2))) (by decide +kernel))
    | 3, _, 3, _ => exact et_yes (hts _ et_c3)
    | x + 4, hx, y, hy => omega
    | x, hx, y + 4, hy => omega
  · have key : ∀ sx tx, (Cond.stringRef "ThrowFlow" sx tx).before #[Value.ref b] s = true → (Cond.stringRef "ThrowFlow" sx tx).before #[] s = true := by
      intro sx tx h
      simp only [Cond.before, Cond.holds, Cond.value] at h ⊢
      exact h
    simp only [xstr, List.mem_cons, List.not_mem_nil, or_false, Prod.mk.injEq] at hm
    rcases hm with ⟨rfl, rfl⟩ | ⟨rfl, rfl⟩ | ⟨rfl, rfl⟩ | ⟨rfl, rfl⟩ | ⟨rfl, rfl⟩ | ⟨rfl, rfl⟩ | ⟨rfl, rfl⟩ | ⟨rfl, rfl⟩ | ⟨rfl, rfl⟩ | ⟨rfl, rfl⟩ | ⟨rfl, rfl⟩
    · exact key _ _ (hts _ et_s44)
    · exact key _ _ (hts _ et_s55)
    · exact key _ _ (hts _ et_s76)
    · exact key _ _ (hts _ et_s86)
    · exact key _ _ (hts _ et_s92)
    · exact key _ _ (hts _ et_s105)
    · exact key _ _ (hts _ et_s111)
    · exact key _ _ (hts _ et_s120)
    · exact key _ _ (hts _ et_s155)
    · exact key _ _ (hts _ et_s166)
    · exact key _ _ (hts _ et_s173)
theorem et_K {args : Array Value} {s : State} (hts : ∀ w ∈ al_w, w.before args s = true) (hao : va_AO "ThrowFlow$Body" s) : ∃ (D : va_G) (ca : Nat → ClassId), Kp D ca s := by
  have hk : ∀ c : Nat, ∃ z : ClassId × (Nat → Nat), ∀ q : vw_C, vwCl[c]? = some q → u_Kn s q.1 q.2.1 q.2.2 z.1 z.2 := by
    intro c
    have go : ∀ (C : String) (T : u_T) (N : Nat), vwCl[c]? = some (C, T, N) → Cond.instantiable C N ∈ al_w → ∃ z : ClassId × (Nat → Nat), ∀ q : vw_C, vwCl[c]? = some q → u_Kn s q.1 q.2.1 q.2.2 z.1 z.2 := by
      intro C T N h hi
      obtain ⟨cC, iS, hKn⟩ := u_known (n := N) hts (cls_ok c C T N h).1 (hts _ hi)
      exact ⟨(cC, iS), fun q hq => by cases h.symm.trans hq; exact hKn⟩
    match c with
    | 0 => exact go _ _ _ rfl kn0
    | 1 => exact go _ _ _ rfl kn1
    | 2 => exact go _ _ _ rfl kn2
    | 3 => exact go _ _ _ rfl kn3
    | 4 => exact go _ _ _ rfl kn4
    | 5 => exact go _ _ _ rfl kn5
    | 6 => exact go _ _ _ rfl kn6
    | n + 7 => exact ⟨(0, fun _ => 0), fun q hq => by cases hq⟩
  obtain ⟨f, hf⟩ := Classical.axiomOfChoice hk
  obtain ⟨cI, kI, compI, i1, i2, i3⟩ := Cond.arrayClass_spec (hts _ kaI)
  obtain ⟨cJ, kJ, compJ, j1, j2, j3⟩ := Cond.arrayClass_spec (hts _ kaL)
  obtain ⟨comp, cB, kB, b1, b2, b3, b4, b5⟩ := Cond.arrayOver_spec (va_AO.use (A := #[]) hao)
  refine ⟨(fun c => (f c).1, fun c => (f c).2), fun k => match k with | 0 => cI | 1 => cJ | _ => cB, fun c q h => hf c q h, fun k q hq => ?_⟩
  match k, hq with
  | 0, hq => cases hq; exact ⟨fun N z => ⟨(fun k h => by cases h), kI, i2, compI, i3⟩, i1⟩
  | 1, hq => cases hq; exact ⟨fun N z => ⟨(fun k h => by cases h), kJ, j2, compJ, j3⟩, j1⟩
  | 2, hq => cases hq; exact ⟨fun N z => ⟨(fun k h => by cases h), kB, b3, comp, b4⟩, kB, comp, b3, b4, b1, b5⟩
  | n + 3, hq => cases hq
