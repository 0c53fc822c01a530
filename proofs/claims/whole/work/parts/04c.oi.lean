def okE (mi pc : Nat) (e : PE) : Prop := okI mi pc e.1 e.2.1 e.2.2.1 e.2.2.2
theorem tl_ {mi k : Nat} {e0 : PE} (h : okE mi k e0) : ∀ pc e, (bif Nat.beq pc k then some e0 else none) = some e → okE mi pc e := by
  intro pc e he
  cases hc : Nat.beq pc k with
  | false => rw [hc] at he; cases he
  | true => rw [hc] at he; cases he; rw [Nat.eq_of_beq_eq_true hc]; exact h
theorem tn_ {mi k : Nat} {L R : Nat → Option PE} (hl : ∀ pc e, L pc = some e → okE mi pc e) (hr : ∀ pc e, R pc = some e → okE mi pc e) : ∀ pc e, (bif Nat.ble k pc then R pc else L pc) = some e → okE mi pc e := by
  intro pc e he
  cases hc : Nat.ble k pc with
  | false => rw [hc] at he; exact hl pc e he
  | true => rw [hc] at he; exact hr pc e he
theorem tm_ {j : Nat} {k : Nat → Option PE} (h : ∀ pc e, k pc = some e → okE j pc e) : ∀ mi pc e, (bif Nat.beq mi j then k pc else none) = some e → okE mi pc e := by
  intro mi pc e he
  cases hc : Nat.beq mi j with
  | false => rw [hc] at he; cases he
  | true => rw [hc] at he; rw [Nat.eq_of_beq_eq_true hc]; exact h pc e he
theorem tq_ {k : Nat} {L R : Nat → Nat → Option PE} (hl : ∀ mi pc e, L mi pc = some e → okE mi pc e) (hr : ∀ mi pc e, R mi pc = some e → okE mi pc e) : ∀ mi pc e, (bif Nat.ble k mi then R mi pc else L mi pc) = some e → okE mi pc e := by
  intro mi pc e he
  cases hc : Nat.ble k mi with
  | false => rw [hc] at he; exact hl mi pc e he
  | true => rw [hc] at he; exact hr mi pc e he
section OI
variable {mi pc pc' a b : Nat}
theorem oi_m1 (h : decode (bm mi) pc = .ok (.iconst (-1), 1)) (hp : pc' = pc + 1) : okE mi pc (1, 0, 0, pc') := ⟨h, hp⟩
theorem oi_iconst {n : Int} (h : decode (bm mi) pc = .ok (.iconst n, 1)) (hv : Int32.ofInt n = nI a) (hp : pc' = pc + 1) : okE mi pc (0, a, 0, pc') := Or.inl ⟨n, h, hv, hp⟩
theorem oi_bipush {n : Int} (h : decode (bm mi) pc = .ok (.bipush n, 2)) (hv : (Int8.ofInt n).toInt32 = nI a) (hp : pc' = pc + 2) : okE mi pc (0, a, 0, pc') := Or.inr (Or.inl ⟨n, h, hv, hp⟩)
theorem oi_sipush {n : Int} (h : decode (bm mi) pc = .ok (.sipush n, 3)) (hv : (Int16.ofInt n).toInt32 = nI a) (hp : pc' = pc + 3) : okE mi pc (0, a, 0, pc') := Or.inr (Or.inr (Or.inl ⟨n, h, hv, hp⟩))
theorem oi_ldc {i : Nat} (h : decode (bm mi) pc = .ok (.ldc i, 2)) (hv : Cond.constant (om mi) i (nI a) ∈ al_w) (hp : pc' = pc + 2) : okE mi pc (0, a, 0, pc') := Or.inr (Or.inr (Or.inr ⟨i, h, hv, hp⟩))
theorem oi_iload_n {k : Fin 4} (h : decode (bm mi) pc = .ok (.iload_n k, 1)) (hk : (k : Nat) = a) (hp : pc' = pc + 1) : okE mi pc (2, a, 0, pc') := Or.inl ⟨k, h, hk, hp⟩
theorem oi_iload (h : decode (bm mi) pc = .ok (.iload a, 2)) (hp : pc' = pc + 2) : okE mi pc (2, a, 0, pc') := Or.inr ⟨h, hp⟩
theorem oi_aload_n {k : Fin 4} (h : decode (bm mi) pc = .ok (.aload_n k, 1)) (hk : (k : Nat) = a) (hp : pc' = pc + 1) : okE mi pc (3, a, 0, pc') := Or.inl ⟨k, h, hk, hp⟩
theorem oi_aload (h : decode (bm mi) pc = .ok (.aload a, 2)) (hp : pc' = pc + 2) : okE mi pc (3, a, 0, pc') := Or.inr ⟨h, hp⟩
theorem oi_istore_n {k : Fin 4} (h0 : a < mxl mi) (h : decode (bm mi) pc = .ok (.istore_n k, 1)) (hk : (k : Nat) = a) (hp : pc' = pc + 1) : okE mi pc (4, a, 0, pc') := ⟨h0, Or.inl ⟨k, h, hk, hp⟩⟩
theorem oi_istore (h0 : a < mxl mi) (h : decode (bm mi) pc = .ok (.istore a, 2)) (hp : pc' = pc + 2) : okE mi pc (4, a, 0, pc') := ⟨h0, Or.inr ⟨h, hp⟩⟩
theorem oi_astore_n {k : Fin 4} (h0 : a < mxl mi) (h : decode (bm mi) pc = .ok (.astore_n k, 1)) (hk : (k : Nat) = a) (hp : pc' = pc + 1) : okE mi pc (5, a, 0, pc') := ⟨h0, Or.inl ⟨k, h, hk, hp⟩⟩
theorem oi_astore (h0 : a < mxl mi) (h : decode (bm mi) pc = .ok (.astore a, 2)) (hp : pc' = pc + 2) : okE mi pc (5, a, 0, pc') := ⟨h0, Or.inr ⟨h, hp⟩⟩
theorem oi_iadd (h : decode (bm mi) pc = .ok (.iadd, 1)) (hp : pc' = pc + 1) : okE mi pc (6, 0, 0, pc') := ⟨h, hp⟩
theorem oi_isub (h : decode (bm mi) pc = .ok (.isub, 1)) (hp : pc' = pc + 1) : okE mi pc (7, 0, 0, pc') := ⟨h, hp⟩
theorem oi_imul (h : decode (bm mi) pc = .ok (.imul, 1)) (hp : pc' = pc + 1) : okE mi pc (8, 0, 0, pc') := ⟨h, hp⟩
theorem oi_ior (h : decode (bm mi) pc = .ok (.ior, 1)) (hp : pc' = pc + 1) : okE mi pc (9, 0, 0, pc') := ⟨h, hp⟩
theorem oi_iand (h : decode (bm mi) pc = .ok (.iand, 1)) (hp : pc' = pc + 1) : okE mi pc (10, 0, 0, pc') := ⟨h, hp⟩
theorem oi_ixor (h : decode (bm mi) pc = .ok (.ixor, 1)) (hp : pc' = pc + 1) : okE mi pc (11, 0, 0, pc') := ⟨h, hp⟩
theorem oi_ishl (h : decode (bm mi) pc = .ok (.ishl, 1)) (hp : pc' = pc + 1) : okE mi pc (12, 0, 0, pc') := ⟨h, hp⟩
theorem oi_ishr (h : decode (bm mi) pc = .ok (.ishr, 1)) (hp : pc' = pc + 1) : okE mi pc (13, 0, 0, pc') := ⟨h, hp⟩
theorem oi_dup (h : decode (bm mi) pc = .ok (.dup, 1)) (hp : pc' = pc + 1) : okE mi pc (14, 0, 0, pc') := ⟨h, hp⟩
theorem oi_dup2 (h : decode (bm mi) pc = .ok (.dup2, 1)) (hp : pc' = pc + 1) : okE mi pc (15, 0, 0, pc') := ⟨h, hp⟩
theorem oi_i2l (h : decode (bm mi) pc = .ok (.i2l, 1)) (hp : pc' = pc + 1) : okE mi pc (21, 0, 0, pc') := ⟨h, hp⟩
theorem oi_lcmp (h : decode (bm mi) pc = .ok (.lcmp, 1)) (hp : pc' = pc + 1) : okE mi pc (22, 0, 0, pc') := ⟨h, hp⟩
theorem oi_alen (h : decode (bm mi) pc = .ok (.arraylength, 1)) (hp : pc' = pc + 1) : okE mi pc (23, 0, 0, pc') := ⟨h, hp⟩
theorem oi_iald (h : decode (bm mi) pc = .ok (.iaload, 1)) (hp : pc' = pc + 1) : okE mi pc (30, 0, 0, pc') := ⟨h, hp⟩
theorem oi_iast (h : decode (bm mi) pc = .ok (.iastore, 1)) (hp : pc' = pc + 1) : okE mi pc (31, 0, 0, pc') := ⟨h, hp⟩
theorem oi_aald (h : decode (bm mi) pc = .ok (.aaload, 1)) (hp : pc' = pc + 1) : okE mi pc (32, 0, 0, pc') := ⟨h, hp⟩
theorem oi_idiv (h : decode (bm mi) pc = .ok (.idiv, 1)) (hp : pc' = pc + 1) : okE mi pc (33, 0, 0, pc') := ⟨h, hp⟩
theorem oi_lald (h : decode (bm mi) pc = .ok (.laload, 1)) (hp : pc' = pc + 1) : okE mi pc (35, 0, 0, pc') := ⟨h, hp⟩
theorem oi_last (h : decode (bm mi) pc = .ok (.lastore, 1)) (hp : pc' = pc + 1) : okE mi pc (36, 0, 0, pc') := ⟨h, hp⟩
theorem oi_alenS (h : decode (bm mi) pc = .ok (.arraylength, 1)) (hp : pc' = pc + 1) (hm : mi = lawi) : okE mi pc (24, 0, 0, pc') := ⟨h, hp, hm⟩
theorem oi_ialdS (h : decode (bm mi) pc = .ok (.iaload, 1)) (hp : pc' = pc + 1) (hm : mi = lawi) : okE mi pc (37, 0, 0, pc') := ⟨h, hp, hm⟩
theorem oi_getfield {i : Nat} (h : decode (bm mi) pc = .ok (.getfield i, 3)) (hp : pc' = pc + 3) (hf : okF mi i a b) : okE mi pc (16, a, b, pc') := ⟨i, h, hp, hf⟩
theorem oi_putfield {i : Nat} (h : decode (bm mi) pc = .ok (.putfield i, 3)) (hp : pc' = pc + 3) (hf : okP mi i a b .int) : okE mi pc (17, a, b, pc') := ⟨i, h, hp, hf⟩
theorem oi_putz {i : Nat} (h : decode (bm mi) pc = .ok (.putfield i, 3)) (hp : pc' = pc + 3) (hf : okP mi i a b .boolean) : okE mi pc (34, a, b, pc') := ⟨i, h, hp, hf⟩
theorem oi_goto {f : Int} (h : decode (bm mi) pc = .ok (.goto f, 3)) (hp : (pc : Int) + f = (pc' : Int)) : okE mi pc (18, 0, 0, pc') := ⟨f, h, hp⟩
theorem oi_iinc {n : Int} (h0 : a < mxl mi) (h : decode (bm mi) pc = .ok (.iinc a n, 3)) (hv : Int32.ofInt n = nI b) (hp : pc' = pc + 3) : okE mi pc (19, a, b, pc') := ⟨h0, n, h, hv, hp⟩
theorem oi_idec (h0 : a < mxl mi) (h : decode (bm mi) pc = .ok (.iinc a (-1), 3)) (hp : pc' = pc + 3) : okE mi pc (20, a, 0, pc') := ⟨h0, h, hp⟩
theorem oi_ifeq {f : Int} (h : decode (bm mi) pc = .ok (.ifCond .eq f, 3)) (ht : (pc : Int) + f = (a : Int)) (hp : pc' = pc + 3) : okE mi pc (50, a, 0, pc') := ⟨f, h, ht, hp⟩
theorem oi_ifne {f : Int} (h : decode (bm mi) pc = .ok (.ifCond .ne f, 3)) (ht : (pc : Int) + f = (a : Int)) (hp : pc' = pc + 3) : okE mi pc (51, a, 0, pc') := ⟨f, h, ht, hp⟩
theorem oi_iflt {f : Int} (h : decode (bm mi) pc = .ok (.ifCond .lt f, 3)) (ht : (pc : Int) + f = (a : Int)) (hp : pc' = pc + 3) : okE mi pc (52, a, 0, pc') := ⟨f, h, ht, hp⟩
theorem oi_ifge {f : Int} (h : decode (bm mi) pc = .ok (.ifCond .ge f, 3)) (ht : (pc : Int) + f = (a : Int)) (hp : pc' = pc + 3) : okE mi pc (53, a, 0, pc') := ⟨f, h, ht, hp⟩
theorem oi_ifgt {f : Int} (h : decode (bm mi) pc = .ok (.ifCond .gt f, 3)) (ht : (pc : Int) + f = (a : Int)) (hp : pc' = pc + 3) : okE mi pc (54, a, 0, pc') := ⟨f, h, ht, hp⟩
theorem oi_ifle {f : Int} (h : decode (bm mi) pc = .ok (.ifCond .le f, 3)) (ht : (pc : Int) + f = (a : Int)) (hp : pc' = pc + 3) : okE mi pc (55, a, 0, pc') := ⟨f, h, ht, hp⟩
theorem oi_if_icmpeq {f : Int} (h : decode (bm mi) pc = .ok (.if_icmp .eq f, 3)) (ht : (pc : Int) + f = (a : Int)) (hp : pc' = pc + 3) : okE mi pc (56, a, 0, pc') := ⟨f, h, ht, hp⟩
theorem oi_if_icmpne {f : Int} (h : decode (bm mi) pc = .ok (.if_icmp .ne f, 3)) (ht : (pc : Int) + f = (a : Int)) (hp : pc' = pc + 3) : okE mi pc (57, a, 0, pc') := ⟨f, h, ht, hp⟩
theorem oi_if_icmplt {f : Int} (h : decode (bm mi) pc = .ok (.if_icmp .lt f, 3)) (ht : (pc : Int) + f = (a : Int)) (hp : pc' = pc + 3) : okE mi pc (58, a, 0, pc') := ⟨f, h, ht, hp⟩
theorem oi_if_icmpge {f : Int} (h : decode (bm mi) pc = .ok (.if_icmp .ge f, 3)) (ht : (pc : Int) + f = (a : Int)) (hp : pc' = pc + 3) : okE mi pc (59, a, 0, pc') := ⟨f, h, ht, hp⟩
theorem oi_if_icmpgt {f : Int} (h : decode (bm mi) pc = .ok (.if_icmp .gt f, 3)) (ht : (pc : Int) + f = (a : Int)) (hp : pc' = pc + 3) : okE mi pc (60, a, 0, pc') := ⟨f, h, ht, hp⟩
theorem oi_if_icmple {f : Int} (h : decode (bm mi) pc = .ok (.if_icmp .le f, 3)) (ht : (pc : Int) + f = (a : Int)) (hp : pc' = pc + 3) : okE mi pc (61, a, 0, pc') := ⟨f, h, ht, hp⟩
theorem oi_callV {i : Nat} {T : u_T} {N : Nat} (h : decode (bm mi) pc = .ok (.invokevirtual i, 3)) (hp : pc' = pc + 3) (hd : dep a + 1 ≤ dep mi ∧ 8 + (mxl a + 11) + lcm a ≤ lcm mi) (hl : a ≠ lawi) (hm : okM a) (hk : km a ≠ 99) (hc : vwCl[km a]? = some (om a, T, N)) (w1 : Cond.methodLink (om mi) i (ym a) ∈ al_w) (w2 : Cond.instanceMethod (ym a) ∈ al_w) (w3 : Cond.selects (om a) (ym a) (ym a) ∈ al_w) (w4 : Cond.initialized (om a) ∈ al_w) (hn : (parseMethodDescriptor (ym a).desc).map (fun d => d.parameters.length + 1) = some b) : okE mi pc (70, a, b, pc') := ⟨hp, hd, hl, hm, Or.inl ⟨i, T, N, h, hk, hc, w1, w2, w3, w4, hn⟩⟩
theorem oi_callS {i : Nat} (h : decode (bm mi) pc = .ok (.invokestatic i, 3)) (hp : pc' = pc + 3) (hd : dep a + 1 ≤ dep mi ∧ 8 + (mxl a + 11) + lcm a ≤ lcm mi) (hl : a ≠ lawi) (hm : okM a) (w1 : Cond.methodLink (om mi) i (ym a) ∈ al_w) (w2 : Cond.static (ym a) ∈ al_w) (w4 : Cond.initialized (om a) ∈ al_w) (hn : (parseMethodDescriptor (ym a).desc).map (fun d => d.parameters.length) = some b) : okE mi pc (70, a, b, pc') := ⟨hp, hd, hl, hm, Or.inr ⟨i, h, w1, w2, w4, hn⟩⟩
theorem oi_ireturnI (h : decode (bm mi) pc = .ok (.ireturn, 1)) (hr : rtm mi = some .int) : okE mi pc (80, 1, 0, 0) := ⟨h, Or.inl ⟨rfl, hr⟩⟩
theorem oi_ireturnZ (h : decode (bm mi) pc = .ok (.ireturn, 1)) (hr : rtm mi = some .boolean) : okE mi pc (80, 2, 0, 0) := ⟨h, Or.inr ⟨rfl, hr⟩⟩
theorem oi_return (h : decode (bm mi) pc = .ok (.return_, 1)) (hr : rtm mi = none) : okE mi pc (81, 0, 0, 0) := ⟨h, hr⟩
theorem oi_areturn (h : decode (bm mi) pc = .ok (.areturn, 1)) (hr : ∃ n, rtm mi = some (.object n)) : okE mi pc (82, 0, 0, 0) := ⟨h, hr⟩
theorem psw_out {d : Nat} {x : Int32} : ∀ (l : List (Nat × Nat)), (∀ p ∈ l, x ≠ nI p.1) → psw l d x = d
  | [], _ => rfl
  | (k, t) :: l, h => by
    show (if x = nI k then t else psw l d x) = d
    rw [if_neg (h (k, t) List.mem_cons_self)]
    exact psw_out l (fun p hp => h p (List.mem_cons_of_mem _ hp))
theorem oi_table {lo n len : Nat} {d : Int} {offs : Array Int} (h : decode (bm mi) pc = .ok (.tableswitch d (lo : Int) ((lo : Int) + (n : Int) - 1) offs, len)) (hd : (pc : Int) + d = (b : Int)) (ho : ∀ k, k < n → offs[k]?.map (fun o => (pc : Int) + o) = some (psw (pswt a) b (nI (lo + k)) : Int)) (hk : (decide (lo + n < 1000) && (pswt a).all (fun p => decide (lo ≤ p.1 ∧ p.1 < lo + n))) = true) : okI mi pc 62 a b pc' := by
  rw [Bool.and_eq_true, decide_eq_true_eq] at hk
  show okS mi pc a b
  unfold okS
  refine Or.inl ⟨d, lo, (lo : Int) + n - 1, offs, len, h, hd, fun x h1 h2 => ?_, fun x hx => ?_⟩
  · have hx : ∃ k : Nat, x = nI k ∧ k < 1000 ∧ (k : Int) = x.toInt := by
      refine ⟨x.toInt.toNat, ?_, by omega, by omega⟩
      apply Int32.toInt_inj.mp
      rw [nI_toInt (by omega)]; omega
    obtain ⟨k, rfl, h3, h4⟩ := hx
    rw [← h4] at h1 h2 ⊢
    have h5 := ho (k - lo) (by omega)
    rw [show lo + (k - lo) = k by omega] at h5
    rw [show ((k : Int) - (lo : Int)).toNat = k - lo by omega]
    cases hz : offs[k - lo]? with
    | none => rw [hz] at h5; cases h5
    | some o => rw [hz] at h5; exact ⟨o, rfl, Option.some.inj h5⟩
  · refine psw_out _ (fun p hp e => ?_)
    have := List.all_eq_true.mp hk.2 p hp
    rw [decide_eq_true_eq] at this
    rw [e, nI_toInt (by omega)] at hx
    omega
theorem oi_look {len : Nat} {d : Int} {ps : Array (Int × Int)} (h : decode (bm mi) pc = .ok (.lookupswitch d ps, len)) (h2 : (ps.toList.zip (ps.toList.drop 1)).all (fun (a, next) => a.1 < next.1) = true) (hd : (pc : Int) + d = (b : Int)) (ho : ps.toList.map (fun p => (p.1, (pc : Int) + p.2)) = (pswt a).map (fun p => ((p.1 : Int), (p.2 : Int))) ∧ (pswt a).all (fun p => decide (p.1 < 1000)) = true) : okI mi pc 62 a b pc' := by
  show okS mi pc a b
  unfold okS
  refine Or.inr ⟨d, ps, len, h, h2, fun x => ?_⟩
  obtain ⟨h3, h4⟩ := ho
  revert h3 h4
  generalize ps.toList = l
  generalize pswt a = k
  intro h3 h4
  induction l generalizing k with
  | nil =>
    cases k with
    | nil => simp [Op.lookupswitch.offset, psw, hd]
    | cons y k => cases h3
  | cons y l ih =>
    cases k with
    | nil => cases h3
    | cons z k =>
      obtain ⟨y1, y2⟩ := y
      obtain ⟨z1, z2⟩ := z
      simp only [List.map_cons, List.cons.injEq, Prod.mk.injEq] at h3
      obtain ⟨⟨e1, e2⟩, h3⟩ := h3
      simp only [List.all_cons, Bool.and_eq_true, decide_eq_true_eq] at h4
      rw [Op.lookupswitch.offset_cons]
      show _ = ((if x = nI z1 then z2 else psw k b x : Nat) : Int)
      by_cases hx : x = nI z1
      · rw [if_pos hx, hx, nI_toInt (by omega), if_pos (by omega)]
        exact e2
      · rw [if_neg hx, if_neg (fun q => hx (Int32.toInt_inj.mp (by rw [nI_toInt (by omega)]; omega)))]
        exact ih k h3 h4.2
end OI
