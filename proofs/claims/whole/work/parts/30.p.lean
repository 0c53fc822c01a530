/-! Runs to a stop, and what the law does at its stops. -/
def Bx (mi pc : Nat) (ls : PL) (st : List PV) (μ : PM) (P : Nat → PL → List PV → PM → Prop) : Prop :=
  ∃ (n pce : Nat) (lse : PL) (ste : List PV) (μ1 : PM), prun n mi pc ls st μ = some (pce, lse, ste, μ1) ∧ P pce lse ste μ1
section BX
variable {mi pc pc' op a b : Nat} {ls ls' : PL} {st st' s : List PV} {μ μ' : PM} {Q : Nat → PL → List PV → PM → Prop}
theorem Bx.mono {Q' : Nat → PL → List PV → PM → Prop} (h : Bx mi pc ls st μ Q) (hq : ∀ a b c d, Q a b c d → Q' a b c d) : Bx mi pc ls st μ Q' := by
  obtain ⟨n, pce, lse, ste, μ1, h1, h2⟩ := h
  exact ⟨n, pce, lse, ste, μ1, h1, hq _ _ _ _ h2⟩
theorem Ax.mono {Q Q' : Nat → Option PV → PM → Prop} (h : Ax mi pc ls st μ Q) (hq : ∀ a b c, Q a b c → Q' a b c) : Ax mi pc ls st μ Q' := by
  obtain ⟨n, pce, lse, ste, μ1, x, r, h1, h2, h3⟩ := h
  exact ⟨n, pce, lse, ste, μ1, x, r, h1, h2, hq _ _ _ h3⟩
theorem Bx_step (hs : pstp (cd mi pc) ls st μ = some (pc', ls', st', μ')) (h : Bx mi pc' ls' st' μ' Q) : Bx mi pc ls st μ Q := by
  obtain ⟨n, pce, lse, ste, μ1, h1, h2⟩ := h
  refine ⟨n + 1, pce, lse, ste, μ1, ?_, h2⟩
  show pbody (prun n) mi pc ls st μ = _
  unfold pstp at hs
  revert hs
  unfold pbody
  generalize cd mi pc = e
  cases e with
  | none => intro hs; cases hs
  | some e =>
    obtain ⟨op, a, b, p⟩ := e
    dsimp only
    generalize pst op a b ls st μ = y
    cases y with
    | none => intro hs; cases hs
    | some y =>
      obtain ⟨l, s, m⟩ := y
      intro hs
      cases hs
      exact h1
theorem Bx_sp (hc : cd mi pc = some (op, a, b, pc')) (h0 : pst op a b ls st μ = none) (h1 : psp op a b ls st μ = some (ls', st', μ')) (h : Bx mi pc' ls' st' μ' Q) : Bx mi pc ls st μ Q := by
  obtain ⟨n, pce, lse, ste, μ1, g1, g2⟩ := h
  refine ⟨n + 1, pce, lse, ste, μ1, ?_, g2⟩
  show pbody (prun n) mi pc ls st μ = _
  unfold pbody
  rw [hc]
  dsimp only
  rw [h0]
  dsimp only
  rw [h1]
  exact g1
theorem Bx_br {P : Prop} {tg : Nat} (hb : pbp (cd mi pc) ls st μ = some (P, tg, pc', s)) (h1 : P → Bx mi tg ls s μ Q) (h2 : ¬ P → Bx mi pc' ls s μ Q) : Bx mi pc ls st μ Q := by
  have key : ∀ n, prun (n + 1) mi pc ls st μ = @ite _ P (Classical.propDecidable P) (prun n mi tg ls s μ) (prun n mi pc' ls s μ) := by
    intro n
    show pbody (prun n) mi pc ls st μ = _
    unfold pbp at hb
    revert hb
    unfold pbody
    generalize cd mi pc = e
    cases e with
    | none => intro hs; cases hs
    | some e =>
      obtain ⟨op, a, b, p⟩ := e
      dsimp only
      generalize pst op a b ls st μ = y
      cases y with
      | some y => intro hs; cases hs
      | none =>
        dsimp only
        generalize psp op a b ls st μ = y
        cases y with
        | some y => intro hs; cases hs
        | none =>
          dsimp only
          generalize pbq op st = y
          cases y with
          | none => intro hs; cases hs
          | some y =>
            obtain ⟨P', s'⟩ := y
            intro hs
            cases hs
            rfl
  by_cases hP : P
  · obtain ⟨n, pce, lse, ste, μ1, g1, g2⟩ := h1 hP
    exact ⟨n + 1, pce, lse, ste, μ1, by rw [key n, if_pos hP]; exact g1, g2⟩
  · obtain ⟨n, pce, lse, ste, μ1, g1, g2⟩ := h2 hP
    exact ⟨n + 1, pce, lse, ste, μ1, by rw [key n, if_neg hP]; exact g1, g2⟩
theorem Bx_call {as : List PV} {k : Nat} (hb : pcp (cd mi pc) ls st μ = some (k, as, pc', s)) (h : Cl k as μ (fun r μ1 => Bx mi pc' ls (ppu r s) μ1 Q)) : Bx mi pc ls st μ Q := by
  obtain ⟨n1, pce1, lse1, ste1, μ1, x1, r1, g1, g2, rfl, n2, pce, lse, ste, μ2, k1, k2⟩ := h
  refine ⟨n1 + n2 + 1, pce, lse, ste, μ2, ?_, k2⟩
  have e1 := prun_mono g1 (Nat.le_add_right n1 n2)
  have e2 := prun_mono k1 (Nat.le_add_left n2 n1)
  show pbody (prun (n1 + n2)) mi pc ls st μ = _
  unfold pcp at hb
  revert hb
  unfold pbody
  generalize cd mi pc = e
  cases e with
  | none => intro hs; cases hs
  | some e =>
    obtain ⟨op, a, b, p⟩ := e
    dsimp only
    generalize pst op a b ls st μ = y
    cases y with
    | some y => intro hs; cases hs
    | none =>
      dsimp only
      generalize psp op a b ls st μ = y
      cases y with
      | some y => intro hs; cases hs
      | none =>
        dsimp only
        generalize pbq op st = y
        cases y with
        | some y => intro hs; cases hs
        | none =>
          dsimp only
          generalize pcl op a b st = y
          cases y with
          | none => intro hs; cases hs
          | some y =>
            obtain ⟨as', s'⟩ := y
            intro hs
            cases hs
            dsimp only
            rw [e1]
            dsimp only
            rw [g2]
            exact e2
theorem Bx_sw {x : Int32} (hc : cd mi pc = some (62, a, b, pc')) (h : Bx mi (psw (pswt a) b x) ls s μ Q) : Bx mi pc ls (pI x :: s) μ Q := by
  obtain ⟨n, pce, lse, ste, μ1, g1, g2⟩ := h
  refine ⟨n + 1, pce, lse, ste, μ1, ?_, g2⟩
  show pbody (prun n) mi pc ls (pI x :: s) μ = _
  unfold pbody
  rw [hc]
  exact g1
theorem Bx_end (hc : cd mi pc = some (op, a, b, pc')) (h0 : pst op a b ls st μ = none) (h1 : psp op a b ls st μ = none) (h2 : pbq op st = none) (h3 : pcl op a b st = none) (h4 : pqs op a b st = none) (ho : 80 ≤ op) (hq : Q pc ls st μ) : Bx mi pc ls st μ Q := by
  refine ⟨1, pc, ls, st, μ, ?_, hq⟩
  show pbody (prun 0) mi pc ls st μ = _
  unfold pbody
  rw [hc]
  dsimp only
  rw [h0]
  dsimp only
  rw [h1]
  dsimp only
  rw [h2]
  dsimp only
  rw [h3]
  dsimp only
  rw [h4]
  exact if_pos ho
/-- the script's k-th number -/
theorem Bx_sc {m L : Nat} {j : Int32} (k : Nat) (hc : cd mi pc = some (37, a, b, pc')) (hj : j = nI k) (hL : μ 38 0 0 = nI L) (hL2 : L < 2 ^ 31) (hk : k < L) (h : Bx mi pc' ls (pI (μ 39 0 k) :: s) μ Q) : Bx mi pc ls (pI j :: pR 39 m :: s) μ Q := by
  subst hj
  have e1 : (nI k).toInt = (k : Int) := nI_toInt (by omega)
  have e2 : (nI k).toNatClampNeg = k := nI_clamp (by omega)
  refine Bx_sp hc rfl (ls' := ls) (st' := pI (μ 39 0 k) :: s) (μ' := μ) ?_ h
  show (if 39 = 39 ∧ 0 ≤ (nI k).toInt ∧ (nI k).toInt < (μ 38 0 0).toInt then some (ls, pI (μ 39 0 (nI k).toNatClampNeg) :: s, μ) else none) = _
  rw [hL, if_pos (by rw [nI_toInt hL2]; omega), e2]
theorem Bx_ll {m : Nat} {j : Int32} (hc : cd mi pc = some (35, a, b, pc')) (hj : j = 0) (h : Bx mi pc' ls (pJ (μ 34 0 0).toInt64 :: s) μ Q) : Bx mi pc ls (pI j :: pR 34 m :: s) μ Q := by
  subst hj
  exact Bx_sp hc rfl (ls' := ls) (st' := pJ (μ 34 0 0).toInt64 :: s) (μ' := μ) rfl h
end BX
/-- what the wrappers answer where the method throws number x -/
def wK : Nat → Option Nat
  | 1 => some 1
  | 2 => some 2
  | _ => none
def wA : Nat → Option Nat
  | 3 => some 1
  | 2 => some 2
  | 1 => some 3
  | _ => none
def wC : Nat → Option Nat
  | 3 => some 1
  | 1 => some 2
  | _ => none
def wR : Nat → Option Nat
  | 3 => some 1
  | 1 => some 2
  | 4 => some 3
  | 2 => some 4
  | _ => none
/-- which method a wrapper calls -/
def wrp (pc : Nat) : Option (Nat × (Nat → Option Nat)) :=
  if pc = 120 then some (0, wK)
  else if pc = 244 then some (3, wA)
  else if pc = 342 then some (4, wA)
  else if pc = 446 then some (5, wC)
  else if pc = 723 then some (11, wR)
  else none
/-- what a wrapper gives -/
def Wr (k : Nat) (cm : Nat → Option Nat) (as : List PV) (μ : PM) (P : Int32 → PM → Prop) : Prop := Ct k (pR 0 0 :: as) μ (fun x r μ2 => (x = 0 ∧ ∃ v, r = some (pI v) ∧ P 0 (pu μ2 34 0 0 v)) ∨ ∃ y, cm x = some y ∧ P (nI y) μ2)
def allI : List PV → Prop
  | [] => True
  | .inl _ :: l => allI l
  | _ => False
def wrn (pc : Nat) : Nat := if pc = 120 then 1 else if pc = 244 then 4 else if pc = 342 then 5 else if pc = 446 then 5 else 3
/-- the law's stops: it gives 1, or calls a wrapper and goes on -/
def LwP : Nat → Nat → PL → List PV → PM → Prop
  | 0, pce, _, ste, _ => (pce = 816 ∧ ste = [pI 1])
  | n + 1, pce, lse, ste, μ => (pce = 816 ∧ ste = [pI 1]) ∨ ∃ k cm as, wrp pce = some (k, cm) ∧ ste = pR 34 0 :: (as.reverse ++ [pR 0 0]) ∧ allI as ∧ as.length = wrn pce ∧ Wr k cm as μ (fun y μ2 => Bx 105 (pce + 3) lse [pI y] μ2 (LwP n))
theorem LwP_up : ∀ (n pce : Nat) (lse : PL) (ste : List PV) (μ : PM), LwP n pce lse ste μ → LwP (n + 1) pce lse ste μ
  | 0, _, _, _, _, h => Or.inl h
  | n + 1, pce, lse, ste, μ, h => by
    rcases h with h | ⟨k, cm, as, h1, h2, h3, h5, h4⟩
    · exact Or.inl h
    · refine Or.inr ⟨k, cm, as, h1, h2, h3, h5, ?_⟩
      unfold Wr Ct at h4 ⊢
      refine h4.mono (fun x r μ2 hq => ?_)
      rcases hq with ⟨e, v, e2, hb⟩ | ⟨y, e, hb⟩
      · exact Or.inl ⟨e, v, e2, hb.mono (LwP_up n)⟩
      · exact Or.inr ⟨y, e, hb.mono (LwP_up n)⟩
