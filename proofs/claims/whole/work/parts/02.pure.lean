/-! The class, the reference and the law as one small machine over numbers: values, memory (tag, index, slot), locals.
The tables (cd, fk, cn, al, mxl, pswt) are printed by wip/whole/gen.py. -/
abbrev pI (x : Int32) : PV := Sum.inl x
abbrev pJ (x : Int64) : PV := Sum.inr (Sum.inl x)
abbrev pR (t m : Nat) : PV := Sum.inr (Sum.inr (t, m))
def pu (μ : PM) (t m j : Nat) (x : Int32) : PM := fun t' m' j' => if t' = t ∧ m' = m ∧ j' = j then x else μ t' m' j'
def plg : PL → Nat → Option PV
  | [], _ => none
  | a :: _, 0 => a
  | _ :: t, k + 1 => plg t k
def pls : PL → Nat → PV → Option PL
  | [], _, _ => none
  | _ :: t, 0, v => some (some v :: t)
  | a :: t, k + 1, v => match pls t k v with
    | some t' => some (a :: t')
    | none => none
def pen : List PV → Nat → PL
  | _, 0 => []
  | [], n + 1 => none :: pen [] n
  | v :: l, n + 1 => some v :: pen l n
def pen' : List PV → Nat → Option PL
  | [], 0 => some []
  | _ :: _, 0 => none
  | [], n + 1 => match pen' [] n with
    | some t => some (none :: t)
    | none => none
  | v :: l, n + 1 => match pen' l n with
    | some t => some (some v :: t)
    | none => none
theorem pen'_eq : ∀ (as : List PV) (n : Nat) (ls : PL), pen' as n = some ls → pen as n = ls ∧ as.length ≤ n
  | [], 0, ls, h => by cases h; exact ⟨rfl, Nat.le_refl _⟩
  | _ :: _, 0, ls, h => by cases h
  | [], n + 1, ls, h => by
    unfold pen' at h
    cases hx : pen' [] n with
    | none => rw [hx] at h; cases h
    | some t =>
      rw [hx] at h
      cases h
      exact ⟨by show none :: pen [] n = _; rw [(pen'_eq [] n t hx).1], Nat.zero_le _⟩
  | v :: l, n + 1, ls, h => by
    unfold pen' at h
    cases hx : pen' l n with
    | none => rw [hx] at h; cases h
    | some t =>
      rw [hx] at h
      cases h
      have := pen'_eq l n t hx
      exact ⟨by show some v :: pen l n = _; rw [this.1], Nat.succ_le_succ this.2⟩
def ptk : Nat → List PV → List PV → Option (List PV × List PV)
  | 0, acc, s => some (acc, s)
  | _ + 1, _, [] => none
  | n + 1, acc, v :: s => ptk n (v :: acc) s
def ppu : Option PV → List PV → List PV
  | none, s => s
  | some v, s => v :: s
def pfl (t m j : Nat) (μ : PM) : Option PV := match pgt (fk t) j with
  | some (some t') => some (pR t' m)
  | some none => some (pI (μ t m j))
  | none => none
def pob (t a b : Nat) : Bool := Nat.beq (cn t) a && (match pgt (fk t) b with | some none => true | _ => false)
/-- the plain steps: no condition but on the form -/
def pst (op a b : Nat) (ls : PL) (st : List PV) (μ : PM) : Option (PL × List PV × PM) :=
  match op with
  | 0 => some (ls, pI (nI a) :: st, μ)
  | 1 => some (ls, pI (-1) :: st, μ)
  | 2 => match plg ls a with
    | some (.inl x) => some (ls, pI x :: st, μ)
    | _ => none
  | 3 => match plg ls a with
    | some (.inr (.inr (t, m))) => some (ls, pR t m :: st, μ)
    | _ => none
  | 4 => match st with
    | .inl x :: s => match pls ls a (pI x) with
      | some l => some (l, s, μ)
      | none => none
    | _ => none
  | 5 => match st with
    | .inr (.inr (t, m)) :: s => match pls ls a (pR t m) with
      | some l => some (l, s, μ)
      | none => none
    | _ => none
  | 6 => match st with
    | .inl y :: .inl x :: s => some (ls, pI (x + y) :: s, μ)
    | _ => none
  | 7 => match st with
    | .inl y :: .inl x :: s => some (ls, pI (x - y) :: s, μ)
    | _ => none
  | 8 => match st with
    | .inl y :: .inl x :: s => some (ls, pI (x * y) :: s, μ)
    | _ => none
  | 9 => match st with
    | .inl y :: .inl x :: s => some (ls, pI (x ||| y) :: s, μ)
    | _ => none
  | 10 => match st with
    | .inl y :: .inl x :: s => some (ls, pI (x &&& y) :: s, μ)
    | _ => none
  | 11 => match st with
    | .inl y :: .inl x :: s => some (ls, pI (x ^^^ y) :: s, μ)
    | _ => none
  | 12 => match st with
    | .inl y :: .inl x :: s => some (ls, pI (x <<< (y &&& 31)) :: s, μ)
    | _ => none
  | 13 => match st with
    | .inl y :: .inl x :: s => some (ls, pI (x >>> (y &&& 31)) :: s, μ)
    | _ => none
  | 14 => match st with
    | .inl x :: s => some (ls, pI x :: pI x :: s, μ)
    | .inr (.inr (t, m)) :: s => some (ls, pR t m :: pR t m :: s, μ)
    | _ => none
  | 15 => match st with
    | .inl x :: .inr (.inr (t, m)) :: s => some (ls, pI x :: pR t m :: pI x :: pR t m :: s, μ)
    | _ => none
  | 16 => match st with
    | .inr (.inr (t, m)) :: s => bif Nat.beq (cn t) a then (match pfl t m b μ with
      | some v => some (ls, v :: s, μ)
      | none => none) else none
    | _ => none
  | 17 => match st with
    | .inl x :: .inr (.inr (t, m)) :: s => bif pob t a b then some (ls, s, pu μ t m b x) else none
    | _ => none
  | 18 => some (ls, st, μ)
  | 19 => match plg ls a with
    | some (.inl x) => match pls ls a (pI (x + nI b)) with
      | some l => some (l, st, μ)
      | none => none
    | _ => none
  | 20 => match plg ls a with
    | some (.inl x) => match pls ls a (pI (x + (-1))) with
      | some l => some (l, st, μ)
      | none => none
    | _ => none
  | 21 => match st with
    | .inl x :: s => some (ls, pJ x.toInt64 :: s, μ)
    | _ => none
  | 22 => match st with
    | .inr (.inl y) :: .inr (.inl x) :: s => some (ls, pI (lg_cmp x y) :: s, μ)
    | _ => none
  | 23 => match st with
    | .inr (.inr (t, _)) :: s => bif Nat.ble 1 (al t) then some (ls, pI (nI (al t)) :: s, μ) else none
    | _ => none
  | 24 => match st with
    | .inr (.inr (t, _)) :: s => bif Nat.beq t 39 then some (ls, pI (μ 38 0 0) :: s, μ) else none
    | _ => none
  | _ => none
/-- the steps with a condition on numbers -/
def psp (op a b : Nat) (ls : PL) (st : List PV) (μ : PM) : Option (PL × List PV × PM) :=
  match op with
  | 30 => match st with
    | .inl j :: .inr (.inr (t, m)) :: s => if 0 ≤ j.toInt ∧ j.toInt < al t then some (ls, pI (μ t m j.toNatClampNeg) :: s, μ) else none
    | _ => none
  | 31 => match st with
    | .inl x :: .inl j :: .inr (.inr (t, m)) :: s => if 0 ≤ j.toInt ∧ j.toInt < al t then some (ls, s, pu μ t m j.toNatClampNeg x) else none
    | _ => none
  | 32 => match st with
    | .inl j :: .inr (.inr (t, _)) :: s => if t = 3 ∧ 0 ≤ j.toInt ∧ j.toInt < 8 then some (ls, pR 40 j.toNatClampNeg :: s, μ) else none
    | _ => none
  | 33 => match st with
    | .inl y :: .inl x :: s => if y = 0 then none else some (ls, pI (x / y) :: s, μ)
    | _ => none
  | 34 => match st with
    | .inl x :: .inr (.inr (t, m)) :: s => if pob t a b = true ∧ (x = 0 ∨ x = 1) then some (ls, s, pu μ t m b x) else none
    | _ => none
  | 35 => match st with
    | .inl j :: .inr (.inr (t, _)) :: s => if t = 34 ∧ j = 0 then some (ls, pJ (μ 34 0 0).toInt64 :: s, μ) else none
    | _ => none
  | 36 => match st with
    | .inr (.inl x) :: .inl j :: .inr (.inr (t, _)) :: s => if t = 34 ∧ j = 0 ∧ x.toInt32.toInt64 = x then some (ls, s, pu μ 34 0 0 x.toInt32) else none
    | _ => none
  | 37 => match st with
    | .inl j :: .inr (.inr (t, _)) :: s => if t = 39 ∧ 0 ≤ j.toInt ∧ j.toInt < (μ 38 0 0).toInt then some (ls, pI (μ 39 0 j.toNatClampNeg) :: s, μ) else none
    | _ => none
  | _ => none
/-- the branches: the condition, and what is left of the stack -/
def pbq (op : Nat) (st : List PV) : Option (Prop × List PV) :=
  match op with
  | 50 => match st with
    | .inl x :: s => some (x = 0, s)
    | _ => none
  | 51 => match st with
    | .inl x :: s => some (¬ x = 0, s)
    | _ => none
  | 52 => match st with
    | .inl x :: s => some (x < 0, s)
    | _ => none
  | 53 => match st with
    | .inl x :: s => some (0 ≤ x, s)
    | _ => none
  | 54 => match st with
    | .inl x :: s => some (0 < x, s)
    | _ => none
  | 55 => match st with
    | .inl x :: s => some (x ≤ 0, s)
    | _ => none
  | 56 => match st with
    | .inl y :: .inl x :: s => some (x = y, s)
    | _ => none
  | 57 => match st with
    | .inl y :: .inl x :: s => some (¬ x = y, s)
    | _ => none
  | 58 => match st with
    | .inl y :: .inl x :: s => some (x < y, s)
    | _ => none
  | 59 => match st with
    | .inl y :: .inl x :: s => some (y ≤ x, s)
    | _ => none
  | 60 => match st with
    | .inl y :: .inl x :: s => some (y < x, s)
    | _ => none
  | 61 => match st with
    | .inl y :: .inl x :: s => some (x ≤ y, s)
    | _ => none
  | _ => none
def psw : List (Nat × Nat) → Nat → Int32 → Nat
  | [], d, _ => d
  | (k, t) :: l, d, x => if x = nI k then t else psw l d x
def nlg : PV → Bool
  | .inr (.inl _) => false
  | _ => true
def pnl : List PV → Bool
  | [] => true
  | v :: l => nlg v && pnl l
/-- the receiver is of the method's class (99: a static method) -/
def prc (a : Nat) (as : List PV) : Bool := match as with
  | .inr (.inr (t, _)) :: _ => Nat.beq (km a) 99 || Nat.beq (cn t) (km a)
  | _ => Nat.beq (km a) 99
def pcl (op a b : Nat) (st : List PV) : Option (List PV × List PV) := match op with
  | 70 => match ptk b [] st with
    | some (as, s) => bif Nat.ble s.length 4 && (prc a as && (pnl as && Nat.ble as.length (mxl a))) then some (as, s) else none
    | none => none
  | _ => none
def pqs (op a b : Nat) (st : List PV) : Option (Nat × List PV) := match op with
  | 62 => match st with
    | .inl x :: s => some (psw (pswt a) b x, s)
    | _ => none
  | _ => none
/-- how a method ends: 0 and what it gives, or the number of what it throws -/
def pret (mi pce : Nat) (ste : List PV) : Option (Nat × Option PV) :=
  match cd mi pce with
  | some (80, 1, _, _) => match ste with
    | [.inl x] => some (0, some (pI x))
    | _ => none
  | some (80, 2, _, _) => match ste with
    | [.inl x] => if x = 0 ∨ x = 1 then some (0, some (pI x)) else none
    | _ => none
  | some (81, _, _, _) => match ste with
    | [] => some (0, none)
    | _ => none
  | some (82, _, _, _) => match ste with
    | [.inr (.inr (t, m))] => some (0, some (pR t m))
    | _ => none
  | some (90, x, _, _) => match ste with
    | [] => some (x + 1, none)
    | _ => none
  | _ => none
/-- one step, over what the rest of the run gives -/
noncomputable def pbody (f : Nat → Nat → PL → List PV → PM → Option (Nat × PL × List PV × PM)) (mi pc : Nat) (ls : PL) (st : List PV) (μ : PM) : Option (Nat × PL × List PV × PM) :=
  match cd mi pc with
  | none => none
  | some (op, a, b, pc') => match pst op a b ls st μ with
    | some (ls', st', μ') => f mi pc' ls' st' μ'
    | none => match psp op a b ls st μ with
      | some (ls', st', μ') => f mi pc' ls' st' μ'
      | none => match pbq op st with
        | some (P, s) => @ite _ P (Classical.propDecidable P) (f mi a ls s μ) (f mi pc' ls s μ)
        | none => match pcl op a b st with
          | some (as, s) => match f a 0 (pen as (mxl a)) [] μ with
            | some (pce, _, ste, μ1) => match pret a pce ste with
              | some (0, r) => f mi pc' ls (ppu r s) μ1
              | _ => none
            | none => none
          | none => match pqs op a b st with
            | some (tg, s) => f mi tg ls s μ
            | none => if 80 ≤ op then some (pc, ls, st, μ) else none
noncomputable def prun : Nat → Nat → Nat → PL → List PV → PM → Option (Nat × PL × List PV × PM)
  | 0, _, _, _, _, _ => none
  | n + 1, mi, pc, ls, st, μ => pbody (prun n) mi pc ls st μ
theorem pbody_mono {f g : Nat → Nat → PL → List PV → PM → Option (Nat × PL × List PV × PM)} (hfg : ∀ mi pc ls st μ r, f mi pc ls st μ = some r → g mi pc ls st μ = some r)
    {mi pc : Nat} {ls : PL} {st : List PV} {μ : PM} {r : Nat × PL × List PV × PM} : pbody f mi pc ls st μ = some r → pbody g mi pc ls st μ = some r := by
  unfold pbody
  generalize cd mi pc = e
  cases e with
  | none => exact id
  | some e =>
    obtain ⟨op, a, b, p'⟩ := e
    dsimp only
    generalize pst op a b ls st μ = x
    cases x with
    | some y => obtain ⟨l', s', m'⟩ := y; exact hfg _ _ _ _ _ _
    | none =>
      dsimp only
      generalize psp op a b ls st μ = x
      cases x with
      | some y => obtain ⟨l', s', m'⟩ := y; exact hfg _ _ _ _ _ _
      | none =>
        dsimp only
        generalize pbq op st = x
        cases x with
        | some y =>
          obtain ⟨P, s'⟩ := y
          dsimp only
          by_cases hP : P
          · rw [if_pos hP, if_pos hP]; exact hfg _ _ _ _ _ _
          · rw [if_neg hP, if_neg hP]; exact hfg _ _ _ _ _ _
        | none =>
          dsimp only
          generalize pcl op a b st = x
          cases x with
          | some y =>
            obtain ⟨as, s'⟩ := y
            dsimp only
            cases hx : f a 0 (pen as (mxl a)) [] μ with
            | none => intro h; cases h
            | some z =>
              rw [hfg _ _ _ _ _ _ hx]
              obtain ⟨pce, lse, ste, μ1⟩ := z
              dsimp only
              generalize pret a pce ste = w
              match w with
              | none => exact id
              | some (0, r) => exact hfg _ _ _ _ _ _
              | some (k + 1, r) => exact id
          | none =>
            dsimp only
            generalize pqs op a b st = x
            cases x with
            | some y => obtain ⟨tg, s'⟩ := y; exact hfg _ _ _ _ _ _
            | none => exact id
theorem prun_succ : ∀ (n mi pc : Nat) (ls : PL) (st : List PV) (μ : PM) (r : Nat × PL × List PV × PM), prun n mi pc ls st μ = some r → prun (n + 1) mi pc ls st μ = some r
  | 0, _, _, _, _, _, _, h => by cases h
  | n + 1, mi, pc, ls, st, μ, r, h => pbody_mono (f := prun n) (g := prun (n + 1)) (prun_succ n) h
theorem prun_mono {n k mi pc : Nat} {ls : PL} {st : List PV} {μ : PM} {r : Nat × PL × List PV × PM} (h : prun n mi pc ls st μ = some r) (hk : n ≤ k) : prun k mi pc ls st μ = some r := by
  obtain ⟨d, rfl⟩ := Nat.le.dest hk
  induction d with
  | zero => exact h
  | succ d ih => exact prun_succ _ _ _ _ _ _ _ (ih (Nat.le_add_right _ _))
def Ax (mi pc : Nat) (ls : PL) (st : List PV) (μ : PM) (Q : Nat → Option PV → PM → Prop) : Prop :=
  ∃ (n pce : Nat) (lse : PL) (ste : List PV) (μ1 : PM) (x : Nat) (r : Option PV), prun n mi pc ls st μ = some (pce, lse, ste, μ1) ∧ pret mi pce ste = some (x, r) ∧ Q x r μ1
def Cl (mi : Nat) (as : List PV) (μ : PM) (Q : Option PV → PM → Prop) : Prop := Ax mi 0 (pen as (mxl mi)) [] μ (fun x r μ1 => x = 0 ∧ Q r μ1)
theorem Cl_in {mi : Nat} {as : List PV} {ls : PL} {μ : PM} {Q : Option PV → PM → Prop} (hl : pen' as (mxl mi) = some ls) (h : Ax mi 0 ls [] μ (fun x r μ1 => x = 0 ∧ Q r μ1)) : Cl mi as μ Q := by
  unfold Cl
  rw [(pen'_eq as (mxl mi) ls hl).1]
  exact h
def pstp (e : Option PE) (ls : PL) (st : List PV) (μ : PM) : Option (Nat × PL × List PV × PM) := match e with
  | some (op, a, b, pc') => match pst op a b ls st μ with
    | some (l, s, m) => some (pc', l, s, m)
    | none => none
  | none => none
section AX
variable {mi pc pc' op a b : Nat} {ls ls' : PL} {st st' s : List PV} {μ μ' : PM} {Q : Nat → Option PV → PM → Prop}
theorem Ax_step (hs : pstp (cd mi pc) ls st μ = some (pc', ls', st', μ')) (h : Ax mi pc' ls' st' μ' Q) : Ax mi pc ls st μ Q := by
  obtain ⟨n, pce, lse, ste, μ1, x, r, h1, h2, h3⟩ := h
  refine ⟨n + 1, pce, lse, ste, μ1, x, r, ?_, h2, h3⟩
  show pbody (prun n) mi pc ls st μ = _
  unfold pstp at hs
  revert hs
  unfold pbody
  generalize cd mi pc = e
  cases e with
  | none => intro hs; cases hs
  | some e =>
    obtain ⟨op, a, b, p⟩ := e
    dsimp only
    generalize pst op a b ls st μ = y
    cases y with
    | none => intro hs; cases hs
    | some y =>
      obtain ⟨l, s, m⟩ := y
      intro hs
      cases hs
      exact h1
theorem Ax_sp (hc : cd mi pc = some (op, a, b, pc')) (h0 : pst op a b ls st μ = none) (h1 : psp op a b ls st μ = some (ls', st', μ')) (h : Ax mi pc' ls' st' μ' Q) : Ax mi pc ls st μ Q := by
  obtain ⟨n, pce, lse, ste, μ1, x, r, g1, g2, g3⟩ := h
  refine ⟨n + 1, pce, lse, ste, μ1, x, r, ?_, g2, g3⟩
  show pbody (prun n) mi pc ls st μ = _
  unfold pbody
  rw [hc]
  dsimp only
  rw [h0]
  dsimp only
  rw [h1]
  exact g1
def pbp (e : Option PE) (ls : PL) (st : List PV) (μ : PM) : Option (Prop × Nat × Nat × List PV) := match e with
  | some (op, a, b, pc') => match pst op a b ls st μ with
    | some _ => none
    | none => match psp op a b ls st μ with
      | some _ => none
      | none => match pbq op st with
        | some (P, s) => some (P, a, pc', s)
        | none => none
  | none => none
theorem Ax_br {P : Prop} {tg : Nat} (hb : pbp (cd mi pc) ls st μ = some (P, tg, pc', s)) (h1 : P → Ax mi tg ls s μ Q) (h2 : ¬ P → Ax mi pc' ls s μ Q) : Ax mi pc ls st μ Q := by
  have key : ∀ n, prun (n + 1) mi pc ls st μ = @ite _ P (Classical.propDecidable P) (prun n mi tg ls s μ) (prun n mi pc' ls s μ) := by
    intro n
    show pbody (prun n) mi pc ls st μ = _
    unfold pbp at hb
    revert hb
    unfold pbody
    generalize cd mi pc = e
    cases e with
    | none => intro hs; cases hs
    | some e =>
      obtain ⟨op, a, b, p⟩ := e
      dsimp only
      generalize pst op a b ls st μ = y
      cases y with
      | some y => intro hs; cases hs
      | none =>
        dsimp only
        generalize psp op a b ls st μ = y
        cases y with
        | some y => intro hs; cases hs
        | none =>
          dsimp only
          generalize pbq op st = y
          cases y with
          | none => intro hs; cases hs
          | some y =>
            obtain ⟨P', s'⟩ := y
            intro hs
            cases hs
            rfl
  by_cases hP : P
  · obtain ⟨n, pce, lse, ste, μ1, x, r, g1, g2, g3⟩ := h1 hP
    exact ⟨n + 1, pce, lse, ste, μ1, x, r, by rw [key n, if_pos hP]; exact g1, g2, g3⟩
  · obtain ⟨n, pce, lse, ste, μ1, x, r, g1, g2, g3⟩ := h2 hP
    exact ⟨n + 1, pce, lse, ste, μ1, x, r, by rw [key n, if_neg hP]; exact g1, g2, g3⟩
def pcp (e : Option PE) (ls : PL) (st : List PV) (μ : PM) : Option (Nat × List PV × Nat × List PV) := match e with
  | some (op, a, b, pc') => match pst op a b ls st μ with
    | some _ => none
    | none => match psp op a b ls st μ with
      | some _ => none
      | none => match pbq op st with
        | some _ => none
        | none => match pcl op a b st with
          | some (as, s) => some (a, as, pc', s)
          | none => none
  | none => none
theorem Ax_call {as : List PV} {k : Nat} (hb : pcp (cd mi pc) ls st μ = some (k, as, pc', s)) (h : Cl k as μ (fun r μ1 => Ax mi pc' ls (ppu r s) μ1 Q)) : Ax mi pc ls st μ Q := by
  obtain ⟨n1, pce1, lse1, ste1, μ1, x1, r1, g1, g2, rfl, n2, pce, lse, ste, μ2, x, r, k1, k2, k3⟩ := h
  refine ⟨n1 + n2 + 1, pce, lse, ste, μ2, x, r, ?_, k2, k3⟩
  have e1 := prun_mono g1 (Nat.le_add_right n1 n2)
  have e2 := prun_mono k1 (Nat.le_add_left n2 n1)
  show pbody (prun (n1 + n2)) mi pc ls st μ = _
  unfold pcp at hb
  revert hb
  unfold pbody
  generalize cd mi pc = e
  cases e with
  | none => intro hs; cases hs
  | some e =>
    obtain ⟨op, a, b, p⟩ := e
    dsimp only
    generalize pst op a b ls st μ = y
    cases y with
    | some y => intro hs; cases hs
    | none =>
      dsimp only
      generalize psp op a b ls st μ = y
      cases y with
      | some y => intro hs; cases hs
      | none =>
        dsimp only
        generalize pbq op st = y
        cases y with
        | some y => intro hs; cases hs
        | none =>
          dsimp only
          generalize pcl op a b st = y
          cases y with
          | none => intro hs; cases hs
          | some y =>
            obtain ⟨as', s'⟩ := y
            intro hs
            cases hs
            dsimp only
            rw [e1]
            dsimp only
            rw [g2]
            exact e2
theorem Ax_sw {x : Int32} (hc : cd mi pc = some (62, a, b, pc')) (h : Ax mi (psw (pswt a) b x) ls s μ Q) : Ax mi pc ls (pI x :: s) μ Q := by
  obtain ⟨n, pce, lse, ste, μ1, y, r, g1, g2, g3⟩ := h
  refine ⟨n + 1, pce, lse, ste, μ1, y, r, ?_, g2, g3⟩
  show pbody (prun n) mi pc ls (pI x :: s) μ = _
  unfold pbody
  rw [hc]
  exact g1
theorem Ax_end {x : Nat} {r : Option PV} (hc : cd mi pc = some (op, a, b, pc')) (h0 : pst op a b ls st μ = none) (h1 : psp op a b ls st μ = none) (h2 : pbq op st = none) (h3 : pcl op a b st = none) (h4 : pqs op a b st = none) (ho : 80 ≤ op) (hr : pret mi pc st = some (x, r)) (hq : Q x r μ) : Ax mi pc ls st μ Q := by
  refine ⟨1, pc, ls, st, μ, x, r, ?_, hr, hq⟩
  show pbody (prun 0) mi pc ls st μ = _
  unfold pbody
  rw [hc]
  dsimp only
  rw [h0]
  dsimp only
  rw [h1]
  dsimp only
  rw [h2]
  dsimp only
  rw [h3]
  dsimp only
  rw [h4]
  exact if_pos ho
theorem Ax_rI {x : Int32} (hc : cd mi pc = some (80, 1, b, pc')) (hq : Q 0 (some (pI x)) μ) : Ax mi pc ls [pI x] μ Q :=
  Ax_end hc rfl rfl rfl rfl rfl (by decide) (by unfold pret; rw [hc]; rfl) hq
theorem Ax_rZ {x : Int32} (hc : cd mi pc = some (80, 2, b, pc')) (hx : x = 0 ∨ x = 1) (hq : Q 0 (some (pI x)) μ) : Ax mi pc ls [pI x] μ Q :=
  Ax_end hc rfl rfl rfl rfl rfl (by decide) (by unfold pret; rw [hc]; exact if_pos hx) hq
theorem Ax_rV (hc : cd mi pc = some (81, a, b, pc')) (hq : Q 0 none μ) : Ax mi pc ls [] μ Q :=
  Ax_end hc rfl rfl rfl rfl rfl (by decide) (by unfold pret; rw [hc]; rfl) hq
theorem Ax_rR {t m : Nat} (hc : cd mi pc = some (82, a, b, pc')) (hq : Q 0 (some (pR t m)) μ) : Ax mi pc ls [pR t m] μ Q :=
  Ax_end hc rfl rfl rfl rfl rfl (by decide) (by unfold pret; rw [hc]; rfl) hq
theorem Ax_rX (hc : cd mi pc = some (90, a, b, pc')) (hq : Q (a + 1) none μ) : Ax mi pc ls [] μ Q :=
  Ax_end hc rfl rfl rfl rfl rfl (by decide) (by unfold pret; rw [hc]; rfl) hq
theorem Ax_ald {t m : Nat} {j : Int32} (k : Nat) (hc : cd mi pc = some (30, a, b, pc')) (hj : j = nI k) (hk : k < al t) (h : Ax mi pc' ls (pI (μ t m k) :: s) μ Q) : Ax mi pc ls (pI j :: pR t m :: s) μ Q := by
  subst hj
  have hb := al_lt t
  have e1 : (nI k).toInt = (k : Int) := nI_toInt (by omega)
  have e2 : (nI k).toNatClampNeg = k := nI_clamp (by omega)
  refine Ax_sp hc rfl (ls' := ls) (st' := pI (μ t m k) :: s) (μ' := μ) ?_ h
  show (if 0 ≤ (nI k).toInt ∧ (nI k).toInt < al t then some (ls, pI (μ t m (nI k).toNatClampNeg) :: s, μ) else none) = _
  rw [if_pos (by omega), e2]
theorem Ax_ast {t m : Nat} {j x : Int32} (k : Nat) (hc : cd mi pc = some (31, a, b, pc')) (hj : j = nI k) (hk : k < al t) (h : Ax mi pc' ls s (pu μ t m k x) Q) : Ax mi pc ls (pI x :: pI j :: pR t m :: s) μ Q := by
  subst hj
  have hb := al_lt t
  have e1 : (nI k).toInt = (k : Int) := nI_toInt (by omega)
  have e2 : (nI k).toNatClampNeg = k := nI_clamp (by omega)
  refine Ax_sp hc rfl (ls' := ls) (st' := s) (μ' := pu μ t m k x) ?_ h
  show (if 0 ≤ (nI k).toInt ∧ (nI k).toInt < al t then some (ls, s, pu μ t m (nI k).toNatClampNeg x) else none) = _
  rw [if_pos (by omega), e2]
theorem Ax_aal {m : Nat} {j : Int32} (k : Nat) (hc : cd mi pc = some (32, a, b, pc')) (hj : j = nI k) (hk : k < 8) (h : Ax mi pc' ls (pR 40 k :: s) μ Q) : Ax mi pc ls (pI j :: pR 3 m :: s) μ Q := by
  subst hj
  have e1 : (nI k).toInt = (k : Int) := nI_toInt (by omega)
  have e2 : (nI k).toNatClampNeg = k := nI_clamp (by omega)
  refine Ax_sp hc rfl (ls' := ls) (st' := pR 40 k :: s) (μ' := μ) ?_ h
  show (if 3 = 3 ∧ 0 ≤ (nI k).toInt ∧ (nI k).toInt < 8 then some (ls, pR 40 (nI k).toNatClampNeg :: s, μ) else none) = _
  rw [if_pos (by omega), e2]
theorem Ax_div {x y : Int32} (hc : cd mi pc = some (33, a, b, pc')) (hy : ¬ y = 0) (h : Ax mi pc' ls (pI (x / y) :: s) μ Q) : Ax mi pc ls (pI y :: pI x :: s) μ Q :=
  Ax_sp hc rfl (ls' := ls) (st' := pI (x / y) :: s) (μ' := μ) (if_neg hy) h
theorem Ax_putz {t m : Nat} {x : Int32} (hc : cd mi pc = some (34, a, b, pc')) (ho : pob t a b = true) (hx : x = 0 ∨ x = 1) (h : Ax mi pc' ls s (pu μ t m b x) Q) : Ax mi pc ls (pI x :: pR t m :: s) μ Q :=
  Ax_sp hc rfl (ls' := ls) (st' := s) (μ' := pu μ t m b x) (if_pos ⟨ho, hx⟩) h
end AX
