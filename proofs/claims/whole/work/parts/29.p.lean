/-! The reference's run. -/
def frQ (μ μ' : PM) : Prop := (∀ t mm j, t ≠ 16 → ¬ (28 ≤ t ∧ t ≤ 31) → μ' t mm j = μ t mm j) ∧ ∀ j, j ≠ 0 → j ≠ 15 → j ≠ 20 → j ≠ 21 → j ≠ 22 → μ' 16 0 j = μ 16 0 j
theorem frQ.TR {μ0 μ μ' : PM} (h : frQ μ μ') (hR : TR μ0 μ) : TR μ0 μ' := hR.keep (h.2 1 (by omega) (by omega) (by omega) (by omega) (by omega)) (h.2 3 (by omega) (by omega) (by omega) (by omega) (by omega)) (fun t j h1 h2 => h.1 t 0 j (by omega) (by omega))
theorem frQ.n {a b c : PM} (h : frQ a b) (g : frN b c) : frQ a c := ⟨fun t mm j h1 h2 => (g.1 t mm j h1 h2).trans (h.1 t mm j h1 h2), fun j h0 h1 h4 h2 h3 => (g.2 j h1 h2 h3).trans (h.2 j h0 h1 h4 h2 h3)⟩
theorem frQ.f {a b : PM} {j : Nat} {x : Int32} (h : frQ a b) (hj : j = 0 ∨ j = 15 ∨ j = 20 ∨ j = 21 ∨ j = 22) : frQ a (pu b 16 0 j x) := ⟨fun t mm j' h1 h2 => by rw [pu_t h1]; exact h.1 t mm j' h1 h2, fun j' a b c d e => by rw [pu_j (by omega)]; exact h.2 j' a b c d e⟩
theorem frQ.rf (μ : PM) : frQ μ μ := ⟨fun _ _ _ _ _ => rfl, fun _ _ _ _ _ _ => rfl⟩
/-- what a run leaves behind in the reference -/
def rnQ (μ0 μ μ' : PM) (m : Nat) (x : Int32) (fuel : Nat) : Prop := frQ μ μ' ∧ μ' 16 0 20 = nI (fuel - (rnS μ0 m x fuel).2) ∧ μ' 16 0 21 = cmO (rnS μ0 m x fuel).1.2
section P29
variable {μ0 μ : PM} {Q : Option PV → PM → Prop}
theorem en_top {n m p : Nat} {rg cg : Nat → Int32} {r : List FR} {rs : RS} (hn : r.length + 1 ≤ n) (hp : szm μ0 m ≤ p) : enS μ0 n ((m, p, rg, cg) :: r, rs) = enS μ0 n (gvS μ0 (rg 0) ((m, p, rg, cg) :: r)) := by
  have hg : (gvS μ0 (rg 0) ((m, p, rg, cg) :: r)).1.length = r.length := by
    match r with
    | [] => rfl
    | (m', p', rg', cg') :: r => rfl
  obtain ⟨k, rfl⟩ : ∃ k, n = k + 1 := ⟨n - 1, by omega⟩
  rw [en_st (k + 1) (gvS μ0 (rg 0) ((m, p, rg, cg) :: r)) (by rw [hg]; omega)]
  show (if szm μ0 m ≤ p then enS μ0 k (gvS μ0 (rg 0) ((m, p, rg, cg) :: r)) else _) = _
  rw [if_pos hp, en_st k _ (by rw [hg]; omega)]
theorem en_not {n m p : Nat} {rg cg : Nat → Int32} {r : List FR} {rs : RS} (hp : ¬ szm μ0 m ≤ p) : enS μ0 n ((m, p, rg, cg) :: r, rs) = ((m, p, rg, cg) :: r, rs) := by
  cases n with
  | zero => rfl
  | succ k =>
    show (if szm μ0 m ≤ p then enS μ0 k (gvS μ0 (rg 0) ((m, p, rg, cg) :: r)) else ((m, p, rg, cg) :: r, rs)) = _
    rw [if_neg hp]
theorem en_nil {n : Nat} {rs : RS} : enS μ0 n ([], rs) = ([], rs) := by cases n <;> rfl
theorem ru_nil : ∀ (n : Nat) (rs : RS), ruS μ0 n ([], rs) = (([], rs), n)
  | 0, _ => rfl
  | _ + 1, _ => rfl
theorem r_run {x y z : Int32} (hT : TI μ0) (hR0 : TR μ0 μ) (h1 : (∀ m, m < mct μ0 → x ≠ nI m) → Q (some (pI 0)) (pu μ 16 0 0 (nI 1))) (h2 : ∀ m, m < mct μ0 → x = nI m → (∀ f, f ≤ 3000 → z ≠ nI f) → Q (some (pI 0)) (pu μ 16 0 0 (nI 2)))
    (h3 : ∀ μ' m f, m < mct μ0 → x = nI m → f ≤ 3000 → z = nI f → rnQ μ0 μ μ' m y f → (rnS μ0 m y f).1.1 ≠ [] → μ' 16 0 0 = nI 3 → Q (some (pI 0)) μ')
    (h4 : ∀ μ' m f c, m < mct μ0 → x = nI m → f ≤ 3000 → z = nI f → rnQ μ0 μ μ' m y f → (rnS μ0 m y f).1.2 = some (.inr c) → μ' 16 0 0 = nI 4 → Q (some (pI 0)) μ')
    (h : ∀ μ' m f v, m < mct μ0 → x = nI m → f ≤ 3000 → z = nI f → rnQ μ0 μ μ' m y f → (rnS μ0 m y f).1.2 = some (.inl v) → μ' 16 0 0 = nI 0 → Q (some (pI v)) μ') : Cl 49 [pR 16 0, pI x, pI y, pI z] μ Q := by
  refine Cl_in rfl ?_
  (repeat refine Ax_step rfl ?_)
  refine Ax_call rfl (r_isMethod hT hR0 (fun m hm e => ?_) (fun no => ?_))
  · subst e
    have hk := hT.k
    refine Ax_br rfl (fun _ => ?_) (fun hb => absurd (by decide) hb)
    (repeat refine Ax_step rfl ?_)
    have two : (∀ f, f ≤ 3000 → z ≠ nI f) → ∀ z1 z2 : Option PV, Ax 49 36 [some (pR 16 0), some (pI (nI m)), some (pI y), some (pI z), z1, z2] [pI (nI 2)] (pu μ 16 0 0 (nI 2)) (fun y r' μ1 => y = 0 ∧ Q r' μ1) := by
      intro hno z1 z2
      refine Ax_br rfl (fun hb => absurd hb (by decide)) (fun _ => ?_)
      (repeat refine Ax_step rfl ?_)
      exact Ax_rI rfl ⟨rfl, h2 m hm rfl hno⟩
    refine Ax_br rfl (fun hb => ?_) (fun hb => ?_)
    · (repeat refine Ax_step rfl ?_)
      rw [pu_s]
      refine two (fun f hf e => ?_) _ _
      rw [e] at hb
      exact nI_pos (by omega) hb
    · (repeat refine Ax_step rfl ?_)
      refine Ax_br rfl (fun hb2 => ?_) (fun hb2 => ?_)
      · obtain ⟨f, hf, e⟩ : ∃ f, f < 3001 ∧ z = nI f := nI_yes (by omega) hb (fun w => by
          have h1 := Int32.le_iff_toInt_le.mp hb2
          have h2 := Int32.le_iff_toInt_le.mp w
          rw [nI_toInt (by omega)] at h1 h2
          omega)
        subst e
        (repeat refine Ax_step rfl ?_)
        rw [pu_s]
        refine Ax_br rfl (fun _ => ?_) (fun hb => absurd (by decide) hb)
        (repeat refine Ax_step rfl ?_)
        generalize hμ1 : pu (pu (pu (pu (pu μ 16 0 0 (nI 0)) 16 0 15 (nI 0)) 16 0 20 (nI 0)) 16 0 21 (-1)) 16 0 22 (nI 0) = μ1
        have q1 : frQ μ μ1 := by
          rw [← hμ1]
          exact (((((frQ.rf μ).f (by omega)).f (by omega)).f (by omega)).f (by omega)).f (by omega)
        have e20 : μ1 16 0 20 = nI 0 := by rw [← hμ1, pu_j (by omega), pu_j (by omega), pu_s]
        have c1 : RCr μ1 ([], none) := ⟨⟨by rw [← hμ1, pu_j (by omega), pu_j (by omega), pu_j (by omega), pu_s]; rfl, trivial⟩, by show μ1 16 0 21 = -1; rw [← hμ1, pu_j (by omega), pu_s]⟩
        -- the end
        have fin : ∀ (S : List FR × RS) (rem : Nat) (μk : PM) (o : Int32) (z2 : Option PV), rnS μ0 m y f = (S, rem) → wok μ0 S → frQ μ μk → RCr μk S → μk 16 0 20 = nI (f - rem) → ((o = 1 ∧ S.1 ≠ []) ∨ (o = 0 ∧ S.1 = [])) → Ax 49 162 [some (pR 16 0), some (pI (nI m)), some (pI y), some (pI (nI f)), some (pI o), z2] [pI o, pR 16 0] μk (fun y r' μ1 => y = 0 ∧ Q r' μ1) := by
          intro S rem μk o z2 hS hW hq hC h20 ho
          obtain ⟨St, rs⟩ := S
          have post : ∀ v : Int32, μk 16 0 21 = cmO rs → rnQ μ0 μ (pu μk 16 0 0 v) m y f := fun v e => ⟨hq.f (Or.inl rfl), by rw [pu_j (by omega), hS]; exact h20, by rw [pu_j (by omega), hS]; exact e⟩
          rcases ho with ⟨rfl, hne⟩ | ⟨rfl, he⟩
          · have hrs : rs = none := by
              cases rs with
              | none => rfl
              | some x => exact absurd (hW.2.2.1.mpr (fun z => by cases z)) hne
            subst hrs
            refine Ax_br rfl (fun hb => absurd hb (by decide)) (fun _ => ?_)
            (repeat refine Ax_step rfl ?_)
            rw [pu_s]
            refine Ax_br rfl (fun hb => absurd hb (by decide)) (fun _ => ?_)
            (repeat refine Ax_step rfl ?_)
            exact Ax_rI rfl ⟨rfl, h3 _ m f hm rfl (by omega) rfl (post _ hC.2) (by rw [hS]; exact hne) pu_s⟩
          · refine Ax_br rfl (fun _ => ?_) (fun hb => absurd rfl hb)
            (repeat refine Ax_step rfl ?_)
            have he' : St = [] := he
            subst he'
            match rs with
            | none => exact absurd rfl (hW.2.2.1.mp rfl)
            | some (.inl v) =>
              rw [hC.2.2]
              refine Ax_br rfl (fun _ => ?_) (fun hb => absurd (by decide) hb)
              (repeat refine Ax_step rfl ?_)
              rw [pu_s]
              refine Ax_br rfl (fun _ => ?_) (fun hb => absurd (by decide) hb)
              (repeat refine Ax_step rfl ?_)
              rw [pu_j (by omega), hC.2.1]
              exact Ax_rI rfl ⟨rfl, h _ m f v hm rfl (by omega) rfl (post _ hC.2.2) (by rw [hS]) pu_s⟩
            | some (.inr c) =>
              have hc := hW.2.2.2 c rfl
              rw [show μk 16 0 21 = nI c from hC.2]
              refine Ax_br rfl (fun hb => absurd hb (nI_pos (by omega))) (fun _ => ?_)
              (repeat refine Ax_step rfl ?_)
              rw [pu_s]
              refine Ax_br rfl (fun hb => absurd hb (by decide)) (fun _ => ?_)
              (repeat refine Ax_step rfl ?_)
              exact Ax_rI rfl ⟨rfl, h4 _ m f c hm rfl (by omega) rfl (post _ hC.2) (by rw [hS]) pu_s⟩
        have loop : ∀ (n u L : Nat) (S : List FR × RS) (μk : PM) (z2 : Option PV), u + n = f → S.1.length ≤ L → wok μ0 S → frQ μ μk → RCr μk S → μk 16 0 20 = nI u → rnS μ0 m y f = ruS μ0 n (enS μ0 12 S) → Ax 49 74 [some (pR 16 0), some (pI (nI m)), some (pI y), some (pI (nI f)), some (pI 0), z2] [pI (μk 16 0 15)] μk (fun y r' μ1 => y = 0 ∧ Q r' μ1) := by
          intro n
          induction n with
          | zero =>
            intro u L
            induction L with
            | zero =>
              intro S μk z2 hu hL hW hq hC h20 hE
              obtain ⟨St, rs⟩ := S
              match St with
              | _ :: _ => cases hL
              | [] =>
                rw [hC.1.1]
                refine Ax_br rfl (fun _ => ?_) (fun hb => absurd (show nI 0 ≤ 0 by decide) hb)
                (repeat refine Ax_step rfl ?_)
                rw [en_nil, ru_nil] at hE
                exact fin _ 0 μk 0 z2 hE hW hq hC (by rw [h20]; congr 1) (Or.inr ⟨rfl, rfl⟩)
            | succ L ihL =>
              intro S μk z2 hu hL hW hq hC h20 hE
              obtain ⟨St, rs⟩ := S
              match St with
              | [] =>
                rw [hC.1.1]
                refine Ax_br rfl (fun _ => ?_) (fun hb => absurd (show nI 0 ≤ 0 by decide) hb)
                (repeat refine Ax_step rfl ?_)
                rw [en_nil, ru_nil] at hE
                exact fin _ 0 μk 0 z2 hE hW hq hC (by rw [h20]; congr 1) (Or.inr ⟨rfl, rfl⟩)
              | (m1, p, rg, cg) :: r =>
                have hl' : ((m1, p, rg, cg) :: r : List FR).length = r.length + 1 := rfl
                have hl12 : r.length + 1 ≤ 12 := hW.2.1
                have hlL : r.length + 1 ≤ L + 1 := hL
                have hrs : rs = none := by
                  cases rs with
                  | none => rfl
                  | some x => exact absurd (hW.2.2.1.mpr (fun z => by cases z)) (fun z => by cases z)
                subst hrs
                have hfo := hW.1.1
                have hmm : m1 < mct μ0 := hfo.1
                have hm8 : m1 < 8 := by have := hT.m.2; omega
                have hs := hT.s hm8
                have hp24 : p ≤ 24 := hfo.2.1
                have hRk := hq.TR hR0
                rw [hC.1.1]
                refine Ax_br rfl (fun hb => absurd hb (nI_nle (by rw [hl']; omega) (by rw [hl']; omega))) (fun _ => ?_)
                (repeat refine Ax_step rfl ?_)
                refine Ax_br rfl (fun hb => absurd rfl hb) (fun _ => ?_)
                (repeat refine Ax_step rfl ?_)
                rw [hC.1.1, hl', nI_s1]
                refine Ax_ald r.length rfl rfl (show r.length < 12 by omega) ?_
                rw [show μk 29 0 r.length = nI p from hC.1.2.2.1]
                (repeat refine Ax_step rfl ?_)
                refine Ax_ald r.length rfl rfl (show r.length < 12 by omega) ?_
                rw [show μk 28 0 r.length = nI m1 from hC.1.2.1]
                refine Ax_ald m1 rfl rfl hm8 ?_
                rw [hRk.s hm8, hs.1]
                refine Ax_br rfl (fun hb => ?_) (fun hb => ?_)
                · have hlt : p < szm μ0 m1 := (nI_ltI (by omega) (by omega)).mp hb
                  (repeat refine Ax_step rfl ?_)
                  rw [h20]
                  refine Ax_br rfl (fun hb => absurd (by rw [show u = f by omega]) hb) (fun _ => ?_)
                  (repeat refine Ax_step rfl ?_)
                  rw [hC.1.1]
                  refine Ax_br rfl (fun hb => absurd hb (nI_nle (by rw [hl']; omega) (by rw [hl']; omega))) (fun _ => ?_)
                  (repeat refine Ax_step rfl ?_)
                  refine Ax_br rfl (fun _ => ?_) (fun hb => absurd (by decide) hb)
                  (repeat refine Ax_step rfl ?_)
                  rw [en_not (by omega)] at hE
                  exact fin _ 0 μk 1 _ hE hW hq hC (by rw [h20]; congr 1) (Or.inl ⟨rfl, fun z => by cases z⟩)
                · have hge : szm μ0 m1 ≤ p := by
                    rcases Nat.lt_or_ge p (szm μ0 m1) with z | z
                    · exact absurd (nI_lt z (by omega)) hb
                    · exact z
                  (repeat refine Ax_step rfl ?_)
                  rw [pk_mul, Nat.mul_comm 4]
                  refine Ax_ald (r.length * 4 + 0) rfl rfl (show r.length * 4 + 0 < 48 by omega) ?_
                  rw [show μk 30 0 (r.length * 4 + 0) = rg 0 from hC.1.2.2.2.1 0 (by omega)]
                  refine Ax_call rfl (r_leave hT hRk hW.1 hC (by omega) (fun μ' k1 k2 => ?_))
                  (repeat refine Ax_step rfl ?_)
                  obtain ⟨g1, g2⟩ := gv_wok hT (v := rg 0) hW.1 hW.2.1
                  refine ihL _ μ' _ hu (by rw [g2]; omega) g1 (hq.n k2) k1 (by rw [k2.2 20 (by omega) (by omega) (by omega)]; exact h20) ?_
                  rw [← en_top (rs := none) hl12 hge]; exact hE
          | succ n ih =>
            intro u L
            induction L with
            | zero =>
              intro S μk z2 hu hL hW hq hC h20 hE
              obtain ⟨St, rs⟩ := S
              match St with
              | _ :: _ => cases hL
              | [] =>
                rw [hC.1.1]
                refine Ax_br rfl (fun _ => ?_) (fun hb => absurd (show nI 0 ≤ 0 by decide) hb)
                (repeat refine Ax_step rfl ?_)
                rw [en_nil, ru_nil] at hE
                exact fin _ (n + 1) μk 0 z2 hE hW hq hC (by rw [h20]; congr 1; omega) (Or.inr ⟨rfl, rfl⟩)
            | succ L ihL =>
              intro S μk z2 hu hL hW hq hC h20 hE
              obtain ⟨St, rs⟩ := S
              match St with
              | [] =>
                rw [hC.1.1]
                refine Ax_br rfl (fun _ => ?_) (fun hb => absurd (show nI 0 ≤ 0 by decide) hb)
                (repeat refine Ax_step rfl ?_)
                rw [en_nil, ru_nil] at hE
                exact fin _ (n + 1) μk 0 z2 hE hW hq hC (by rw [h20]; congr 1; omega) (Or.inr ⟨rfl, rfl⟩)
              | (m1, p, rg, cg) :: r =>
                have hl' : ((m1, p, rg, cg) :: r : List FR).length = r.length + 1 := rfl
                have hl12 : r.length + 1 ≤ 12 := hW.2.1
                have hlL : r.length + 1 ≤ L + 1 := hL
                have hrs : rs = none := by
                  cases rs with
                  | none => rfl
                  | some x => exact absurd (hW.2.2.1.mpr (fun z => by cases z)) (fun z => by cases z)
                subst hrs
                have hfo := hW.1.1
                have hmm : m1 < mct μ0 := hfo.1
                have hm8 : m1 < 8 := by have := hT.m.2; omega
                have hs := hT.s hm8
                have hp24 : p ≤ 24 := hfo.2.1
                have hRk := hq.TR hR0
                rw [hC.1.1]
                refine Ax_br rfl (fun hb => absurd hb (nI_nle (by rw [hl']; omega) (by rw [hl']; omega))) (fun _ => ?_)
                (repeat refine Ax_step rfl ?_)
                refine Ax_br rfl (fun hb => absurd rfl hb) (fun _ => ?_)
                (repeat refine Ax_step rfl ?_)
                rw [hC.1.1, hl', nI_s1]
                refine Ax_ald r.length rfl rfl (show r.length < 12 by omega) ?_
                rw [show μk 29 0 r.length = nI p from hC.1.2.2.1]
                (repeat refine Ax_step rfl ?_)
                refine Ax_ald r.length rfl rfl (show r.length < 12 by omega) ?_
                rw [show μk 28 0 r.length = nI m1 from hC.1.2.1]
                refine Ax_ald m1 rfl rfl hm8 ?_
                rw [hRk.s hm8, hs.1]
                refine Ax_br rfl (fun hb => ?_) (fun hb => ?_)
                · have hlt : p < szm μ0 m1 := (nI_ltI (by omega) (by omega)).mp hb
                  (repeat refine Ax_step rfl ?_)
                  rw [h20]
                  refine Ax_br rfl (fun _ => ?_) (fun hb => absurd (fun z => ?_) hb)
                  · (repeat refine Ax_step rfl ?_)
                    rw [h20, nI_add]
                    have hq2 : frQ μ (pu μk 16 0 20 (nI (u + 1))) := hq.f (by omega)
                    refine Ax_call rfl (r_act (m := m1) (p := p) (rg := rg) (cg := cg) (r := r) hT (hq2.TR hR0) hW.1 hlt ⟨nr_fld (by omega) hC.1, by show pu _ 16 0 20 _ 16 0 21 = -1; rw [pu_j (by omega)]; exact hC.2⟩ (by omega) (fun μ' k1 k2 => ?_))
                    (repeat refine Ax_step rfl ?_)
                    refine ih (u + 1) 12 _ μ' _ (by omega) (st_wok hT hW.1 hlt hl12).2.1 (st_wok hT hW.1 hlt hl12) (hq2.n k2) k1 (by rw [k2.2 20 (by omega) (by omega) (by omega), pu_s]) ?_
                    rw [hE, en_not (by omega)]
                    rfl
                  · have := (nI_eq (by omega) (by omega)).mp z
                    omega
                · have hge : szm μ0 m1 ≤ p := by
                    rcases Nat.lt_or_ge p (szm μ0 m1) with z | z
                    · exact absurd (nI_lt z (by omega)) hb
                    · exact z
                  (repeat refine Ax_step rfl ?_)
                  rw [pk_mul, Nat.mul_comm 4]
                  refine Ax_ald (r.length * 4 + 0) rfl rfl (show r.length * 4 + 0 < 48 by omega) ?_
                  rw [show μk 30 0 (r.length * 4 + 0) = rg 0 from hC.1.2.2.2.1 0 (by omega)]
                  refine Ax_call rfl (r_leave hT hRk hW.1 hC (by omega) (fun μ' k1 k2 => ?_))
                  (repeat refine Ax_step rfl ?_)
                  obtain ⟨g1, g2⟩ := gv_wok hT (v := rg 0) hW.1 hW.2.1
                  refine ihL _ μ' _ hu (by rw [g2]; omega) g1 (hq.n k2) k1 (by rw [k2.2 20 (by omega) (by omega) (by omega)]; exact h20) ?_
                  rw [← en_top (rs := none) hl12 hge]; exact hE
        refine Ax_call rfl (r_enter c1 rfl (by show 0 < 12; omega) (fun μ2 k1 k2 => ?_))
        (repeat refine Ax_step rfl ?_)
        exact loop f 0 12 (fr0 m y, none) μ2 _ (by omega) (by show 1 ≤ 12; omega) (fr0_wok hm) (q1.n k2) k1 (by rw [k2.2 20 (by omega) (by omega) (by omega)]; exact e20) rfl
      · (repeat refine Ax_step rfl ?_)
        rw [pu_s]
        refine two (fun f hf e => ?_) _ _
        rw [e] at hb2
        exact hb2 (nI_le hf (by omega))
  · refine Ax_br rfl (fun hb => absurd rfl hb) (fun _ => ?_)
    (repeat refine Ax_step rfl ?_)
    rw [pu_s]
    refine Ax_br rfl (fun hb => absurd hb (by decide)) (fun _ => ?_)
    (repeat refine Ax_step rfl ?_)
    exact Ax_rI rfl ⟨rfl, h1 no⟩
end P29
