/-! The reference's lengths. -/
def ix (m i c : Nat) : Nat := 10 * (24 * m + i) + c
/-- the number at (m, i, c) -/
def lv (μ : PM) (m i c : Nat) : Nat := tn (μ 27 0 (ix m i c))
def LB (μ0 μ : PM) : Prop := ∀ m i c, m < mct μ0 → i < szm μ0 m → c < kct μ0 → μ 27 0 (ix m i c) = nI (lv μ m i c) ∧ lv μ m i c ≤ 1000000
def LI (μ0 μ : PM) : Prop := LB μ0 μ ∧ ∀ m i c, m < mct μ0 → i < szm μ0 m → c < kct μ0 → lv μ m i c < 1000000 → wy μ0 (lv μ m i c) m i c
/-- the handler's number of a door, as the reference has it -/
def hdI (d : Nat) : Int32 := if d % 5 = 4 then -1 else nI (d % 5)
theorem hd_thr {μ0 : PM} (hT : TI μ0) {m j c d : Nat} (hm : m < 8) (hd : d / 5 = m) : ctI (cat μ0 m j c) = hdI d ↔ thr μ0 m j c = d := by
  unfold thr hdI
  cases e : cat μ0 m j c with
  | none =>
    show (-1 : Int32) = _ ↔ m * 5 + 4 = d
    by_cases h : d % 5 = 4
    · rw [if_pos h]; constructor <;> intro _
      · omega
      · rfl
    · rw [if_neg h]
      constructor
      · intro z; exact absurd z.symm (nI_ne1 (by omega))
      · intro z; omega
  | some k =>
    have hk := hT.cat_lt hm e
    show nI k = _ ↔ m * 5 + k = d
    by_cases h : d % 5 = 4
    · rw [if_pos h]
      constructor
      · intro z; exact absurd z (nI_ne1 (by omega))
      · intro z; omega
    · rw [if_neg h, nI_eq (by omega) (by omega)]
      omega
section P25
variable {μ0 μ : PM} {Q : Option PV → PM → Prop}
theorem r_nearest {d c : Nat} (hT : TI μ0) (hR : TR μ0 μ) (hB : LB μ0 μ) (hd : d < 40) (hm : d / 5 < mct μ0) (hc : c < kct μ0) (h : ∀ v, v ≤ 1000000 → (v < 1000000 → ∃ j, j < szm μ0 (d / 5) ∧ thr μ0 (d / 5) j c = d ∧ lv μ (d / 5) j c = v) → (∀ j, j < szm μ0 (d / 5) → thr μ0 (d / 5) j c = d → v ≤ lv μ (d / 5) j c) → Q (some (pI (nI v))) μ) : Cl 29 [pR 16 0, pI (nI (d / 5)), pI (hdI d), pI (nI c)] μ Q := by
  have hm8 : d / 5 < 8 := by omega
  have hs := hT.s hm8
  have hk := hT.k
  generalize hme : d / 5 = m at hm hm8 hs h
  have loop : ∀ r j, j + r = szm μ0 m → ∀ (v : Nat) (z : Option PV), v ≤ 1000000 → (v < 1000000 → ∃ i, i < j ∧ thr μ0 m i c = d ∧ lv μ m i c = v) → (∀ i, i < j → thr μ0 m i c = d → v ≤ lv μ m i c) →
      Ax 29 14 [some (pR 16 0), some (pI (nI m)), some (pI (hdI d)), some (pI (nI c)), some (pI (nI v)), some (pI (nI j)), z] [pI (nI m), pR 18 0, pI (nI j)] μ (fun y r' μ1 => y = 0 ∧ Q r' μ1) := by
    intro r
    induction r with
    | zero =>
      intro j hj v z h1 h2 h3
      refine Ax_ald m rfl rfl hm8 ?_
      rw [hR.s hm8, hs.1]
      refine Ax_br rfl (fun _ => ?_) (fun hb => absurd (nI_le (by omega) (by omega)) hb)
      (repeat refine Ax_step rfl ?_)
      refine Ax_rI rfl ⟨rfl, h v h1 (fun hv => ?_) (fun i hi => h3 i (by omega))⟩
      obtain ⟨i, g1, g2⟩ := h2 hv
      exact ⟨i, by omega, g2⟩
    | succ r ih =>
      intro j hj v z h1 h2 h3
      refine Ax_ald m rfl rfl hm8 ?_
      rw [hR.s hm8, hs.1]
      refine Ax_br rfl (fun hb => absurd hb (nI_ge (by omega) (by omega))) (fun _ => ?_)
      (repeat refine Ax_step rfl ?_)
      obtain ⟨b1, b2⟩ := hB m j c hm (by omega) hc
      refine Ax_ald (ix m j c) rfl (by rw [pk_mul, nI_add, pk_mul, nI_add]; rfl) (show ix m j c < 1920 by unfold ix; omega) ?_
      rw [b1]
      (repeat refine Ax_step rfl ?_)
      have next : ∀ w : Nat, w ≤ 1000000 → (w < 1000000 → ∃ i, i < j + 1 ∧ thr μ0 m i c = d ∧ lv μ m i c = w) → (∀ i, i < j + 1 → thr μ0 m i c = d → w ≤ lv μ m i c) → ∀ z : Option PV, Ax 29 14 [some (pR 16 0), some (pI (nI m)), some (pI (hdI d)), some (pI (nI c)), some (pI (nI w)), some (pI (nI j + nI 1)), z] [pI (nI m), pR 18 0, pI (nI j + nI 1)] μ (fun y r' μ1 => y = 0 ∧ Q r' μ1) := by
        intro w k1 k2 k3 z
        rw [nI_add]
        exact ih (j + 1) (by omega) w z k1 k2 k3
      refine Ax_br rfl (fun hb => ?_) (fun hb => ?_)
      · have hle : v ≤ lv μ m j c := (nI_leI (by omega) (by omega)).mp hb
        (repeat refine Ax_step rfl ?_)
        refine next v h1 (fun hv => ?_) (fun i hi ht => ?_) _
        · obtain ⟨i, g1, g2⟩ := h2 hv
          exact ⟨i, by omega, g2⟩
        · by_cases e : i = j
          · subst e; exact hle
          · exact h3 i (by omega) ht
      · have hlt : lv μ m j c < v := by
          rcases Nat.lt_or_ge (lv μ m j c) v with z | z
          · exact z
          · exact absurd (nI_le z (by omega)) hb
        (repeat refine Ax_step rfl ?_)
        refine Ax_call rfl (r_catcher hT hR hm8 hc ?_)
        (repeat refine Ax_step rfl ?_)
        refine Ax_br rfl (fun hb2 => ?_) (fun hb2 => ?_)
        · have hnt : thr μ0 m j c ≠ d := fun z => hb2 ((hd_thr hT hm8 hme).mpr z)
          (repeat refine Ax_step rfl ?_)
          refine next v h1 (fun hv => ?_) (fun i hi ht => ?_) _
          · obtain ⟨i, g1, g2⟩ := h2 hv
            exact ⟨i, by omega, g2⟩
          · by_cases e : i = j
            · subst e; exact absurd ht hnt
            · exact h3 i (by omega) ht
        · have ht : thr μ0 m j c = d := (hd_thr hT hm8 hme).mp (Decidable.byContradiction hb2)
          (repeat refine Ax_step rfl ?_)
          refine next (lv μ m j c) b2 (fun hv => ⟨j, by omega, ht, rfl⟩) (fun i hi ht' => ?_) _
          by_cases e : i = j
          · subst e; exact Nat.le_refl _
          · have := h3 i (by omega) ht'; omega
  refine Cl_in rfl ?_
  (repeat refine Ax_step rfl ?_)
  exact loop (szm μ0 m) 0 (by omega) 1000000 _ (by omega) (fun z => by omega) (fun i hi => by omega)
/-- what reckon gives -/
def RK (μ0 μ : PM) (m i c w : Nat) : Prop := w ≤ 1000001 ∧ (own μ0 m i c = true → w ≤ 1) ∧ (∀ d j, src μ0 m i = some d → j < szm μ0 (d / 5) → thr μ0 (d / 5) j c = d → w ≤ 1 + lv μ (d / 5) j c) ∧ (w < 1000000 → (w = 1 ∧ own μ0 m i c = true) ∨ ∃ d j, src μ0 m i = some d ∧ j < szm μ0 (d / 5) ∧ thr μ0 (d / 5) j c = d ∧ w = 1 + lv μ (d / 5) j c)
theorem r_reckon {m i c : Nat} (hT : TI μ0) (hR : TR μ0 μ) (hB : LB μ0 μ) (hm : m < mct μ0) (hi : i < szm μ0 m) (hc : c < kct μ0) (h : ∀ w, RK μ0 μ m i c w → Q (some (pI (nI w))) μ) : Cl 30 [pR 16 0, pI (nI m), pI (nI i), pI (nI c)] μ Q := by
  have hmc := hT.m.2
  have hm8 : m < 8 := by omega
  have hs := (hT.s hm8).2
  have hk := hT.k
  have hi24 : i < 24 := by omega
  have hat : 24 * m + i < 192 := by omega
  obtain ⟨e1, e2, e3⟩ := hR.i hm8 hi24
  obtain ⟨k, hcd, hk10, g0, g1, g4, g5, g6, g7⟩ := hT.i hm8 hi
  have hop : opc μ0 m i = k := nI_self hcd (by omega)
  refine Cl_in rfl ?_
  (repeat refine Ax_step rfl ?_)
  rw [pk_mul, nI_add]
  refine Ax_ald (24 * m + i) rfl rfl hat ?_
  rw [e1, hcd]
  (repeat refine Ax_step rfl ?_)
  -- the other roads
  have far : (∀ d, src μ0 m i = some d → ∀ j, j < szm μ0 (d / 5) → thr μ0 (d / 5) j c ≠ d) → own μ0 m i c = false → Ax 30 136 [some (pR 16 0), some (pI (nI m)), some (pI (nI i)), some (pI (nI c)), some (pI (nI (24 * m + i))), some (pI (nI k))] [] μ (fun y r' μ1 => y = 0 ∧ Q r' μ1) := by
    intro hs ho
    (repeat refine Ax_step rfl ?_)
    refine Ax_rI rfl ⟨rfl, h 1000000 ⟨by omega, fun z => ?_, fun d j z1 z2 z3 => absurd z3 (hs d z1 j z2), fun z => by omega⟩⟩
    rw [ho] at z; cases z
  have one : own μ0 m i c = true → Ax 30 58 [some (pR 16 0), some (pI (nI m)), some (pI (nI i)), some (pI (nI c)), some (pI (nI (24 * m + i))), some (pI (nI k))] [] μ (fun y r' μ1 => y = 0 ∧ Q r' μ1) := by
    intro ho
    (repeat refine Ax_step rfl ?_)
    exact Ax_rI rfl ⟨rfl, h 1 ⟨by omega, fun _ => Nat.le_refl _, fun d j _ _ _ => by omega, fun _ => Or.inl ⟨rfl, ho⟩⟩⟩
  have nea : ∀ (d v : Nat), src μ0 m i = some d → own μ0 m i c = false → v ≤ 1000000 → (v < 1000000 → ∃ j, j < szm μ0 (d / 5) ∧ thr μ0 (d / 5) j c = d ∧ lv μ (d / 5) j c = v) → (∀ j, j < szm μ0 (d / 5) → thr μ0 (d / 5) j c = d → v ≤ lv μ (d / 5) j c) → RK μ0 μ m i c (1 + v) := by
    intro d v hs ho h1 h2 h3
    refine ⟨by omega, fun z => (by rw [ho] at z; cases z), fun d' j z1 z2 z3 => ?_, fun z => ?_⟩
    · rw [hs] at z1; cases z1
      have := h3 j z2 z3; omega
    · obtain ⟨j, k1, k2, k3⟩ := h2 (by omega)
      exact Or.inr ⟨d, j, hs, k1, k2, by omega⟩
  -- behind the classes of its own
  have more : own μ0 m i c = false → Ax 30 64 [some (pR 16 0), some (pI (nI m)), some (pI (nI i)), some (pI (nI c)), some (pI (nI (24 * m + i))), some (pI (nI k))] [pI (nI 6), pI (nI k)] μ (fun y r' μ1 => y = 0 ∧ Q r' μ1) := by
    intro ho
    have again : k ≠ 6 ∨ (k = 6 ∧ ∀ j, j < mct μ0 → μ0 43 m i ≠ nI j) → Ax 30 101 [some (pR 16 0), some (pI (nI m)), some (pI (nI i)), some (pI (nI c)), some (pI (nI (24 * m + i))), some (pI (nI k))] [pI (nI 8), pI (nI k)] μ (fun y r' μ1 => y = 0 ∧ Q r' μ1) := by
      intro h6
      refine Ax_br rfl (fun hb => ?_) (fun hb => ?_)
      · have h8 : k ≠ 8 := fun z => hb (by rw [z])
        refine far (fun d hsd j hj => ?_) ho
        unfold src at hsd
        rw [hop] at hsd
        rcases h6 with z | ⟨z, zn⟩
        · rw [if_neg z, if_neg h8] at hsd; cases hsd
        · rw [if_pos z] at hsd
          obtain ⟨-, y, hy, e⟩ := g6 z
          rw [show ob μ0 m i = y from nI_self e (by omega)] at hsd
          cases hsd
          have : ¬ y < mct μ0 := fun w => zn y w e
          rw [show (y * 5 + 4) / 5 = y by omega, (hT.out hy (by omega)).1] at hj
          omega
      · have h8 : k = 8 := (nI_eq (by omega) (by omega)).mp (Decidable.byContradiction hb)
        obtain ⟨y, hy, e⟩ := g0 (by omega)
        have hsd : src μ0 m i = some (m * 5 + y) := by
          unfold src
          rw [hop, if_neg (by omega), if_pos h8, show oa μ0 m i = y from nI_self e (by omega)]
        (repeat refine Ax_step rfl ?_)
        refine Ax_ald (24 * m + i) rfl rfl hat ?_
        rw [e2, e]
        (repeat refine Ax_step rfl ?_)
        refine Ax_ald m rfl rfl hm8 ?_
        rw [hR.h hm8, (hT.h hm8).1]
        have hh4 := (hT.h hm8).2
        refine Ax_br rfl (fun hb2 => ?_) (fun hb2 => ?_)
        · have hge : hcm μ0 m ≤ y := (nI_leI (by omega) (by omega)).mp hb2
          refine far (fun d hs2 j hj ht => ?_) ho
          rw [hsd] at hs2; cases hs2
          rw [show (m * 5 + y) / 5 = m by omega] at ht
          unfold thr at ht
          cases ec : cat μ0 m j c with
          | none => rw [ec] at ht; have : m * 5 + 4 = m * 5 + y := ht; omega
          | some q =>
            rw [ec] at ht
            have : m * 5 + q = m * 5 + y := ht
            have := catF_lt _ _ _ ec
            omega
        · (repeat refine Ax_step rfl ?_)
          refine Ax_ald (24 * m + i) rfl rfl hat ?_
          rw [e2, e]
          (repeat refine Ax_step rfl ?_)
          have hh : hdI (m * 5 + y) = nI y := by unfold hdI; rw [if_neg (by omega), show (m * 5 + y) % 5 = y by omega]
          have hdm : (m * 5 + y) / 5 = m := by omega
          have := r_nearest (d := m * 5 + y) (Q := fun r μ1 => Ax 30 134 [some (pR 16 0), some (pI (nI m)), some (pI (nI i)), some (pI (nI c)), some (pI (nI (24 * m + i))), some (pI (nI k))] (ppu r [pI (nI 1)]) μ1 (fun y r' μ1 => y = 0 ∧ Q r' μ1)) hT hR hB (by omega) (by rw [hdm]; exact hm) hc (fun v k1 k2 k3 => by
            (repeat refine Ax_step rfl ?_)
            rw [nI_add]
            exact Ax_rI rfl ⟨rfl, h _ (nea _ v hsd ho k1 k2 k3)⟩)
          rw [hdm, hh] at this
          exact Ax_call rfl this
    refine Ax_br rfl (fun hb => ?_) (fun hb => ?_)
    · (repeat refine Ax_step rfl ?_)
      exact again (Or.inl (fun z => hb (by rw [z])))
    · have h6 : k = 6 := (nI_eq (by omega) (by omega)).mp (Decidable.byContradiction hb)
      obtain ⟨-, y, hy, e⟩ := g6 h6
      (repeat refine Ax_step rfl ?_)
      refine Ax_ald (24 * m + i) rfl rfl hat ?_
      rw [e3, e]
      refine Ax_call rfl (r_isMethod hT hR (fun y' hy' ee => ?_) (fun no => ?_))
      · have := (nI_eq (by omega) (by omega)).mp ee
        subst this
        have hsd : src μ0 m i = some (y * 5 + 4) := by
          unfold src
          rw [hop, if_pos h6, show ob μ0 m i = y from nI_self e (by omega)]
        refine Ax_br rfl (fun hb => absurd hb (by decide)) (fun _ => ?_)
        (repeat refine Ax_step rfl ?_)
        refine Ax_ald (24 * m + i) rfl rfl hat ?_
        rw [e3, e]
        (repeat refine Ax_step rfl ?_)
        have hh : hdI (y * 5 + 4) = -1 := by unfold hdI; rw [if_pos (by omega)]
        have hdm : (y * 5 + 4) / 5 = y := by omega
        have := r_nearest (d := y * 5 + 4) (Q := fun r μ1 => Ax 30 95 [some (pR 16 0), some (pI (nI m)), some (pI (nI i)), some (pI (nI c)), some (pI (nI (24 * m + i))), some (pI (nI k))] (ppu r [pI (nI 1)]) μ1 (fun y r' μ1 => y = 0 ∧ Q r' μ1)) hT hR hB (by omega) (by rw [hdm]; exact hy') hc (fun v k1 k2 k3 => by
          (repeat refine Ax_step rfl ?_)
          rw [nI_add]
          exact Ax_rI rfl ⟨rfl, h _ (nea _ v hsd ho k1 k2 k3)⟩)
        rw [hdm, hh] at this
        exact Ax_call rfl this
      · refine Ax_br rfl (fun _ => ?_) (fun hb => absurd rfl hb)
        (repeat refine Ax_step rfl ?_)
        exact again (Or.inr ⟨h6, fun j hj z => no j hj (by rw [← e]; exact z)⟩)
  have ownE : own μ0 m i c = ((decide (k = 7) && decide (oa μ0 m i = c)) || (decide (k = 3) && decide (c = 1)) || (decide (k = 6) && decide (c = 2))) := by unfold own; rw [hop]
  -- CALL of itself raises class 2
  have q6 : (¬ (k = 7 ∧ oa μ0 m i = c)) → (¬ (k = 3 ∧ c = 1)) → Ax 30 50 [some (pR 16 0), some (pI (nI m)), some (pI (nI i)), some (pI (nI c)), some (pI (nI (24 * m + i))), some (pI (nI k))] [pI (nI 6), pI (nI k)] μ (fun y r' μ1 => y = 0 ∧ Q r' μ1) := by
    intro n7 n3
    have noo : ¬ (k = 6 ∧ c = 2) → own μ0 m i c = false := by
      intro n6
      rw [ownE, ← Bool.not_eq_true]
      simp only [Bool.or_eq_true, Bool.and_eq_true, decide_eq_true_eq]
      rintro ((z | z) | z)
      · exact n7 z
      · exact n3 z
      · exact n6 z
    refine Ax_br rfl (fun hb => ?_) (fun hb => ?_)
    · (repeat refine Ax_step rfl ?_)
      exact more (noo (fun z => hb (by rw [z.1])))
    · have h6 : k = 6 := (nI_eq (by omega) (by omega)).mp (Decidable.byContradiction hb)
      (repeat refine Ax_step rfl ?_)
      refine Ax_br rfl (fun hb2 => ?_) (fun hb2 => ?_)
      · (repeat refine Ax_step rfl ?_)
        exact more (noo (fun z => hb2 (by rw [z.2])))
      · have h2 : c = 2 := (nI_eq (by omega) (by omega)).mp (Decidable.byContradiction hb2)
        refine one ?_
        rw [ownE, h6, h2]; simp
  have q3 : (¬ (k = 7 ∧ oa μ0 m i = c)) → Ax 30 38 [some (pR 16 0), some (pI (nI m)), some (pI (nI i)), some (pI (nI c)), some (pI (nI (24 * m + i))), some (pI (nI k))] [pI (nI 3), pI (nI k)] μ (fun y r' μ1 => y = 0 ∧ Q r' μ1) := by
    intro n7
    refine Ax_br rfl (fun hb => ?_) (fun hb => ?_)
    · (repeat refine Ax_step rfl ?_)
      exact q6 n7 (fun z => hb (by rw [z.1]))
    · have h3 : k = 3 := (nI_eq (by omega) (by omega)).mp (Decidable.byContradiction hb)
      (repeat refine Ax_step rfl ?_)
      refine Ax_br rfl (fun hb2 => ?_) (fun hb2 => ?_)
      · have h1 : c = 1 := (nI_eq (by omega) (by omega)).mp hb2
        refine one ?_
        rw [ownE, h3, h1]; simp
      · (repeat refine Ax_step rfl ?_)
        exact q6 n7 (fun z => hb2 (by rw [z.2]))
  refine Ax_br rfl (fun hb => ?_) (fun hb => ?_)
  · (repeat refine Ax_step rfl ?_)
    exact q3 (fun z => hb (by rw [z.1]))
  · have h7 : k = 7 := (nI_eq (by omega) (by omega)).mp (Decidable.byContradiction hb)
    obtain ⟨y, hy, e⟩ := g7 h7
    have hoa : oa μ0 m i = y := nI_self e (by omega)
    (repeat refine Ax_step rfl ?_)
    refine Ax_ald (24 * m + i) rfl rfl hat ?_
    rw [e2, e]
    (repeat refine Ax_step rfl ?_)
    refine Ax_br rfl (fun hb2 => ?_) (fun hb2 => ?_)
    · have hy2 : y = c := (nI_eq (by omega) (by omega)).mp hb2
      refine one ?_
      rw [ownE, h7, hoa, hy2]; simp
    · (repeat refine Ax_step rfl ?_)
      refine q3 (fun z => hb2 ?_)
      rw [← z.2, hoa]
end P25
