/-! What changes the text: kind, add, handler, change. -/
def Ct (mi : Nat) (as : List PV) (μ : PM) (Q : Nat → Option PV → PM → Prop) : Prop := Ax mi 0 (pen as (mxl mi)) [] μ Q
theorem Ct_in {mi : Nat} {as : List PV} {ls : PL} {μ : PM} {Q : Nat → Option PV → PM → Prop} (hl : pen' as (mxl mi) = some ls) (h : Ax mi 0 ls [] μ Q) : Ct mi as μ Q := by
  unfold Ct
  rw [(pen'_eq as (mxl mi) ls hl).1]
  exact h
section P18
variable {μ : PM} {x y c a b : Int32} {Q : Option PV → PM → Prop}
theorem c_isReg (h1 : ∀ m, m < 4 → x = nI m → Q (some (pI 1)) μ) (h0 : (∀ m, m < 4 → x ≠ nI m) → Q (some (pI 0)) μ) : Cl 103 [pI x] μ Q := by
  refine Cl_in rfl ?_
  (repeat refine Ax_step rfl ?_)
  refine Ax_br rfl (fun hb => ?_) (fun hb => ?_)
  · (repeat refine Ax_step rfl ?_)
    exact Ax_rZ rfl (Or.inl rfl) ⟨rfl, h0 (nI_no (by omega) (Or.inl hb))⟩
  · (repeat refine Ax_step rfl ?_)
    refine Ax_br rfl (fun hb2 => ?_) (fun hb2 => ?_)
    · (repeat refine Ax_step rfl ?_)
      exact Ax_rZ rfl (Or.inl rfl) ⟨rfl, h0 (nI_no (by omega) (Or.inr hb2))⟩
    · (repeat refine Ax_step rfl ?_)
      obtain ⟨m, hm, e⟩ := nI_yes (by omega) hb hb2
      exact Ax_rZ rfl (Or.inr rfl) ⟨rfl, h1 m hm e⟩
theorem c_isPla (h1 : ∀ m, m < 24 → x = nI m → Q (some (pI 1)) μ) (h0 : (∀ m, m < 24 → x ≠ nI m) → Q (some (pI 0)) μ) : Cl 104 [pI x] μ Q := by
  refine Cl_in rfl ?_
  (repeat refine Ax_step rfl ?_)
  refine Ax_br rfl (fun hb => ?_) (fun hb => ?_)
  · (repeat refine Ax_step rfl ?_)
    exact Ax_rZ rfl (Or.inl rfl) ⟨rfl, h0 (nI_no (by omega) (Or.inl hb))⟩
  · (repeat refine Ax_step rfl ?_)
    refine Ax_br rfl (fun hb2 => ?_) (fun hb2 => ?_)
    · (repeat refine Ax_step rfl ?_)
      exact Ax_rZ rfl (Or.inl rfl) ⟨rfl, h0 (nI_no (by omega) (Or.inr hb2))⟩
    · (repeat refine Ax_step rfl ?_)
      obtain ⟨m, hm, e⟩ := nI_yes (by omega) hb hb2
      exact Ax_rZ rfl (Or.inr rfl) ⟨rfl, h1 m hm e⟩
theorem vI_0 {K : Nat} : vI K (nI 0) a b ↔ (∃ x, x < 4 ∧ a = nI x) := by
  constructor
  · rintro ⟨k, e, hk, g0, g1, g4, g5, g6, g7⟩
    have := (nI_eq (by omega) (by omega)).mp e
    subst this
    exact g0 (by omega)
  · intro h
    exact ⟨0, rfl, by omega, fun _ => h, fun h => by omega, fun h => by omega, fun h => by omega, fun h => by omega, fun h => by omega⟩
theorem vI_1 {K : Nat} : vI K (nI 1) a b ↔ ((∃ x, x < 4 ∧ a = nI x) ∧ ∃ y, y < 4 ∧ b = nI y) := by
  constructor
  · rintro ⟨k, e, hk, g0, g1, g4, g5, g6, g7⟩
    have := (nI_eq (by omega) (by omega)).mp e
    subst this
    exact g1 (by omega)
  · intro h
    exact ⟨1, rfl, by omega, fun h => by omega, fun _ => h, fun h => by omega, fun h => by omega, fun h => by omega, fun h => by omega⟩
theorem vI_2 {K : Nat} : vI K (nI 2) a b ↔ ((∃ x, x < 4 ∧ a = nI x) ∧ ∃ y, y < 4 ∧ b = nI y) := by
  constructor
  · rintro ⟨k, e, hk, g0, g1, g4, g5, g6, g7⟩
    have := (nI_eq (by omega) (by omega)).mp e
    subst this
    exact g1 (by omega)
  · intro h
    exact ⟨2, rfl, by omega, fun h => by omega, fun _ => h, fun h => by omega, fun h => by omega, fun h => by omega, fun h => by omega⟩
theorem vI_3 {K : Nat} : vI K (nI 3) a b ↔ ((∃ x, x < 4 ∧ a = nI x) ∧ ∃ y, y < 4 ∧ b = nI y) := by
  constructor
  · rintro ⟨k, e, hk, g0, g1, g4, g5, g6, g7⟩
    have := (nI_eq (by omega) (by omega)).mp e
    subst this
    exact g1 (by omega)
  · intro h
    exact ⟨3, rfl, by omega, fun h => by omega, fun _ => h, fun h => by omega, fun h => by omega, fun h => by omega, fun h => by omega⟩
theorem vI_4 {K : Nat} : vI K (nI 4) a b ↔ (∃ x, x < 24 ∧ a = nI x) := by
  constructor
  · rintro ⟨k, e, hk, g0, g1, g4, g5, g6, g7⟩
    have := (nI_eq (by omega) (by omega)).mp e
    subst this
    exact g4 rfl
  · intro h
    exact ⟨4, rfl, by omega, fun h => by omega, fun h => by omega, fun _ => h, fun h => by omega, fun h => by omega, fun h => by omega⟩
theorem vI_5 {K : Nat} : vI K (nI 5) a b ↔ ((∃ x, x < 4 ∧ a = nI x) ∧ ∃ y, y < 24 ∧ b = nI y) := by
  constructor
  · rintro ⟨k, e, hk, g0, g1, g4, g5, g6, g7⟩
    have := (nI_eq (by omega) (by omega)).mp e
    subst this
    exact g5 rfl
  · intro h
    exact ⟨5, rfl, by omega, fun h => by omega, fun h => by omega, fun h => by omega, fun _ => h, fun h => by omega, fun h => by omega⟩
theorem vI_6 {K : Nat} : vI K (nI 6) a b ↔ ((∃ x, x < 4 ∧ a = nI x) ∧ ∃ y, y < 8 ∧ b = nI y) := by
  constructor
  · rintro ⟨k, e, hk, g0, g1, g4, g5, g6, g7⟩
    have := (nI_eq (by omega) (by omega)).mp e
    subst this
    exact g6 rfl
  · intro h
    exact ⟨6, rfl, by omega, fun h => by omega, fun h => by omega, fun h => by omega, fun h => by omega, fun _ => h, fun h => by omega⟩
theorem vI_7 {K : Nat} : vI K (nI 7) a b ↔ (∃ x, x < K ∧ a = nI x) := by
  constructor
  · rintro ⟨k, e, hk, g0, g1, g4, g5, g6, g7⟩
    have := (nI_eq (by omega) (by omega)).mp e
    subst this
    exact g7 rfl
  · intro h
    exact ⟨7, rfl, by omega, fun h => by omega, fun h => by omega, fun h => by omega, fun h => by omega, fun h => by omega, fun _ => h⟩
theorem vI_8 {K : Nat} : vI K (nI 8) a b ↔ (∃ x, x < 4 ∧ a = nI x) := by
  constructor
  · rintro ⟨k, e, hk, g0, g1, g4, g5, g6, g7⟩
    have := (nI_eq (by omega) (by omega)).mp e
    subst this
    exact g0 (by omega)
  · intro h
    exact ⟨8, rfl, by omega, fun _ => h, fun h => by omega, fun h => by omega, fun h => by omega, fun h => by omega, fun h => by omega⟩
theorem vI_9 {K : Nat} : vI K (nI 9) a b ↔ (∃ x, x < 4 ∧ a = nI x) := by
  constructor
  · rintro ⟨k, e, hk, g0, g1, g4, g5, g6, g7⟩
    have := (nI_eq (by omega) (by omega)).mp e
    subst this
    exact g0 (by omega)
  · intro h
    exact ⟨9, rfl, by omega, fun _ => h, fun h => by omega, fun h => by omega, fun h => by omega, fun h => by omega, fun h => by omega⟩
theorem vI_no {K : Nat} (h : ∀ k, k < 10 → c ≠ nI k) : ¬ vI K c a b := by
  rintro ⟨k, e, hk, -⟩
  exact h k hk e
theorem c_allows (hT : TI μ) (h1 : vI (kct μ) c a b → Q (some (pI 1)) μ) (h0 : ¬ vI (kct μ) c a b → Q (some (pI 0)) μ) : Cl 101 [pR 1 0, pI c, pI a, pI b] μ Q := by
  refine Cl_in rfl ?_
  (repeat refine Ax_step rfl ?_)
  refine Ax_sw rfl ?_
  by_cases hc : ∃ k, k < 10 ∧ c = nI k
  · obtain ⟨k, hk, rfl⟩ := hc
    rw [psw_at rfl (by omega) rfl]
    match k, hk with
    | 0, _ =>
      rw [vI_0] at h1 h0
      show Ax 101 56 _ _ _ _
      (repeat refine Ax_step rfl ?_)
      refine Ax_call rfl (c_isReg (fun m hm e => ?_) (fun no => ?_))
      · exact Ax_rZ rfl (Or.inr rfl) ⟨rfl, h1 ⟨m, hm, e⟩⟩
      · exact Ax_rZ rfl (Or.inl rfl) ⟨rfl, h0 (fun ⟨m, hm, e⟩ => no m hm e)⟩
    | 1, _ =>
      rw [vI_1] at h1 h0
      show Ax 101 61 _ _ _ _
      (repeat refine Ax_step rfl ?_)
      refine Ax_call rfl (c_isReg (fun m hm e => ?_) (fun no => ?_))
      · refine Ax_br rfl (fun hb => absurd hb (by decide)) (fun _ => ?_)
        (repeat refine Ax_step rfl ?_)
        refine Ax_call rfl (c_isReg (fun m2 hm2 e2 => ?_) (fun no => ?_))
        · refine Ax_br rfl (fun hb => absurd hb (by decide)) (fun _ => ?_)
          (repeat refine Ax_step rfl ?_)
          exact Ax_rZ rfl (Or.inr rfl) ⟨rfl, h1 ⟨⟨m, hm, e⟩, m2, hm2, e2⟩⟩
        · refine Ax_br rfl (fun _ => ?_) (fun hb => absurd rfl hb)
          (repeat refine Ax_step rfl ?_)
          exact Ax_rZ rfl (Or.inl rfl) ⟨rfl, h0 (fun ⟨_, m, hm, e⟩ => no m hm e)⟩
      · refine Ax_br rfl (fun _ => ?_) (fun hb => absurd rfl hb)
        (repeat refine Ax_step rfl ?_)
        exact Ax_rZ rfl (Or.inl rfl) ⟨rfl, h0 (fun ⟨⟨m, hm, e⟩, _⟩ => no m hm e)⟩
    | 2, _ =>
      rw [vI_2] at h1 h0
      show Ax 101 61 _ _ _ _
      (repeat refine Ax_step rfl ?_)
      refine Ax_call rfl (c_isReg (fun m hm e => ?_) (fun no => ?_))
      · refine Ax_br rfl (fun hb => absurd hb (by decide)) (fun _ => ?_)
        (repeat refine Ax_step rfl ?_)
        refine Ax_call rfl (c_isReg (fun m2 hm2 e2 => ?_) (fun no => ?_))
        · refine Ax_br rfl (fun hb => absurd hb (by decide)) (fun _ => ?_)
          (repeat refine Ax_step rfl ?_)
          exact Ax_rZ rfl (Or.inr rfl) ⟨rfl, h1 ⟨⟨m, hm, e⟩, m2, hm2, e2⟩⟩
        · refine Ax_br rfl (fun _ => ?_) (fun hb => absurd rfl hb)
          (repeat refine Ax_step rfl ?_)
          exact Ax_rZ rfl (Or.inl rfl) ⟨rfl, h0 (fun ⟨_, m, hm, e⟩ => no m hm e)⟩
      · refine Ax_br rfl (fun _ => ?_) (fun hb => absurd rfl hb)
        (repeat refine Ax_step rfl ?_)
        exact Ax_rZ rfl (Or.inl rfl) ⟨rfl, h0 (fun ⟨⟨m, hm, e⟩, _⟩ => no m hm e)⟩
    | 3, _ =>
      rw [vI_3] at h1 h0
      show Ax 101 61 _ _ _ _
      (repeat refine Ax_step rfl ?_)
      refine Ax_call rfl (c_isReg (fun m hm e => ?_) (fun no => ?_))
      · refine Ax_br rfl (fun hb => absurd hb (by decide)) (fun _ => ?_)
        (repeat refine Ax_step rfl ?_)
        refine Ax_call rfl (c_isReg (fun m2 hm2 e2 => ?_) (fun no => ?_))
        · refine Ax_br rfl (fun hb => absurd hb (by decide)) (fun _ => ?_)
          (repeat refine Ax_step rfl ?_)
          exact Ax_rZ rfl (Or.inr rfl) ⟨rfl, h1 ⟨⟨m, hm, e⟩, m2, hm2, e2⟩⟩
        · refine Ax_br rfl (fun _ => ?_) (fun hb => absurd rfl hb)
          (repeat refine Ax_step rfl ?_)
          exact Ax_rZ rfl (Or.inl rfl) ⟨rfl, h0 (fun ⟨_, m, hm, e⟩ => no m hm e)⟩
      · refine Ax_br rfl (fun _ => ?_) (fun hb => absurd rfl hb)
        (repeat refine Ax_step rfl ?_)
        exact Ax_rZ rfl (Or.inl rfl) ⟨rfl, h0 (fun ⟨⟨m, hm, e⟩, _⟩ => no m hm e)⟩
    | 4, _ =>
      rw [vI_4] at h1 h0
      show Ax 101 81 _ _ _ _
      (repeat refine Ax_step rfl ?_)
      refine Ax_call rfl (c_isPla (fun m hm e => ?_) (fun no => ?_))
      · exact Ax_rZ rfl (Or.inr rfl) ⟨rfl, h1 ⟨m, hm, e⟩⟩
      · exact Ax_rZ rfl (Or.inl rfl) ⟨rfl, h0 (fun ⟨m, hm, e⟩ => no m hm e)⟩
    | 5, _ =>
      rw [vI_5] at h1 h0
      show Ax 101 86 _ _ _ _
      (repeat refine Ax_step rfl ?_)
      refine Ax_call rfl (c_isReg (fun m hm e => ?_) (fun no => ?_))
      · refine Ax_br rfl (fun hb => absurd hb (by decide)) (fun _ => ?_)
        (repeat refine Ax_step rfl ?_)
        refine Ax_call rfl (c_isPla (fun m2 hm2 e2 => ?_) (fun no => ?_))
        · refine Ax_br rfl (fun hb => absurd hb (by decide)) (fun _ => ?_)
          (repeat refine Ax_step rfl ?_)
          exact Ax_rZ rfl (Or.inr rfl) ⟨rfl, h1 ⟨⟨m, hm, e⟩, m2, hm2, e2⟩⟩
        · refine Ax_br rfl (fun _ => ?_) (fun hb => absurd rfl hb)
          (repeat refine Ax_step rfl ?_)
          exact Ax_rZ rfl (Or.inl rfl) ⟨rfl, h0 (fun ⟨_, m, hm, e⟩ => no m hm e)⟩
      · refine Ax_br rfl (fun _ => ?_) (fun hb => absurd rfl hb)
        (repeat refine Ax_step rfl ?_)
        exact Ax_rZ rfl (Or.inl rfl) ⟨rfl, h0 (fun ⟨⟨m, hm, e⟩, _⟩ => no m hm e)⟩
    | 6, _ =>
      rw [vI_6] at h1 h0
      show Ax 101 106 _ _ _ _
      (repeat refine Ax_step rfl ?_)
      refine Ax_call rfl (c_isReg (fun m hm e => ?_) (fun no => ?_))
      · refine Ax_br rfl (fun hb => absurd hb (by decide)) (fun _ => ?_)
        (repeat refine Ax_step rfl ?_)
        refine Ax_br rfl (fun hb => ?_) (fun hb => ?_)
        · (repeat refine Ax_step rfl ?_)
          exact Ax_rZ rfl (Or.inl rfl) ⟨rfl, h0 (fun ⟨_, m, hm, e⟩ => nI_no (n := 8) (by omega) (Or.inl hb) m hm e)⟩
        · (repeat refine Ax_step rfl ?_)
          refine Ax_br rfl (fun hb2 => ?_) (fun hb2 => ?_)
          · (repeat refine Ax_step rfl ?_)
            exact Ax_rZ rfl (Or.inl rfl) ⟨rfl, h0 (fun ⟨_, m, hm, e⟩ => nI_no (n := 8) (by omega) (Or.inr hb2) m hm e)⟩
          · (repeat refine Ax_step rfl ?_)
            exact Ax_rZ rfl (Or.inr rfl) ⟨rfl, h1 ⟨⟨m, hm, e⟩, nI_yes (by omega) hb hb2⟩⟩
      · refine Ax_br rfl (fun _ => ?_) (fun hb => absurd rfl hb)
        (repeat refine Ax_step rfl ?_)
        exact Ax_rZ rfl (Or.inl rfl) ⟨rfl, h0 (fun ⟨⟨m, hm, e⟩, _⟩ => no m hm e)⟩
    | 7, _ =>
      rw [vI_7] at h1 h0
      show Ax 101 129 _ _ _ _
      (repeat refine Ax_step rfl ?_)
      refine Ax_call rfl (c_hasKind hT (fun m hm e => ?_) (fun no => ?_))
      · exact Ax_rZ rfl (Or.inr rfl) ⟨rfl, h1 ⟨m, hm, e⟩⟩
      · exact Ax_rZ rfl (Or.inl rfl) ⟨rfl, h0 (fun ⟨m, hm, e⟩ => no m hm e)⟩
    | 8, _ =>
      rw [vI_8] at h1 h0
      show Ax 101 138 _ _ _ _
      (repeat refine Ax_step rfl ?_)
      refine Ax_br rfl (fun hb => ?_) (fun hb => ?_)
      · (repeat refine Ax_step rfl ?_)
        exact Ax_rZ rfl (Or.inl rfl) ⟨rfl, h0 (fun ⟨m, hm, e⟩ => nI_no (n := 4) (by omega) (Or.inl hb) m hm e)⟩
      · (repeat refine Ax_step rfl ?_)
        refine Ax_br rfl (fun hb2 => ?_) (fun hb2 => ?_)
        · (repeat refine Ax_step rfl ?_)
          exact Ax_rZ rfl (Or.inl rfl) ⟨rfl, h0 (fun ⟨m, hm, e⟩ => nI_no (n := 4) (by omega) (Or.inr hb2) m hm e)⟩
        · (repeat refine Ax_step rfl ?_)
          exact Ax_rZ rfl (Or.inr rfl) ⟨rfl, h1 (nI_yes (by omega) hb hb2)⟩
    | 9, _ =>
      rw [vI_9] at h1 h0
      show Ax 101 56 _ _ _ _
      (repeat refine Ax_step rfl ?_)
      refine Ax_call rfl (c_isReg (fun m hm e => ?_) (fun no => ?_))
      · exact Ax_rZ rfl (Or.inr rfl) ⟨rfl, h1 ⟨m, hm, e⟩⟩
      · exact Ax_rZ rfl (Or.inl rfl) ⟨rfl, h0 (fun ⟨m, hm, e⟩ => no m hm e)⟩
    | n + 10, h => omega
  · have hn : ∀ k, k < 10 → c ≠ nI k := fun k hk e => hc ⟨k, hk, e⟩
    rw [psw_out _ (fun p hp e => hn p.1 (by have := List.all_eq_true.mp (show (pswt 5).all (fun p => decide (p.1 < 10)) = true from rfl) p hp; exact of_decide_eq_true this) e)]
    (repeat refine Ax_step rfl ?_)
    exact Ax_rZ rfl (Or.inl rfl) ⟨rfl, h0 (vI_no hn)⟩
theorem c_allowsH {f l k t : Int32} (hT : TI μ) (h1 : vH (kct μ) f l k t → f ≤ l → Q (some (pI 1)) μ) (h0 : ¬ (vH (kct μ) f l k t ∧ f ≤ l) → Q (some (pI 0)) μ) : Cl 102 [pR 1 0, pI f, pI l, pI k, pI t] μ Q := by
  have no0 : ¬ (vH (kct μ) f l k t ∧ f ≤ l) → Ax 102 42 [some (pR 1 0), some (pI f), some (pI l), some (pI k), some (pI t)] [] μ (fun y r' μ1 => y = 0 ∧ Q r' μ1) := by
    intro h
    (repeat refine Ax_step rfl ?_)
    exact Ax_rZ rfl (Or.inl rfl) ⟨rfl, h0 h⟩
  refine Cl_in rfl ?_
  (repeat refine Ax_step rfl ?_)
  refine Ax_call rfl (c_isPla (fun f' hf e1 => ?_) (fun no => ?_))
  · refine Ax_br rfl (fun hb => absurd hb (by decide)) (fun _ => ?_)
    (repeat refine Ax_step rfl ?_)
    refine Ax_call rfl (c_isPla (fun l' hl e2 => ?_) (fun no => ?_))
    · refine Ax_br rfl (fun hb => absurd hb (by decide)) (fun _ => ?_)
      (repeat refine Ax_step rfl ?_)
      refine Ax_br rfl (fun hb => no0 (fun z => Int32.not_lt.mpr z.2 hb)) (fun hb => ?_)
      (repeat refine Ax_step rfl ?_)
      refine Ax_call rfl (c_hasKind hT (fun k' hk e3 => ?_) (fun no => ?_))
      · refine Ax_br rfl (fun hb => absurd hb (by decide)) (fun _ => ?_)
        (repeat refine Ax_step rfl ?_)
        refine Ax_call rfl (c_isPla (fun t' ht e4 => ?_) (fun no => ?_))
        · refine Ax_br rfl (fun hb => absurd hb (by decide)) (fun _ => ?_)
          (repeat refine Ax_step rfl ?_)
          exact Ax_rZ rfl (Or.inr rfl) ⟨rfl, h1 ⟨⟨f', hf, e1⟩, ⟨l', hl, e2⟩, ⟨k', hk, e3⟩, t', ht, e4⟩ (Int32.not_lt.mp hb)⟩
        · exact Ax_br rfl (fun _ => no0 (fun ⟨⟨_, _, _, m, hm, e⟩, _⟩ => no m hm e)) (fun hb => absurd rfl hb)
      · exact Ax_br rfl (fun _ => no0 (fun ⟨⟨_, _, ⟨m, hm, e⟩, _⟩, _⟩ => no m hm e)) (fun hb => absurd rfl hb)
    · exact Ax_br rfl (fun _ => no0 (fun ⟨⟨_, ⟨m, hm, e⟩, _⟩, _⟩ => no m hm e)) (fun hb => absurd rfl hb)
  · exact Ax_br rfl (fun _ => no0 (fun ⟨⟨⟨m, hm, e⟩, _⟩, _⟩ => no m hm e)) (fun hb => absurd rfl hb)
/-- one class more, under p -/
def kaP (μ μ' : PM) (p : Nat) : Prop := (∀ t mm j, t ≠ 2 → t ≠ 15 → μ' t mm j = μ t mm j) ∧ μ' 2 0 1 = nI (kct μ + 1) ∧ (∀ k cc, k < kct μ → cc < 32 → bt (μ' 15 0 k) cc = (bt (μ 15 0 k) cc || (bt (μ 15 0 k) p && decide (cc = kct μ)))) ∧ (∀ cc, cc < 32 → bt (μ' 15 0 (kct μ)) cc = decide (cc = kct μ))
theorem c_append {p : Nat} (hT : TI μ) (hp : p < kct μ) (hK : kct μ < 10) (h : ∀ μ', kaP μ μ' p → Q (some (pI (nI (kct μ)))) μ') : Cl 79 [pR 2 0, pI (nI p)] μ Q := by
  have loop : ∀ r k, k + r = kct μ → ∀ μk : PM, (∀ t mm j, t ≠ 15 → μk t mm j = μ t mm j) → (∀ i cc, i < k → cc < 32 → bt (μk 15 0 i) cc = (bt (μ 15 0 i) cc || (bt (μ 15 0 i) p && decide (cc = kct μ)))) → (∀ i, k ≤ i → μk 15 0 i = μ 15 0 i) → Ax 79 9 [some (pR 2 0), some (pI (nI p)), some (pI (nI (kct μ))), some (pI (nI k))] [pI (nI (kct μ)), pI (nI k)] μk (fun y r' μ1 => y = 0 ∧ Q r' μ1) := by
    intro r
    induction r with
    | zero =>
      intro k hk μk hA hB hC
      refine Ax_br rfl (fun _ => ?_) (fun hb => absurd (nI_le (by omega) (by omega)) hb)
      (repeat refine Ax_step rfl ?_)
      refine Ax_ast (kct μ) rfl rfl (show kct μ < 10 by omega) ?_
      (repeat refine Ax_step rfl ?_)
      refine Ax_rI rfl ⟨rfl, h _ ⟨fun t mm j h2 h15 => ?_, ?_, fun i cc hi hc => ?_, fun cc hc => ?_⟩⟩
      · rw [pu_t h2, pu_t h15]; exact hA t mm j h15
      · rw [pu_s, pu_t (by omega), hA 2 0 1 (by omega), hT.k.1, nI_add]
      · rw [pu_t (by omega), pu_j (by omega)]; exact hB i cc (by omega) hc
      · rw [pu_t (by omega), pu_s]; exact bt_shl (by omega) hc
    | succ r ih =>
      intro k hk μk hA hB hC
      refine Ax_br rfl (fun hb => absurd hb (nI_ge (by omega) (by omega))) (fun _ => ?_)
      (repeat refine Ax_step rfl ?_)
      refine Ax_call rfl (c_isOneOf (by omega) (by omega) ?_)
      rw [hC k (Nat.le_refl _)]
      refine Ax_br rfl (fun hb => ?_) (fun hb => ?_)
      · have hz := bI_0.mp hb
        (repeat refine Ax_step rfl ?_)
        rw [nI_add]
        refine ih (k + 1) (by omega) μk hA (fun i cc hi hc => ?_) (fun i hi => hC i (by omega))
        by_cases e : i = k
        · subst e; rw [hC i (Nat.le_refl _), hz]; simp
        · exact hB i cc (by omega) hc
      · have hz : bt (μ 15 0 k) p = true := by cases hz : bt (μ 15 0 k) p with | true => rfl | false => exact absurd (bI_0.mpr hz) hb
        (repeat refine Ax_step rfl ?_)
        refine Ax_ald k rfl rfl (show k < 10 by omega) ?_
        (repeat refine Ax_step rfl ?_)
        refine Ax_ast k rfl rfl (show k < 10 by omega) ?_
        (repeat refine Ax_step rfl ?_)
        rw [nI_add]
        refine ih (k + 1) (by omega) _ (fun t mm j h15 => by rw [pu_t h15]; exact hA t mm j h15) (fun i cc hi hc => ?_) (fun i hi => by rw [pu_j (by omega)]; exact hC i (by omega))
        by_cases e : i = k
        · subst e
          rw [pu_s, b_or, hC i (Nat.le_refl _), bt_shl (by omega) hc, hz, Bool.true_and]
        · rw [pu_j e]; exact hB i cc (by omega) hc
  refine Cl_in rfl ?_
  (repeat refine Ax_step rfl ?_)
  rw [hT.k.1]
  exact loop (kct μ) 0 (by omega) μ (fun _ _ _ _ => rfl) (fun i cc hi => by omega) (fun i _ => rfl)
end P18
section P18b
variable {μ : PM} {x y c a b : Int32} {Q : Nat → Option PV → PM → Prop}
theorem t_kind (hT : TI μ) (h1 : (∀ m, m < kct μ → x ≠ nI m) → Q 1 none μ) (h2 : ∀ p, p < kct μ → x = nI p → kct μ = 10 → Q 2 none μ) (h : ∀ μ' p, p < kct μ → x = nI p → kct μ < 10 → kaP μ μ' p → Q 0 (some (pI (nI (kct μ)))) μ') : Ct 0 [pR 0 0, pI x] μ Q := by
  have hK := hT.k
  refine Ct_in rfl ?_
  (repeat refine Ax_step rfl ?_)
  refine Ax_call rfl (c_hasKind hT (fun p hp e => ?_) (fun no => ?_))
  · subst e
    refine Ax_br rfl (fun _ => ?_) (fun hb => absurd (by decide) hb)
    (repeat refine Ax_step rfl ?_)
    refine Ax_call rfl (Cl_in rfl ?_)
    (repeat refine Ax_step rfl ?_)
    rw [hK.1]
    refine Ax_br rfl (fun hb => ?_) (fun hb => ?_)
    · have hlt : kct μ < 10 := (nI_ltI (by omega) (by omega)).mp hb
      (repeat refine Ax_step rfl ?_)
      refine Ax_rZ rfl (Or.inl rfl) ⟨rfl, ?_⟩
      refine Ax_br rfl (fun _ => ?_) (fun hb => absurd rfl hb)
      (repeat refine Ax_step rfl ?_)
      refine Ax_call rfl (c_append hT hp hlt (fun μ' hk => ?_))
      exact Ax_rI rfl (h μ' p hp rfl hlt hk)
    · have hge : ¬ kct μ < 10 := fun z => hb (nI_lt z (by omega))
      (repeat refine Ax_step rfl ?_)
      refine Ax_rZ rfl (Or.inr rfl) ⟨rfl, ?_⟩
      refine Ax_br rfl (fun hb => absurd hb (by decide)) (fun _ => ?_)
      exact Ax_rX rfl (h2 p hp rfl (by omega))
  · refine Ax_br rfl (fun hb => absurd rfl hb) (fun _ => ?_)
    exact Ax_rX rfl (h1 no)
/-- an instruction is laid at (m, n) -/
def puI (μ : PM) (m n : Nat) (c a b : Int32) : PM := pu (pu (pu μ 41 m n c) 42 m n a) 43 m n b
theorem c_put {m n : Nat} {Q : Option PV → PM → Prop} (hn : n < 24) (h : Q none (puI μ m n c a b)) : Cl 55 [pR 40 m, pI (nI n), pI c, pI a, pI b] μ Q := by
  refine Cl_in rfl ?_
  (repeat refine Ax_step rfl ?_)
  refine Ax_ast n rfl rfl hn ?_
  (repeat refine Ax_step rfl ?_)
  refine Ax_ast n rfl rfl hn ?_
  (repeat refine Ax_step rfl ?_)
  refine Ax_ast n rfl rfl hn ?_
  exact Ax_rV rfl ⟨rfl, h⟩
theorem t_add (hT : TI μ) (h3 : (∀ m, m < mct μ → x ≠ nI m) → Q 3 none μ) (h2 : ∀ m, m < mct μ → x = nI m → szm μ m = 24 → Q 2 none μ) (h1 : ∀ m, m < mct μ → x = nI m → szm μ m < 24 → ¬ vI (kct μ) c a b → Q 1 none μ)
    (h : ∀ m, m < mct μ → x = nI m → szm μ m < 24 → vI (kct μ) c a b → Q 0 (some (pI (nI (szm μ m)))) (puI (pu (pu μ 4 0 1 1) 40 m 3 (nI (szm μ m + 1))) m (szm μ m) c a b)) : Ct 3 [pR 0 0, pI x, pI c, pI a, pI b] μ Q := by
  refine Ct_in rfl ?_
  (repeat refine Ax_step rfl ?_)
  refine Ax_call rfl (c_hasMethod hT (fun m hm e => ?_) (fun no => ?_))
  · subst e
    have hm8 : m < 8 := by have := hT.m.2; omega
    have hs := hT.s hm8
    refine Ax_br rfl (fun _ => ?_) (fun hb => absurd (by decide) hb)
    (repeat refine Ax_step rfl ?_)
    refine Ax_aal m rfl rfl hm8 ?_
    (repeat refine Ax_step rfl ?_)
    refine Ax_call rfl (Cl_in rfl ?_)
    (repeat refine Ax_step rfl ?_)
    rw [hs.1]
    refine Ax_br rfl (fun hb => ?_) (fun hb => ?_)
    · have hlt : szm μ m < 24 := (nI_ltI (by omega) (by omega)).mp hb
      (repeat refine Ax_step rfl ?_)
      refine Ax_rZ rfl (Or.inl rfl) ⟨rfl, ?_⟩
      refine Ax_br rfl (fun _ => ?_) (fun hb => absurd rfl hb)
      (repeat refine Ax_step rfl ?_)
      refine Ax_call rfl (c_allows hT (fun hv => ?_) (fun hv => ?_))
      · refine Ax_br rfl (fun _ => ?_) (fun hb => absurd (by decide) hb)
        (repeat refine Ax_step rfl ?_)
        refine Ax_putz rfl rfl (Or.inr rfl) ?_
        (repeat refine Ax_step rfl ?_)
        refine Ax_call rfl (Cl_in rfl ?_)
        (repeat refine Ax_step rfl ?_)
        rw [pu_t (show 40 ≠ 4 by omega), hs.1, nI_add]
        refine Ax_call rfl (c_put hlt ?_)
        (repeat refine Ax_step rfl ?_)
        refine Ax_rI rfl ⟨rfl, ?_⟩
        exact Ax_rI rfl (h m hm rfl hlt hv)
      · refine Ax_br rfl (fun hb => absurd rfl hb) (fun _ => ?_)
        exact Ax_rX rfl (h1 m hm rfl hlt hv)
    · have hge : ¬ szm μ m < 24 := fun z => hb (nI_lt z (by omega))
      (repeat refine Ax_step rfl ?_)
      refine Ax_rZ rfl (Or.inr rfl) ⟨rfl, ?_⟩
      refine Ax_br rfl (fun hb => absurd hb (by decide)) (fun _ => ?_)
      exact Ax_rX rfl (h2 m hm rfl (by omega))
  · refine Ax_br rfl (fun hb => absurd rfl hb) (fun _ => ?_)
    exact Ax_rX rfl (h3 no)
def puH (μ : PM) (m n : Nat) (f l k t : Int32) : PM := pu (pu (pu (pu μ 44 m n f) 45 m n l) 46 m n k) 47 m n t
theorem t_handler {f l k t : Int32} (hT : TI μ) (h3 : (∀ m, m < mct μ → x ≠ nI m) → Q 3 none μ) (h2 : ∀ m, m < mct μ → x = nI m → hcm μ m = 4 → Q 2 none μ) (h1 : ∀ m, m < mct μ → x = nI m → hcm μ m < 4 → ¬ (vH (kct μ) f l k t ∧ f ≤ l) → Q 1 none μ)
    (h : ∀ m, m < mct μ → x = nI m → hcm μ m < 4 → vH (kct μ) f l k t → f ≤ l → Q 0 (some (pI (nI (hcm μ m)))) (puH (pu (pu μ 4 0 1 1) 40 m 8 (nI (hcm μ m + 1))) m (hcm μ m) f l k t)) : Ct 4 [pR 0 0, pI x, pI f, pI l, pI k, pI t] μ Q := by
  refine Ct_in rfl ?_
  (repeat refine Ax_step rfl ?_)
  refine Ax_call rfl (c_hasMethod hT (fun m hm e => ?_) (fun no => ?_))
  · subst e
    have hm8 : m < 8 := by have := hT.m.2; omega
    have hs := hT.h hm8
    refine Ax_br rfl (fun _ => ?_) (fun hb => absurd (by decide) hb)
    (repeat refine Ax_step rfl ?_)
    refine Ax_aal m rfl rfl hm8 ?_
    (repeat refine Ax_step rfl ?_)
    refine Ax_call rfl (Cl_in rfl ?_)
    (repeat refine Ax_step rfl ?_)
    rw [hs.1]
    refine Ax_br rfl (fun hb => ?_) (fun hb => ?_)
    · have hlt : hcm μ m < 4 := (nI_ltI (by omega) (by omega)).mp hb
      (repeat refine Ax_step rfl ?_)
      refine Ax_rZ rfl (Or.inl rfl) ⟨rfl, ?_⟩
      refine Ax_br rfl (fun _ => ?_) (fun hb => absurd rfl hb)
      (repeat refine Ax_step rfl ?_)
      refine Ax_call rfl (c_allowsH hT (fun hv hfl => ?_) (fun hv => ?_))
      · refine Ax_br rfl (fun _ => ?_) (fun hb => absurd (by decide) hb)
        (repeat refine Ax_step rfl ?_)
        refine Ax_putz rfl rfl (Or.inr rfl) ?_
        (repeat refine Ax_step rfl ?_)
        refine Ax_call rfl (Cl_in rfl ?_)
        (repeat refine Ax_step rfl ?_)
        rw [pu_t (show 40 ≠ 4 by omega), hs.1, nI_add]
        refine Ax_ast (hcm μ m) rfl rfl hlt ?_
        (repeat refine Ax_step rfl ?_)
        refine Ax_ast (hcm μ m) rfl rfl hlt ?_
        (repeat refine Ax_step rfl ?_)
        refine Ax_ast (hcm μ m) rfl rfl hlt ?_
        (repeat refine Ax_step rfl ?_)
        refine Ax_ast (hcm μ m) rfl rfl hlt ?_
        (repeat refine Ax_step rfl ?_)
        refine Ax_rI rfl ⟨rfl, ?_⟩
        exact Ax_rI rfl (h m hm rfl hlt hv hfl)
      · refine Ax_br rfl (fun hb => absurd rfl hb) (fun _ => ?_)
        exact Ax_rX rfl (h1 m hm rfl hlt hv)
    · have hge : ¬ hcm μ m < 4 := fun z => hb (nI_lt z (by omega))
      (repeat refine Ax_step rfl ?_)
      refine Ax_rZ rfl (Or.inr rfl) ⟨rfl, ?_⟩
      refine Ax_br rfl (fun hb => absurd hb (by decide)) (fun _ => ?_)
      exact Ax_rX rfl (h2 m hm rfl (by omega))
  · refine Ax_br rfl (fun hb => absurd rfl hb) (fun _ => ?_)
    exact Ax_rX rfl (h3 no)
theorem t_change (hT : TI μ) (h3 : (∀ m i, m < mct μ → x = nI m → i < szm μ m → y ≠ nI i) → Q 3 none μ) (h1 : ∀ m i, m < mct μ → x = nI m → i < szm μ m → y = nI i → ¬ vI (kct μ) c a b → Q 1 none μ)
    (h : ∀ m i, m < mct μ → x = nI m → i < szm μ m → y = nI i → vI (kct μ) c a b → Q 0 (some (pI (μ 41 m i))) (pu (puI μ m i c a b) 4 0 1 1)) : Ct 5 [pR 0 0, pI x, pI y, pI c, pI a, pI b] μ Q := by
  refine Ct_in rfl ?_
  (repeat refine Ax_step rfl ?_)
  refine Ax_call rfl (c_hasIns hT (fun m i hm e hi e2 => ?_) (fun no => ?_))
  · subst e
    subst e2
    have hm8 : m < 8 := by have := hT.m.2; omega
    have hs := hT.s hm8
    refine Ax_br rfl (fun _ => ?_) (fun hb => absurd (by decide) hb)
    (repeat refine Ax_step rfl ?_)
    refine Ax_call rfl (c_allows hT (fun hv => ?_) (fun hv => ?_))
    · refine Ax_br rfl (fun _ => ?_) (fun hb => absurd (by decide) hb)
      (repeat refine Ax_step rfl ?_)
      refine Ax_aal m rfl rfl hm8 ?_
      (repeat refine Ax_step rfl ?_)
      refine Ax_ald i rfl rfl (show i < 24 by omega) ?_
      (repeat refine Ax_step rfl ?_)
      refine Ax_call rfl (c_put (by omega) ?_)
      (repeat refine Ax_step rfl ?_)
      refine Ax_putz rfl rfl (Or.inr rfl) ?_
      (repeat refine Ax_step rfl ?_)
      exact Ax_rI rfl (h m i hm rfl hi rfl hv)
    · refine Ax_br rfl (fun hb => absurd rfl hb) (fun _ => ?_)
      exact Ax_rX rfl (h1 m i hm rfl hi rfl hv)
  · refine Ax_br rfl (fun hb => absurd rfl hb) (fun _ => ?_)
    exact Ax_rX rfl (h3 no)
end P18b
