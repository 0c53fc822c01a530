/-! The reference: its text is the class's; its leaf methods. -/
/-- the reference's cells in μ hold the text of μ0 -/
def KR (μ0 μ : PM) : Prop := (∀ b, b < kct μ0 → bt (μ0 15 0 b) 0 = decide (b = 0)) ∧ μ 17 0 0 = -1 ∧ ∀ c, 0 < c → c < kct μ0 → ∃ p, p < c ∧ μ 17 0 c = nI p ∧ ∀ b, b < kct μ0 → bt (μ0 15 0 b) c = (decide (c = b) || bt (μ0 15 0 b) p)
def TR (μ0 μ : PM) : Prop := μ 16 0 1 = nI (kct μ0) ∧ μ 16 0 3 = nI (mct μ0) ∧ (∀ m, m < 8 → μ 18 0 m = μ0 40 m 3 ∧ μ 22 0 m = μ0 40 m 8) ∧ (∀ m i, m < 8 → i < 24 → μ 19 0 (24 * m + i) = μ0 41 m i ∧ μ 20 0 (24 * m + i) = μ0 42 m i ∧ μ 21 0 (24 * m + i) = μ0 43 m i) ∧ (∀ m h, m < 8 → h < 4 → μ 23 0 (4 * m + h) = μ0 44 m h ∧ μ 24 0 (4 * m + h) = μ0 45 m h ∧ μ 25 0 (4 * m + h) = μ0 46 m h ∧ μ 26 0 (4 * m + h) = μ0 47 m h) ∧ KR μ0 μ
section P23
variable {μ0 μ : PM} {x y c a b : Int32} {Q : Option PV → PM → Prop}
theorem TR.k (h : TR μ0 μ) : μ 16 0 1 = nI (kct μ0) := h.1
theorem TR.m (h : TR μ0 μ) : μ 16 0 3 = nI (mct μ0) := h.2.1
theorem TR.s (h : TR μ0 μ) {m : Nat} (hm : m < 8) : μ 18 0 m = μ0 40 m 3 := (h.2.2.1 m hm).1
theorem TR.h (h : TR μ0 μ) {m : Nat} (hm : m < 8) : μ 22 0 m = μ0 40 m 8 := (h.2.2.1 m hm).2
theorem TR.i (h : TR μ0 μ) {m i : Nat} (hm : m < 8) (hi : i < 24) : μ 19 0 (24 * m + i) = μ0 41 m i ∧ μ 20 0 (24 * m + i) = μ0 42 m i ∧ μ 21 0 (24 * m + i) = μ0 43 m i := h.2.2.2.1 m i hm hi
theorem TR.hd (h : TR μ0 μ) {m i : Nat} (hm : m < 8) (hi : i < 4) : μ 23 0 (4 * m + i) = μ0 44 m i ∧ μ 24 0 (4 * m + i) = μ0 45 m i ∧ μ 25 0 (4 * m + i) = μ0 46 m i ∧ μ 26 0 (4 * m + i) = μ0 47 m i := h.2.2.2.2.1 m i hm hi
theorem TR.kr (h : TR μ0 μ) : KR μ0 μ := h.2.2.2.2.2
/-- the reference's text stays where its rows stay -/
theorem TR.keep {μ μ' : PM} (h : TR μ0 μ) (h1 : μ' 16 0 1 = μ 16 0 1) (h3 : μ' 16 0 3 = μ 16 0 3) (hr : ∀ t j, 17 ≤ t → t ≤ 26 → μ' t 0 j = μ t 0 j) : TR μ0 μ' := by
  obtain ⟨a1, a2, a3, a4, a5, a6, a7, a8⟩ := h
  refine ⟨h1.trans a1, h3.trans a2, fun m hm => ?_, fun m i hm hi => ?_, fun m i hm hi => ?_, a6, ?_, fun c hc hk => ?_⟩
  · rw [hr 18 m (by omega) (by omega), hr 22 m (by omega) (by omega)]; exact a3 m hm
  · rw [hr 19 _ (by omega) (by omega), hr 20 _ (by omega) (by omega), hr 21 _ (by omega) (by omega)]; exact a4 m i hm hi
  · rw [hr 23 _ (by omega) (by omega), hr 24 _ (by omega) (by omega), hr 25 _ (by omega) (by omega), hr 26 _ (by omega) (by omega)]; exact a5 m i hm hi
  · rw [hr 17 _ (by omega) (by omega)]; exact a7
  · rw [hr 17 _ (by omega) (by omega)]; exact a8 c hc hk
theorem r_isKind (hT : TI μ0) (hR : TR μ0 μ) (h1 : ∀ m, m < kct μ0 → x = nI m → Q (some (pI 1)) μ) (h0 : (∀ m, m < kct μ0 → x ≠ nI m) → Q (some (pI 0)) μ) : Cl 15 [pR 16 0, pI x] μ Q := by
  have hk := hT.k
  refine Cl_in rfl ?_
  (repeat refine Ax_step rfl ?_)
  refine Ax_br rfl (fun hb => ?_) (fun hb => ?_)
  · (repeat refine Ax_step rfl ?_)
    exact Ax_rZ rfl (Or.inl rfl) ⟨rfl, h0 (nI_no (by omega) (Or.inl hb))⟩
  · (repeat refine Ax_step rfl ?_)
    rw [hR.k]
    refine Ax_br rfl (fun hb2 => ?_) (fun hb2 => ?_)
    · (repeat refine Ax_step rfl ?_)
      exact Ax_rZ rfl (Or.inl rfl) ⟨rfl, h0 (nI_no (by omega) (Or.inr hb2))⟩
    · (repeat refine Ax_step rfl ?_)
      obtain ⟨m, hm, e⟩ := nI_yes (by omega) hb hb2
      exact Ax_rZ rfl (Or.inr rfl) ⟨rfl, h1 m hm e⟩
theorem r_isMethod (hT : TI μ0) (hR : TR μ0 μ) (h1 : ∀ m, m < mct μ0 → x = nI m → Q (some (pI 1)) μ) (h0 : (∀ m, m < mct μ0 → x ≠ nI m) → Q (some (pI 0)) μ) : Cl 19 [pR 16 0, pI x] μ Q := by
  have hk := hT.m
  refine Cl_in rfl ?_
  (repeat refine Ax_step rfl ?_)
  refine Ax_br rfl (fun hb => ?_) (fun hb => ?_)
  · (repeat refine Ax_step rfl ?_)
    exact Ax_rZ rfl (Or.inl rfl) ⟨rfl, h0 (nI_no (by omega) (Or.inl hb))⟩
  · (repeat refine Ax_step rfl ?_)
    rw [hR.m]
    refine Ax_br rfl (fun hb2 => ?_) (fun hb2 => ?_)
    · (repeat refine Ax_step rfl ?_)
      exact Ax_rZ rfl (Or.inl rfl) ⟨rfl, h0 (nI_no (by omega) (Or.inr hb2))⟩
    · (repeat refine Ax_step rfl ?_)
      obtain ⟨m, hm, e⟩ := nI_yes (by omega) hb hb2
      exact Ax_rZ rfl (Or.inr rfl) ⟨rfl, h1 m hm e⟩
theorem r_isPlace (hT : TI μ0) (hR : TR μ0 μ) (h1 : ∀ m i, m < mct μ0 → x = nI m → i < szm μ0 m → y = nI i → Q (some (pI 1)) μ) (h0 : (∀ m i, m < mct μ0 → x = nI m → i < szm μ0 m → y ≠ nI i) → Q (some (pI 0)) μ) : Cl 20 [pR 16 0, pI x, pI y] μ Q := by
  refine Cl_in rfl ?_
  (repeat refine Ax_step rfl ?_)
  refine Ax_call rfl (r_isMethod hT hR (fun m hm e => ?_) (fun no => ?_))
  · subst e
    have hm8 : m < 8 := by have := hT.m.2; omega
    have hs := hT.s hm8
    have h0' : (∀ i, i < szm μ0 m → y ≠ nI i) → Q (some (pI 0)) μ := fun h => h0 (fun m' i hm' e hi => by
      have := (nI_eq (by omega) (by have := hT.m.2; omega)).mp e
      subst this
      exact h i hi)
    refine Ax_br rfl (fun hb => absurd hb (by decide)) (fun _ => ?_)
    (repeat refine Ax_step rfl ?_)
    refine Ax_br rfl (fun hb => ?_) (fun hb => ?_)
    · (repeat refine Ax_step rfl ?_)
      exact Ax_rZ rfl (Or.inl rfl) ⟨rfl, h0' (nI_no (by omega) (Or.inl hb))⟩
    · (repeat refine Ax_step rfl ?_)
      refine Ax_ald m rfl rfl hm8 ?_
      rw [hR.s hm8, hs.1]
      refine Ax_br rfl (fun hb2 => ?_) (fun hb2 => ?_)
      · (repeat refine Ax_step rfl ?_)
        exact Ax_rZ rfl (Or.inl rfl) ⟨rfl, h0' (nI_no (by omega) (Or.inr hb2))⟩
      · (repeat refine Ax_step rfl ?_)
        obtain ⟨i, hi, e⟩ := nI_yes (by omega) hb hb2
        exact Ax_rZ rfl (Or.inr rfl) ⟨rfl, h1 m i hm rfl hi e⟩
  · refine Ax_br rfl (fun _ => ?_) (fun hb => absurd rfl hb)
    (repeat refine Ax_step rfl ?_)
    exact Ax_rZ rfl (Or.inl rfl) ⟨rfl, h0 (fun m i hm e _ => absurd e (no m hm))⟩
theorem r_isOne {i j : Nat} (hT : TI μ0) (hR : TR μ0 μ) (hi : i < kct μ0) (hj : j < kct μ0) (h : Q (some (pI (bI (bt (μ0 15 0 j) i)))) μ) : Cl 16 [pR 16 0, pI (nI i), pI (nI j)] μ Q := by
  obtain ⟨k1, k2, k3⟩ := hR.kr
  have hk := hT.k
  have fin : ∀ (z : Int32) (v : Bool), (v = true ↔ z = nI j) → Q (some (pI (bI v))) μ → Ax 16 23 [some (pR 16 0), some (pI (nI i)), some (pI (nI j)), some (pI z)] [pI (nI j), pI z] μ (fun y r' μ1 => y = 0 ∧ Q r' μ1) := by
    intro z v hv hq
    refine Ax_br rfl (fun hb => ?_) (fun hb => ?_)
    · (repeat refine Ax_step rfl ?_)
      rw [show v = false by cases v with | false => rfl | true => exact absurd (hv.mp rfl) hb] at hq
      exact Ax_rZ rfl (Or.inl rfl) ⟨rfl, hq⟩
    · (repeat refine Ax_step rfl ?_)
      rw [show v = true from hv.mpr (Decidable.byContradiction hb)] at hq
      exact Ax_rZ rfl (Or.inr rfl) ⟨rfl, hq⟩
  have loop : ∀ n, n < kct μ0 → Q (some (pI (bI (bt (μ0 15 0 j) n)))) μ → Ax 16 3 [some (pR 16 0), some (pI (nI i)), some (pI (nI j)), some (pI (nI n))] [pI (nI n)] μ (fun y r' μ1 => y = 0 ∧ Q r' μ1) := by
    intro n
    induction n using Nat.strongRecOn with
    | _ n ih =>
      intro hn hq
      refine Ax_br rfl (fun hb => absurd hb (nI_pos (by omega))) (fun _ => ?_)
      (repeat refine Ax_step rfl ?_)
      refine Ax_br rfl (fun hb => ?_) (fun hb => ?_)
      · have e := (nI_eq (by omega) (by omega)).mp hb
        subst e
        (repeat refine Ax_step rfl ?_)
        refine fin _ true ⟨fun _ => rfl, fun _ => rfl⟩ ?_
        have e1 : bt (μ0 15 0 n) n = true := by
          rcases Nat.eq_zero_or_pos n with z | z
          · subst z; rw [k1 0 hn]; rfl
          · obtain ⟨p, hp, -, e2⟩ := k3 n z hn
            rw [e2 n hn]; simp
        rw [e1] at hq
        exact hq
      · have hne : n ≠ j := fun z => hb (by rw [z])
        (repeat refine Ax_step rfl ?_)
        refine Ax_ald n rfl rfl (show n < 10 by omega) ?_
        (repeat refine Ax_step rfl ?_)
        rcases Nat.eq_zero_or_pos n with z | z
        · subst z
          rw [k2]
          refine Ax_br rfl (fun _ => ?_) (fun hb => absurd (by decide) hb)
          (repeat refine Ax_step rfl ?_)
          refine fin _ false ⟨fun z => (by cases z), fun z => absurd z.symm (nI_ne1 (by omega))⟩ ?_
          rw [k1 j hj, decide_eq_false (fun z => hne z.symm)] at hq
          exact hq
        · obtain ⟨p, hp, e1, e2⟩ := k3 n z hn
          rw [e1]
          refine ih p hp (by omega) ?_
          rw [e2 j hj, decide_eq_false hne, Bool.false_or] at hq
          exact hq
  refine Cl_in rfl ?_
  (repeat refine Ax_step rfl ?_)
  exact loop i hi h
theorem r_isIn {n : Nat} (hn : n < 1000) (h1 : ∀ m, m < n + 1 → x = nI m → Q (some (pI 1)) μ) (h0 : (∀ m, m < n + 1 → x ≠ nI m) → Q (some (pI 0)) μ) : Cl 22 [pI x, pI (nI n)] μ Q := by
  refine Cl_in rfl ?_
  (repeat refine Ax_step rfl ?_)
  refine Ax_br rfl (fun hb => ?_) (fun hb => ?_)
  · (repeat refine Ax_step rfl ?_)
    exact Ax_rZ rfl (Or.inl rfl) ⟨rfl, h0 (nI_no (by omega) (Or.inl hb))⟩
  · (repeat refine Ax_step rfl ?_)
    refine Ax_br rfl (fun hb2 => ?_) (fun hb2 => ?_)
    · (repeat refine Ax_step rfl ?_)
      refine Ax_rZ rfl (Or.inl rfl) ⟨rfl, h0 (fun m hm e => ?_)⟩
      rw [e] at hb2
      exact nI_nlt (show m ≤ n by omega) (by omega) hb2
    · (repeat refine Ax_step rfl ?_)
      have hle : ¬ nI (n + 1) ≤ x := fun z => by
        have h1 := Int32.le_iff_toInt_le.mp (Int32.not_lt.mp hb2)
        have h2 := Int32.le_iff_toInt_le.mp z
        rw [nI_toInt (by omega)] at h1 h2
        omega
      obtain ⟨m, hm, e⟩ := nI_yes (by omega) hb hle
      exact Ax_rZ rfl (Or.inr rfl) ⟨rfl, h1 m hm e⟩
theorem r_fits (hT : TI μ0) (hR : TR μ0 μ) (h1 : vI (kct μ0) c a b → Q (some (pI 1)) μ) (h0 : ¬ vI (kct μ0) c a b → Q (some (pI 0)) μ) : Cl 23 [pR 16 0, pI c, pI a, pI b] μ Q := by
  refine Cl_in rfl ?_
  (repeat refine Ax_step rfl ?_)
  refine Ax_sw rfl ?_
  by_cases hc : ∃ k, k < 10 ∧ c = nI k
  · obtain ⟨k, hk, rfl⟩ := hc
    rw [psw_at rfl (by omega) rfl]
    match k, hk with
    | 0, _ =>
      rw [vI_0] at h1 h0
      show Ax 23 56 _ _ _ _
      (repeat refine Ax_step rfl ?_)
      refine Ax_call rfl (r_isIn (by omega) (fun m hm e => ?_) (fun no => ?_))
      · exact Ax_rZ rfl (Or.inr rfl) ⟨rfl, h1 ⟨m, hm, e⟩⟩
      · exact Ax_rZ rfl (Or.inl rfl) ⟨rfl, h0 (fun ⟨m, hm, e⟩ => no m hm e)⟩
    | 1, _ =>
      rw [vI_1] at h1 h0
      show Ax 23 62 _ _ _ _
      (repeat refine Ax_step rfl ?_)
      refine Ax_call rfl (r_isIn (by omega) (fun m hm e => ?_) (fun no => ?_))
      · refine Ax_br rfl (fun hb => absurd hb (by decide)) (fun _ => ?_)
        (repeat refine Ax_step rfl ?_)
        refine Ax_call rfl (r_isIn (by omega) (fun m2 hm2 e2 => ?_) (fun no => ?_))
        · refine Ax_br rfl (fun hb => absurd hb (by decide)) (fun _ => ?_)
          (repeat refine Ax_step rfl ?_)
          exact Ax_rZ rfl (Or.inr rfl) ⟨rfl, h1 ⟨⟨m, hm, e⟩, m2, hm2, e2⟩⟩
        · refine Ax_br rfl (fun _ => ?_) (fun hb => absurd rfl hb)
          (repeat refine Ax_step rfl ?_)
          exact Ax_rZ rfl (Or.inl rfl) ⟨rfl, h0 (fun ⟨_, m, hm, e⟩ => no m hm e)⟩
      · refine Ax_br rfl (fun _ => ?_) (fun hb => absurd rfl hb)
        (repeat refine Ax_step rfl ?_)
        exact Ax_rZ rfl (Or.inl rfl) ⟨rfl, h0 (fun ⟨⟨m, hm, e⟩, _⟩ => no m hm e)⟩
    | 2, _ =>
      rw [vI_2] at h1 h0
      show Ax 23 62 _ _ _ _
      (repeat refine Ax_step rfl ?_)
      refine Ax_call rfl (r_isIn (by omega) (fun m hm e => ?_) (fun no => ?_))
      · refine Ax_br rfl (fun hb => absurd hb (by decide)) (fun _ => ?_)
        (repeat refine Ax_step rfl ?_)
        refine Ax_call rfl (r_isIn (by omega) (fun m2 hm2 e2 => ?_) (fun no => ?_))
        · refine Ax_br rfl (fun hb => absurd hb (by decide)) (fun _ => ?_)
          (repeat refine Ax_step rfl ?_)
          exact Ax_rZ rfl (Or.inr rfl) ⟨rfl, h1 ⟨⟨m, hm, e⟩, m2, hm2, e2⟩⟩
        · refine Ax_br rfl (fun _ => ?_) (fun hb => absurd rfl hb)
          (repeat refine Ax_step rfl ?_)
          exact Ax_rZ rfl (Or.inl rfl) ⟨rfl, h0 (fun ⟨_, m, hm, e⟩ => no m hm e)⟩
      · refine Ax_br rfl (fun _ => ?_) (fun hb => absurd rfl hb)
        (repeat refine Ax_step rfl ?_)
        exact Ax_rZ rfl (Or.inl rfl) ⟨rfl, h0 (fun ⟨⟨m, hm, e⟩, _⟩ => no m hm e)⟩
    | 3, _ =>
      rw [vI_3] at h1 h0
      show Ax 23 62 _ _ _ _
      (repeat refine Ax_step rfl ?_)
      refine Ax_call rfl (r_isIn (by omega) (fun m hm e => ?_) (fun no => ?_))
      · refine Ax_br rfl (fun hb => absurd hb (by decide)) (fun _ => ?_)
        (repeat refine Ax_step rfl ?_)
        refine Ax_call rfl (r_isIn (by omega) (fun m2 hm2 e2 => ?_) (fun no => ?_))
        · refine Ax_br rfl (fun hb => absurd hb (by decide)) (fun _ => ?_)
          (repeat refine Ax_step rfl ?_)
          exact Ax_rZ rfl (Or.inr rfl) ⟨rfl, h1 ⟨⟨m, hm, e⟩, m2, hm2, e2⟩⟩
        · refine Ax_br rfl (fun _ => ?_) (fun hb => absurd rfl hb)
          (repeat refine Ax_step rfl ?_)
          exact Ax_rZ rfl (Or.inl rfl) ⟨rfl, h0 (fun ⟨_, m, hm, e⟩ => no m hm e)⟩
      · refine Ax_br rfl (fun _ => ?_) (fun hb => absurd rfl hb)
        (repeat refine Ax_step rfl ?_)
        exact Ax_rZ rfl (Or.inl rfl) ⟨rfl, h0 (fun ⟨⟨m, hm, e⟩, _⟩ => no m hm e)⟩
    | 4, _ =>
      rw [vI_4] at h1 h0
      show Ax 23 84 _ _ _ _
      (repeat refine Ax_step rfl ?_)
      refine Ax_call rfl (r_isIn (by omega) (fun m hm e => ?_) (fun no => ?_))
      · exact Ax_rZ rfl (Or.inr rfl) ⟨rfl, h1 ⟨m, hm, e⟩⟩
      · exact Ax_rZ rfl (Or.inl rfl) ⟨rfl, h0 (fun ⟨m, hm, e⟩ => no m hm e)⟩
    | 5, _ =>
      rw [vI_5] at h1 h0
      show Ax 23 91 _ _ _ _
      (repeat refine Ax_step rfl ?_)
      refine Ax_call rfl (r_isIn (by omega) (fun m hm e => ?_) (fun no => ?_))
      · refine Ax_br rfl (fun hb => absurd hb (by decide)) (fun _ => ?_)
        (repeat refine Ax_step rfl ?_)
        refine Ax_call rfl (r_isIn (by omega) (fun m2 hm2 e2 => ?_) (fun no => ?_))
        · refine Ax_br rfl (fun hb => absurd hb (by decide)) (fun _ => ?_)
          (repeat refine Ax_step rfl ?_)
          exact Ax_rZ rfl (Or.inr rfl) ⟨rfl, h1 ⟨⟨m, hm, e⟩, m2, hm2, e2⟩⟩
        · refine Ax_br rfl (fun _ => ?_) (fun hb => absurd rfl hb)
          (repeat refine Ax_step rfl ?_)
          exact Ax_rZ rfl (Or.inl rfl) ⟨rfl, h0 (fun ⟨_, m, hm, e⟩ => no m hm e)⟩
      · refine Ax_br rfl (fun _ => ?_) (fun hb => absurd rfl hb)
        (repeat refine Ax_step rfl ?_)
        exact Ax_rZ rfl (Or.inl rfl) ⟨rfl, h0 (fun ⟨⟨m, hm, e⟩, _⟩ => no m hm e)⟩
    | 6, _ =>
      rw [vI_6] at h1 h0
      show Ax 23 114 _ _ _ _
      (repeat refine Ax_step rfl ?_)
      refine Ax_call rfl (r_isIn (by omega) (fun m hm e => ?_) (fun no => ?_))
      · refine Ax_br rfl (fun hb => absurd hb (by decide)) (fun _ => ?_)
        (repeat refine Ax_step rfl ?_)
        refine Ax_call rfl (r_isIn (by omega) (fun m2 hm2 e2 => ?_) (fun no => ?_))
        · refine Ax_br rfl (fun hb => absurd hb (by decide)) (fun _ => ?_)
          (repeat refine Ax_step rfl ?_)
          exact Ax_rZ rfl (Or.inr rfl) ⟨rfl, h1 ⟨⟨m, hm, e⟩, m2, hm2, e2⟩⟩
        · refine Ax_br rfl (fun _ => ?_) (fun hb => absurd rfl hb)
          (repeat refine Ax_step rfl ?_)
          exact Ax_rZ rfl (Or.inl rfl) ⟨rfl, h0 (fun ⟨_, m, hm, e⟩ => no m hm e)⟩
      · refine Ax_br rfl (fun _ => ?_) (fun hb => absurd rfl hb)
        (repeat refine Ax_step rfl ?_)
        exact Ax_rZ rfl (Or.inl rfl) ⟨rfl, h0 (fun ⟨⟨m, hm, e⟩, _⟩ => no m hm e)⟩
    | 7, _ =>
      rw [vI_7] at h1 h0
      show Ax 23 137 _ _ _ _
      (repeat refine Ax_step rfl ?_)
      refine Ax_call rfl (r_isKind hT hR (fun m hm e => ?_) (fun no => ?_))
      · exact Ax_rZ rfl (Or.inr rfl) ⟨rfl, h1 ⟨m, hm, e⟩⟩
      · exact Ax_rZ rfl (Or.inl rfl) ⟨rfl, h0 (fun ⟨m, hm, e⟩ => no m hm e)⟩
    | 8, _ =>
      rw [vI_8] at h1 h0
      show Ax 23 56 _ _ _ _
      (repeat refine Ax_step rfl ?_)
      refine Ax_call rfl (r_isIn (by omega) (fun m hm e => ?_) (fun no => ?_))
      · exact Ax_rZ rfl (Or.inr rfl) ⟨rfl, h1 ⟨m, hm, e⟩⟩
      · exact Ax_rZ rfl (Or.inl rfl) ⟨rfl, h0 (fun ⟨m, hm, e⟩ => no m hm e)⟩
    | 9, _ =>
      rw [vI_9] at h1 h0
      show Ax 23 56 _ _ _ _
      (repeat refine Ax_step rfl ?_)
      refine Ax_call rfl (r_isIn (by omega) (fun m hm e => ?_) (fun no => ?_))
      · exact Ax_rZ rfl (Or.inr rfl) ⟨rfl, h1 ⟨m, hm, e⟩⟩
      · exact Ax_rZ rfl (Or.inl rfl) ⟨rfl, h0 (fun ⟨m, hm, e⟩ => no m hm e)⟩
    | n + 10, h => omega
  · have hn : ∀ k, k < 10 → c ≠ nI k := fun k hk e => hc ⟨k, hk, e⟩
    rw [psw_out _ (fun p hp e => hn p.1 (by have := List.all_eq_true.mp (show (pswt 0).all (fun p => decide (p.1 < 10)) = true from rfl) p hp; exact of_decide_eq_true this) e)]
    (repeat refine Ax_step rfl ?_)
    exact Ax_rZ rfl (Or.inl rfl) ⟨rfl, h0 (vI_no hn)⟩
theorem r_catcher {m n : Nat} {x : Int32} (hT : TI μ0) (hR : TR μ0 μ) (hm : m < 8) (hc : n < kct μ0) (hq : Q (some (pI (ctI (catF (cp μ0 m x n) 0 (hcm μ0 m))))) μ) : Cl 28 [pR 16 0, pI (nI m), pI x, pI (nI n)] μ Q := by
  have hh := hT.h hm
  have hk := hT.k
  have loop : ∀ r h, h + r = hcm μ0 m → ∀ z : Option PV, Q (some (pI (ctI (catF (cp μ0 m x n) h r)))) μ → Ax 28 10 [some (pR 16 0), some (pI (nI m)), some (pI x), some (pI (nI n)), some (pI (nI h)), z] [pI (nI m), pR 22 0, pI (nI h)] μ (fun y r' μ1 => y = 0 ∧ Q r' μ1) := by
    intro r
    induction r with
    | zero =>
      intro h hr z hq
      refine Ax_ald m rfl rfl hm ?_
      rw [hR.h hm, hh.1]
      refine Ax_br rfl (fun _ => ?_) (fun hb => absurd (nI_le (by omega) (by omega)) hb)
      (repeat refine Ax_step rfl ?_)
      exact Ax_rI rfl ⟨rfl, hq⟩
    | succ r ih =>
      intro h hr z hq
      refine Ax_ald m rfl rfl hm ?_
      rw [hR.h hm, hh.1]
      refine Ax_br rfl (fun hb => absurd hb (nI_ge (by omega) (by omega))) (fun _ => ?_)
      (repeat refine Ax_step rfl ?_)
      rw [pk_mul, nI_add]
      obtain ⟨-, -, ⟨k, hkk, hke⟩, -⟩ := hT.hd hm (show h < hcm μ0 m by omega)
      obtain ⟨g1, g2, g3, g4⟩ := hR.hd hm (show h < 4 by omega)
      have hp : cp μ0 m x n h = (decide (μ0 44 m h ≤ x ∧ x ≤ μ0 45 m h) && bt (μ0 15 0 k) n) := by unfold cp; rw [nI_self hke (by omega)]
      have next : cp μ0 m x n h = false → Ax 28 62 [some (pR 16 0), some (pI (nI m)), some (pI x), some (pI (nI n)), some (pI (nI h)), some (pI (nI (4 * m + h)))] [] μ (fun y r' μ1 => y = 0 ∧ Q r' μ1) := by
        intro e
        unfold catF at hq
        rw [if_neg (by rw [e]; decide)] at hq
        (repeat refine Ax_step rfl ?_)
        rw [nI_add]
        exact ih (h + 1) (by omega) _ hq
      refine Ax_ald (4 * m + h) rfl rfl (show 4 * m + h < 32 by omega) ?_
      rw [g1]
      refine Ax_br rfl (fun hb => next ?_) (fun hb => ?_)
      · rw [hp, decide_eq_false (fun z => Int32.not_lt.mpr z.1 hb)]; rfl
      · (repeat refine Ax_step rfl ?_)
        refine Ax_ald (4 * m + h) rfl rfl (show 4 * m + h < 32 by omega) ?_
        rw [g2]
        refine Ax_br rfl (fun hb2 => next ?_) (fun hb2 => ?_)
        · rw [hp, decide_eq_false (fun z => Int32.not_lt.mpr z.2 hb2)]; rfl
        · (repeat refine Ax_step rfl ?_)
          refine Ax_ald (4 * m + h) rfl rfl (show 4 * m + h < 32 by omega) ?_
          rw [g3, hke]
          refine Ax_call rfl (r_isOne hT hR hc hkk ?_)
          refine Ax_br rfl (fun hb3 => next ?_) (fun hb3 => ?_)
          · rw [hp, bI_0.mp hb3]; simp
          · (repeat refine Ax_step rfl ?_)
            refine Ax_rI rfl ⟨rfl, ?_⟩
            have e2 : bt (μ0 15 0 k) n = true := by cases hz : bt (μ0 15 0 k) n with | true => rfl | false => exact absurd (bI_0.mpr hz) hb3
            unfold catF at hq
            rw [if_pos (by rw [hp, e2, decide_eq_true ⟨Int32.not_lt.mp hb, Int32.not_lt.mp hb2⟩]; rfl)] at hq
            exact hq
  refine Cl_in rfl ?_
  (repeat refine Ax_step rfl ?_)
  exact loop (hcm μ0 m) 0 (by omega) _ hq
end P23
