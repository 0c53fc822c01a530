/-! What the class answers when it is asked. -/
theorem nI_no {x : Int32} {n : Nat} (hn : n < 2 ^ 31) (h : x < 0 ∨ nI n ≤ x) : ∀ m, m < n → x ≠ nI m := by
  rintro m hm rfl
  rcases h with z | z
  · exact nI_pos (by omega) z
  · exact nI_ge hm hn z
theorem nI_yes {x : Int32} {n : Nat} (hn : n < 2 ^ 31) (h0 : ¬ x < 0) (h1 : ¬ nI n ≤ x) : ∃ m, m < n ∧ x = nI m := by
  rcases pk_ix x hn with z | z | z
  · exact absurd z h0
  · exact absurd z h1
  · exact z
theorem c_hasKind {μ : PM} {x : Int32} {Q : Option PV → PM → Prop} (hT : TI μ) (h1 : ∀ m, m < kct μ → x = nI m → Q (some (pI 1)) μ) (h0 : (∀ m, m < kct μ → x ≠ nI m) → Q (some (pI 0)) μ) : Cl 76 [pR 2 0, pI x] μ Q := by
  have hk := hT.k
  refine c_has (fun a b => ?_) (fun a => ?_)
  · rw [hk.1] at b
    obtain ⟨m, hm, e⟩ := nI_yes (by omega) (Int32.not_lt.mpr a) (Int32.not_le.mpr b)
    exact h1 m hm e
  · refine h0 (nI_no (by omega) ?_)
    rw [hk.1] at a
    by_cases z : x < 0
    · exact Or.inl z
    · exact Or.inr (Int32.not_lt.mp (fun y => a ⟨Int32.not_lt.mp z, y⟩))
section P16
variable {μ : PM} {x y : Int32} {Q : Option PV → PM → Prop}
theorem c_hasMethod (hT : TI μ) (h1 : ∀ m, m < mct μ → x = nI m → Q (some (pI 1)) μ) (h0 : (∀ m, m < mct μ → x ≠ nI m) → Q (some (pI 0)) μ) : Cl 98 [pR 1 0, pI x] μ Q := by
  have hk := hT.m
  refine Cl_in rfl ?_
  (repeat refine Ax_step rfl ?_)
  refine Ax_br rfl (fun hb => ?_) (fun hb => ?_)
  · (repeat refine Ax_step rfl ?_)
    exact Ax_rZ rfl (Or.inl rfl) ⟨rfl, h0 (nI_no (by omega) (Or.inl hb))⟩
  · (repeat refine Ax_step rfl ?_)
    rw [hk.1]
    refine Ax_br rfl (fun hb2 => ?_) (fun hb2 => ?_)
    · (repeat refine Ax_step rfl ?_)
      exact Ax_rZ rfl (Or.inl rfl) ⟨rfl, h0 (nI_no (by omega) (Or.inr hb2))⟩
    · (repeat refine Ax_step rfl ?_)
      obtain ⟨m, hm, e⟩ := nI_yes (by omega) hb hb2
      exact Ax_rZ rfl (Or.inr rfl) ⟨rfl, h1 m hm e⟩
theorem c_hasIns (hT : TI μ) (h1 : ∀ m i, m < mct μ → x = nI m → i < szm μ m → y = nI i → Q (some (pI 1)) μ) (h0 : (∀ m i, m < mct μ → x = nI m → i < szm μ m → y ≠ nI i) → Q (some (pI 0)) μ) : Cl 99 [pR 1 0, pI x, pI y] μ Q := by
  refine Cl_in rfl ?_
  (repeat refine Ax_step rfl ?_)
  refine Ax_call rfl (c_hasMethod hT (fun m hm e => ?_) (fun no => ?_))
  · subst e
    have hm8 : m < 8 := by have := hT.m.2; omega
    have hs := hT.s hm8
    have h0' : (∀ i, i < szm μ m → y ≠ nI i) → Q (some (pI 0)) μ := fun h => h0 (fun m' i hm' e hi => by
      have := (nI_eq (by omega) (by have := hT.m.2; omega)).mp e
      subst this
      exact h i hi)
    refine Ax_br rfl (fun hb => absurd hb (by decide)) (fun _ => ?_)
    (repeat refine Ax_step rfl ?_)
    refine Ax_br rfl (fun hb => ?_) (fun hb => ?_)
    · (repeat refine Ax_step rfl ?_)
      exact Ax_rZ rfl (Or.inl rfl) ⟨rfl, h0' (nI_no (by omega) (Or.inl hb))⟩
    · (repeat refine Ax_step rfl ?_)
      refine Ax_aal m rfl rfl hm8 ?_
      (repeat refine Ax_step rfl ?_)
      rw [hs.1]
      refine Ax_br rfl (fun hb2 => ?_) (fun hb2 => ?_)
      · (repeat refine Ax_step rfl ?_)
        exact Ax_rZ rfl (Or.inl rfl) ⟨rfl, h0' (nI_no (by omega) (Or.inr hb2))⟩
      · (repeat refine Ax_step rfl ?_)
        obtain ⟨i, hi, e⟩ := nI_yes (by omega) hb hb2
        exact Ax_rZ rfl (Or.inr rfl) ⟨rfl, h1 m i hm rfl hi e⟩
  · refine Ax_br rfl (fun _ => ?_) (fun hb => absurd rfl hb)
    (repeat refine Ax_step rfl ?_)
    exact Ax_rZ rfl (Or.inl rfl) ⟨rfl, h0 (fun m i hm e _ => absurd e (no m hm))⟩
theorem c_hasHan (hT : TI μ) (h1 : ∀ m i, m < mct μ → x = nI m → i < hcm μ m → y = nI i → Q (some (pI 1)) μ) (h0 : (∀ m i, m < mct μ → x = nI m → i < hcm μ m → y ≠ nI i) → Q (some (pI 0)) μ) : Cl 100 [pR 1 0, pI x, pI y] μ Q := by
  refine Cl_in rfl ?_
  (repeat refine Ax_step rfl ?_)
  refine Ax_call rfl (c_hasMethod hT (fun m hm e => ?_) (fun no => ?_))
  · subst e
    have hm8 : m < 8 := by have := hT.m.2; omega
    have hs := hT.h hm8
    have h0' : (∀ i, i < hcm μ m → y ≠ nI i) → Q (some (pI 0)) μ := fun h => h0 (fun m' i hm' e hi => by
      have := (nI_eq (by omega) (by have := hT.m.2; omega)).mp e
      subst this
      exact h i hi)
    refine Ax_br rfl (fun hb => absurd hb (by decide)) (fun _ => ?_)
    (repeat refine Ax_step rfl ?_)
    refine Ax_br rfl (fun hb => ?_) (fun hb => ?_)
    · (repeat refine Ax_step rfl ?_)
      exact Ax_rZ rfl (Or.inl rfl) ⟨rfl, h0' (nI_no (by omega) (Or.inl hb))⟩
    · (repeat refine Ax_step rfl ?_)
      refine Ax_aal m rfl rfl hm8 ?_
      (repeat refine Ax_step rfl ?_)
      rw [hs.1]
      refine Ax_br rfl (fun hb2 => ?_) (fun hb2 => ?_)
      · (repeat refine Ax_step rfl ?_)
        exact Ax_rZ rfl (Or.inl rfl) ⟨rfl, h0' (nI_no (by omega) (Or.inr hb2))⟩
      · (repeat refine Ax_step rfl ?_)
        obtain ⟨i, hi, e⟩ := nI_yes (by omega) hb hb2
        exact Ax_rZ rfl (Or.inr rfl) ⟨rfl, h1 m i hm rfl hi e⟩
  · refine Ax_br rfl (fun _ => ?_) (fun hb => absurd rfl hb)
    (repeat refine Ax_step rfl ?_)
    exact Ax_rZ rfl (Or.inl rfl) ⟨rfl, h0 (fun m i hm e _ => absurd e (no m hm))⟩
/-- which classes go through a door, as a mask -/
def thM (μ : PM) (d : Nat) (v : Int32) : Prop := ∀ c, c < 32 → (bt v c = true ↔ ∃ k, dw μ k d c)
def raM (μ : PM) (m i : Nat) (v : Int32) : Prop := ∀ c, c < 32 → (bt v c = true ↔ ∃ k, wy μ k m i c)
theorem msk_eq {P : Nat → Prop} {v w : Int32} (h : ∀ c, c < 32 → (bt v c = true ↔ P c)) (g : ∀ c, c < 32 → (bt w c = true ↔ P c)) : v = w := by
  apply b_ext
  intro c hc
  have := (h c hc).trans (g c hc).symm
  cases e : bt v c <;> cases e2 : bt w c <;> simp_all
/-- the frame of a question: only the flow's rows -/
def frF (μ μ' : PM) : Prop := ∀ t mm j, ¬ (4 ≤ t ∧ t ≤ 9) → μ' t mm j = μ t mm j
theorem frF.ts {μ μ' : PM} (h : frF μ μ') : ts μ μ' := ts.of (S := fun t => 4 ≤ t ∧ t ≤ 9) h (by omega) (by omega) (by omega) (fun t h => by omega)
theorem c_out (hT : TI μ) (hf : μ 4 0 1 = 0 → FD μ) (h1 : ∀ μ' m v, frF μ μ' → μ' 4 0 1 = 0 → FD μ' → m < mct μ → x = nI m → thM μ (m * 5 + 4) v → Q (some (pI v)) μ') (h0 : ∀ μ', frF μ μ' → μ' 4 0 1 = 0 → FD μ' → (∀ m, m < mct μ → x ≠ nI m) → Q (some (pI 0)) μ') : Cl 6 [pR 0 0, pI x] μ Q := by
  refine Cl_in rfl ?_
  (repeat refine Ax_step rfl ?_)
  refine Ax_call rfl (c_refresh hT hf (fun μ' fr s0 hD => ?_))
  have hts := frF.ts fr
  have hT' := ts_TI hts hT
  (repeat refine Ax_step rfl ?_)
  refine Ax_call rfl (c_hasMethod hT' (fun m hm e => ?_) (fun no => ?_))
  · subst e
    rw [ts_mct hts] at hm
    have hm8 : m < 8 := by have := hT.m.2; omega
    refine Ax_br rfl (fun hb => absurd hb (by decide)) (fun _ => ?_)
    (repeat refine Ax_step rfl ?_)
    refine Ax_call rfl (Cl_in rfl ?_)
    (repeat refine Ax_step rfl ?_)
    rw [pk_mul, nI_add]
    refine Ax_rI rfl ⟨rfl, ?_⟩
    refine Ax_call rfl (Cl_in rfl ?_)
    (repeat refine Ax_step rfl ?_)
    refine Ax_ald (m * 5 + 4) rfl rfl (show m * 5 + 4 < 40 by omega) ?_
    refine Ax_rI rfl ⟨rfl, ?_⟩
    (repeat refine Ax_step rfl ?_)
    refine Ax_rI rfl ⟨rfl, h1 μ' m _ fr s0 hD hm rfl (fun c hc => ?_)⟩
    rw [hD.2.2 _ c (by omega) hc]
    simp only [ts_dw hts]
  · rw [ts_mct hts] at no
    refine Ax_br rfl (fun _ => ?_) (fun hb => absurd rfl hb)
    (repeat refine Ax_step rfl ?_)
    exact Ax_rI rfl ⟨rfl, h0 μ' fr s0 hD no⟩
theorem c_raises (hT : TI μ) (hf : μ 4 0 1 = 0 → FD μ) (h1 : ∀ μ' m i v, frF μ μ' → μ' 4 0 1 = 0 → FD μ' → m < mct μ → x = nI m → i < szm μ m → y = nI i → raM μ m i v → Q (some (pI v)) μ') (h0 : ∀ μ', frF μ μ' → μ' 4 0 1 = 0 → FD μ' → (∀ m i, m < mct μ → x = nI m → i < szm μ m → y ≠ nI i) → Q (some (pI 0)) μ') : Cl 7 [pR 0 0, pI x, pI y] μ Q := by
  refine Cl_in rfl ?_
  (repeat refine Ax_step rfl ?_)
  refine Ax_call rfl (c_refresh hT hf (fun μ' fr s0 hD => ?_))
  have hts := frF.ts fr
  have hT' := ts_TI hts hT
  (repeat refine Ax_step rfl ?_)
  refine Ax_call rfl (c_hasIns hT' (fun m i hm e hi e2 => ?_) (fun no => ?_))
  · subst e
    subst e2
    rw [ts_mct hts] at hm
    have hm8 : m < 8 := by have := hT.m.2; omega
    have hi24 := (hT'.s hm8).2
    refine Ax_br rfl (fun hb => absurd hb (by decide)) (fun _ => ?_)
    (repeat refine Ax_step rfl ?_)
    refine Ax_call rfl (Cl_in rfl ?_)
    (repeat refine Ax_step rfl ?_)
    refine Ax_call rfl (Cl_in rfl ?_)
    (repeat refine Ax_step rfl ?_)
    rw [pk_mul, nI_add]
    refine Ax_rI rfl ⟨rfl, ?_⟩
    refine Ax_ald (m * 24 + i) rfl rfl (show m * 24 + i < 192 by omega) ?_
    refine Ax_rI rfl ⟨rfl, ?_⟩
    (repeat refine Ax_step rfl ?_)
    refine Ax_rI rfl ⟨rfl, h1 μ' m i _ fr s0 hD hm rfl (by rw [← ts_szm hts]; exact hi) rfl (fun c hc => ?_)⟩
    rw [hD.1 m i c hm8 hi hc]
    simp only [ts_wy hts]
  · simp only [ts_mct hts, ts_szm hts] at no
    refine Ax_br rfl (fun _ => ?_) (fun hb => absurd rfl hb)
    (repeat refine Ax_step rfl ?_)
    exact Ax_rI rfl ⟨rfl, h0 μ' fr s0 hD no⟩
theorem c_catches (hT : TI μ) (hf : μ 4 0 1 = 0 → FD μ) (h1 : ∀ μ' m i v, frF μ μ' → μ' 4 0 1 = 0 → FD μ' → m < mct μ → x = nI m → i < hcm μ m → y = nI i → thM μ (m * 5 + i) v → Q (some (pI v)) μ') (h0 : ∀ μ', frF μ μ' → μ' 4 0 1 = 0 → FD μ' → (∀ m i, m < mct μ → x = nI m → i < hcm μ m → y ≠ nI i) → Q (some (pI 0)) μ') : Cl 8 [pR 0 0, pI x, pI y] μ Q := by
  refine Cl_in rfl ?_
  (repeat refine Ax_step rfl ?_)
  refine Ax_call rfl (c_refresh hT hf (fun μ' fr s0 hD => ?_))
  have hts := frF.ts fr
  have hT' := ts_TI hts hT
  (repeat refine Ax_step rfl ?_)
  refine Ax_call rfl (c_hasHan hT' (fun m i hm e hi e2 => ?_) (fun no => ?_))
  · subst e
    subst e2
    rw [ts_mct hts] at hm
    have hm8 : m < 8 := by have := hT.m.2; omega
    have hi4 := (hT'.h hm8).2
    refine Ax_br rfl (fun hb => absurd hb (by decide)) (fun _ => ?_)
    (repeat refine Ax_step rfl ?_)
    refine Ax_call rfl (Cl_in rfl ?_)
    (repeat refine Ax_step rfl ?_)
    rw [pk_mul, nI_add]
    refine Ax_rI rfl ⟨rfl, ?_⟩
    refine Ax_call rfl (Cl_in rfl ?_)
    (repeat refine Ax_step rfl ?_)
    refine Ax_ald (m * 5 + i) rfl rfl (show m * 5 + i < 40 by omega) ?_
    refine Ax_rI rfl ⟨rfl, ?_⟩
    (repeat refine Ax_step rfl ?_)
    refine Ax_rI rfl ⟨rfl, h1 μ' m i _ fr s0 hD hm rfl (by rw [← ts_hcm hts]; exact hi) rfl (fun c hc => ?_)⟩
    rw [hD.2.2 _ c (by omega) hc]
    simp only [ts_dw hts]
  · simp only [ts_mct hts, ts_hcm hts] at no
    refine Ax_br rfl (fun _ => ?_) (fun hb => absurd rfl hb)
    (repeat refine Ax_step rfl ?_)
    exact Ax_rI rfl ⟨rfl, h0 μ' fr s0 hD no⟩
/-- the length that an instruction has -/
theorem c_lenF {m i c : Nat} (hT : TI μ) (hD : FD μ) (hm : m < 8) (hi : i < szm μ m) (hc : c < 10) (h1 : ∀ k, ls μ k m i c → Q (some (pI (nI k))) μ) (h0 : (∀ k, ¬ wy μ k m i c) → Q (some (pI 0)) μ) : Cl 67 [pR 4 0, pI (nI m), pI (nI i), pI (nI c)] μ Q := by
  have hs := (hT.s hm).2
  refine c_lengthAt hm (by omega) hc ?_
  cases hz : bt (μ 5 0 (m * 24 + i)) c with
  | true =>
    obtain ⟨k, hw⟩ := (hD.1 m i c hm hi (by omega)).mp hz
    obtain ⟨n, -, hl⟩ := wy_ex hw
    rw [if_pos rfl, hD.2.1 m i c n hm hi hl]
    exact h1 n hl
  | false =>
    rw [if_neg (by decide)]
    exact h0 (fun k hw => by have := (hD.1 m i c hm hi (by omega)).mpr ⟨k, hw⟩; rw [hz] at this; cases this)
/-- j is the first place of a shortest way through door d, n long -/
def nst (μ : PM) (d c j n : Nat) : Prop := j < szm μ (d / 5) ∧ thr μ (d / 5) j c = d ∧ wy μ n (d / 5) j c ∧ dl μ n d c ∧ ∀ j', j' < j → thr μ (d / 5) j' c = d → ¬ wy μ n (d / 5) j' c
theorem c_nearest {d c : Nat} (hT : TI μ) (hD : FD μ) (hd : d < 40) (hc : c < 10) (h1 : ∀ j n, nst μ d c j n → Q (some (pI (nI j))) μ) (h0 : (∀ k, ¬ dw μ k d c) → Q (some (pI (-1))) μ) : Cl 66 [pR 4 0, pI (nI d), pI (nI c)] μ Q := by
  have hm : d / 5 < 8 := by omega
  have hs := hT.s hm
  generalize hme : d / 5 = m at hm hs
  have thr' : ∀ j, thr μ m j c = d → thr μ (d / 5) j c = d := fun j h => by rw [hme]; exact h
  have loop : ∀ r i, i + r = szm μ m → ∀ (be bl : Int32) (z : Option PV), ((be = -1 ∧ bl = nI 42 ∧ ∀ j, j < i → thr μ m j c = d → ∀ k, ¬ wy μ k m j c) ∨ ∃ j n, be = nI j ∧ bl = nI n ∧ j < i ∧ thr μ m j c = d ∧ wy μ n m j c ∧ n ≤ 41 ∧ (∀ j', j' < i → thr μ m j' c = d → ∀ k, k < n → ¬ wy μ k m j' c) ∧ ∀ j', j' < j → thr μ m j' c = d → ¬ wy μ n m j' c) →
      Ax 66 32 [some (pR 4 0), some (pI (nI d)), some (pI (nI c)), some (pI (nI m)), some (pR 40 m), some (pI be), some (pI bl), some (pI (nI i)), z] [pI (μ 40 m 3), pI (nI i)] μ (fun y r' μ1 => y = 0 ∧ Q r' μ1) := by
    intro r
    induction r with
    | zero =>
      intro i hi be bl z hI
      rw [hs.1]
      refine Ax_br rfl (fun _ => ?_) (fun hb => absurd (nI_le (by omega) (by omega)) hb)
      (repeat refine Ax_step rfl ?_)
      refine Ax_rI rfl ⟨rfl, ?_⟩
      rcases hI with ⟨rfl, -, no⟩ | ⟨j, n, rfl, -, g1, g2, g3, g4, g5, g6⟩
      · refine h0 (fun k hw => ?_)
        obtain ⟨j, w1, w2, w3⟩ := hw
        rw [hme] at w1 w2 w3
        exact no j (by omega) w2 k w3
      · refine h1 j n ⟨by rw [hme]; omega, thr' j g2, by rw [hme]; exact g3, ⟨⟨j, by rw [hme]; omega, thr' j g2, by rw [hme]; exact g3⟩, fun k hk hw => ?_⟩, fun j' hj' ht => by rw [hme] at ht ⊢; exact g6 j' hj' ht⟩
        obtain ⟨j', w1, w2, w3⟩ := hw
        rw [hme] at w1 w2 w3
        exact g5 j' (by omega) w2 k hk w3
    | succ r ih =>
      intro i hi be bl z hI
      rw [hs.1]
      refine Ax_br rfl (fun hb => absurd hb (nI_ge (by omega) (by omega))) (fun _ => ?_)
      (repeat refine Ax_step rfl ?_)
      have skip : ∀ z : Option PV, (thr μ m i c = d → ∀ k, wy μ k m i c → ∃ n, bl = nI n ∧ n ≤ k ∧ n < 42) → Ax 66 77 [some (pR 4 0), some (pI (nI d)), some (pI (nI c)), some (pI (nI m)), some (pR 40 m), some (pI be), some (pI bl), some (pI (nI i)), z] [] μ (fun y r' μ1 => y = 0 ∧ Q r' μ1) := by
        intro z hsk
        (repeat refine Ax_step rfl ?_)
        rw [nI_add]
        refine ih (i + 1) (by omega) be bl z ?_
        rcases hI with ⟨e1, e2, no⟩ | ⟨j, n, e1, e2, g1, g2, g3, g4, g5, g6⟩
        · refine Or.inl ⟨e1, e2, fun j hj ht k hw => ?_⟩
          by_cases e : j = i
          · subst e
            obtain ⟨n, h1, h2, h3⟩ := hsk ht k hw
            rw [e2] at h1
            have := (nI_eq (by omega) (by omega)).mp h1
            omega
          · exact no j (by omega) ht k hw
        · refine Or.inr ⟨j, n, e1, e2, by omega, g2, g3, g4, fun j' hj' ht k hk hw => ?_, g6⟩
          by_cases e : j' = i
          · subst e
            obtain ⟨n', h1, h2, h3⟩ := hsk ht k hw
            rw [e2] at h1
            have := (nI_eq (by omega) (by omega)).mp h1
            omega
          · exact g5 j' (by omega) ht k hk hw
      refine Ax_call rfl (c_lenF hT hD hm (by omega) hc (fun k hl => ?_) (fun no => ?_))
      · have hk1 := wy_pos hl.1
        have hk41 := ls_41 hT hm (by omega) hl
        (repeat refine Ax_step rfl ?_)
        refine Ax_br rfl (fun hb => absurd hb (nI_nle (by omega) (by omega))) (fun _ => ?_)
        (repeat refine Ax_step rfl ?_)
        refine Ax_br rfl (fun hb => ?_) (fun hb => ?_)
        · refine skip _ (fun ht k' hw => ?_)
          have hkk : k ≤ k' := by
            rcases Nat.lt_or_ge k' k with z | z
            · exact absurd hw (hl.2 k' z)
            · exact z
          rcases hI with ⟨e1, e2, no⟩ | ⟨j, n, e1, e2, g1, g2, g3, g4, g5, g6⟩
          · rw [e2] at hb
            exact absurd hb (nI_ge (by omega) (by omega))
          · rw [e2] at hb
            have := (nI_leI (by omega) (by omega)).mp hb
            exact ⟨n, e2, by omega, by omega⟩
        · (repeat refine Ax_step rfl ?_)
          refine Ax_call rfl (c_goes hT hm (by omega) (by omega) ?_)
          (repeat refine Ax_step rfl ?_)
          have ht40 := (hT.thr_lt (i := i) (c := c) hm).1
          refine Ax_br rfl (fun hb2 => ?_) (fun hb2 => ?_)
          · refine skip _ (fun ht => ?_)
            exact absurd (by rw [ht]) hb2
          · have ht : thr μ m i c = d := (nI_eq (by omega) (by omega)).mp (Decidable.byContradiction hb2)
            (repeat refine Ax_step rfl ?_)
            rw [nI_add]
            refine ih (i + 1) (by omega) (nI i) (nI k) _ (Or.inr ⟨i, k, rfl, rfl, by omega, ht, hl.1, hk41, fun j' hj' ht' k' hk' hw => ?_, fun j' hj' ht' hw => ?_⟩)
            · by_cases e : j' = i
              · subst e; exact hl.2 k' hk' hw
              · rcases hI with ⟨e1, e2, no⟩ | ⟨j, n, e1, e2, g1, g2, g3, g4, g5, g6⟩
                · exact no j' (by omega) ht' k' hw
                · rw [e2] at hb
                  have : ¬ n ≤ k := fun z => hb (nI_le z (by omega))
                  exact g5 j' (by omega) ht' k' (by omega) hw
            · rcases hI with ⟨e1, e2, no⟩ | ⟨j, n, e1, e2, g1, g2, g3, g4, g5, g6⟩
              · exact no j' (by omega) ht' k hw
              · rw [e2] at hb
                have : ¬ n ≤ k := fun z => hb (nI_le z (by omega))
                exact g5 j' (by omega) ht' k (by omega) hw
      · (repeat refine Ax_step rfl ?_)
        refine Ax_br rfl (fun _ => skip _ (fun _ k hw => absurd hw (no k))) (fun hb => absurd (by decide) hb)
  refine Cl_in rfl ?_
  (repeat refine Ax_step rfl ?_)
  refine Ax_div rfl (by decide) ?_
  rw [pk_div (by omega) (by omega) (by omega), hme]
  (repeat refine Ax_step rfl ?_)
  refine Ax_aal m rfl rfl hm ?_
  (repeat refine Ax_step rfl ?_)
  exact loop (szm μ m) 0 (by omega) (-1) (nI 42) _ (Or.inl ⟨rfl, rfl, fun j hj => by omega⟩)
theorem nst_fun {d c j n j' n' : Nat} (h : nst μ d c j n) (g : nst μ d c j' n') : j = j' ∧ n = n' := by
  have e := dl_fun h.2.2.2.1 g.2.2.2.1
  subst e
  refine ⟨?_, rfl⟩
  rcases Nat.lt_trichotomy j j' with z | z | z
  · exact absurd h.2.2.1 (g.2.2.2.2 j z h.2.1)
  · exact z
  · exact absurd g.2.2.1 (h.2.2.2.2 j' z g.2.1)
theorem nst_ls {d c j n : Nat} (h : nst μ d c j n) : ls μ n (d / 5) j c := ⟨h.2.2.1, fun k hk hw => h.2.2.2.1.2 k hk ⟨j, h.1, h.2.1, hw⟩⟩
theorem nst_ex {d c k : Nat} (h : dw μ k d c) : ∃ j n, nst μ d c j n := by
  obtain ⟨n, -, hd⟩ := dw_ex h
  obtain ⟨j, ⟨h1, h2, h3⟩, h4⟩ := pk_least (fun j => j < szm μ (d / 5) ∧ thr μ (d / 5) j c = d ∧ wy μ n (d / 5) j c) hd.1
  exact ⟨j, n, h1, h2, h3, hd, fun j' hj' ht hw => h4 j' hj' ⟨by omega, ht, hw⟩⟩
/-- the door behind the first place of a way that is longer than one -/
theorem nst_src {d c j n : Nat} (h : nst μ d c j (n + 1)) (hn : 1 ≤ n) : ∃ d', src μ (d / 5) j = some d' ∧ dl μ n d' c := by
  have hl := nst_ls h
  obtain ⟨d', g1, g2⟩ := (wy_s hn).mp hl.1
  exact ⟨d', g1, g2, fun v hv hw => hl.2 (v + 1) (by omega) ((wy_s (dw_pos hw)).mpr ⟨d', g1, hw⟩)⟩
/-- the k-th place of the way -/
def pth (μ : PM) (c : Nat) : Nat → Nat → Nat → Prop
  | 0, d, p => ∃ j n, nst μ d c j n ∧ p = d / 5 * 24 + j
  | k + 1, d, p => ∃ j n d', nst μ d c j n ∧ src μ (d / 5) j = some d' ∧ pth μ c k d' p
theorem pth_fun {c : Nat} : ∀ (k d p p' : Nat), pth μ c k d p → pth μ c k d p' → p = p'
  | 0, d, p, p', ⟨j, n, h1, h2⟩, ⟨j', n', g1, g2⟩ => by rw [h2, g2, (nst_fun h1 g1).1]
  | k + 1, d, p, p', ⟨j, n, e, h1, h2, h3⟩, ⟨j', n', e', g1, g2, g3⟩ => by
    have := (nst_fun h1 g1).1
    subst this
    rw [h2] at g2
    cases g2
    exact pth_fun k e p p' h3 g3
theorem c_wayLength (hT : TI μ) (hD : FD μ) (h1 : ∀ m c n, m < mct μ → x = nI m → c < kct μ → y = nI c → dl μ n (m * 5 + 4) c → Q (some (pI (nI n))) μ) (h0 : (∀ m c n, m < mct μ → x = nI m → c < kct μ → y = nI c → ¬ dl μ n (m * 5 + 4) c) → Q (some (pI 0)) μ) : Cl 64 [pR 4 0, pI x, pI y] μ Q := by
  refine Cl_in rfl ?_
  (repeat refine Ax_step rfl ?_)
  refine Ax_call rfl (c_hasMethod hT (fun m hm e => ?_) (fun no => ?_))
  · subst e
    have hm8 : m < 8 := by have := hT.m.2; omega
    refine Ax_br rfl (fun hb => absurd hb (by decide)) (fun _ => ?_)
    (repeat refine Ax_step rfl ?_)
    refine Ax_call rfl (c_hasKind hT (fun c hc e => ?_) (fun no => ?_))
    · subst e
      have hc10 : c < 10 := by have := hT.k.2.2; omega
      refine Ax_br rfl (fun _ => ?_) (fun hb => absurd (by decide) hb)
      (repeat refine Ax_step rfl ?_)
      refine Ax_call rfl (Cl_in rfl ?_)
      (repeat refine Ax_step rfl ?_)
      rw [pk_mul, nI_add]
      refine Ax_rI rfl ⟨rfl, ?_⟩
      (repeat refine Ax_step rfl ?_)
      refine Ax_call rfl (c_nearest hT hD (show m * 5 + 4 < 40 by omega) hc10 (fun j n hn => ?_) (fun no => ?_))
      · have hdm : (m * 5 + 4) / 5 = m := by omega
        have hj := hn.1
        have hl := nst_ls hn
        rw [hdm] at hj hl
        have hs := (hT.s hm8).2
        (repeat refine Ax_step rfl ?_)
        refine Ax_br rfl (fun _ => ?_) (fun hb => absurd (fun z => ?_) hb)
        · (repeat refine Ax_step rfl ?_)
          refine Ax_call rfl (c_lenF hT hD hm8 hj hc10 (fun k hk => ?_) (fun no => absurd hl.1 (no n)))
          have : k = n := by
            rcases Nat.lt_trichotomy k n with z | z | z
            · exact absurd hk.1 (hl.2 k z)
            · exact z
            · exact absurd hl.1 (hk.2 n z)
          subst this
          exact Ax_rI rfl ⟨rfl, h1 m c k hm rfl hc rfl hn.2.2.2.1⟩
        · have : (nI j).toInt = -1 := congrArg Int32.toInt z
          rw [nI_toInt (by omega)] at this
          omega
      · (repeat refine Ax_step rfl ?_)
        refine Ax_br rfl (fun hb => absurd rfl hb) (fun _ => ?_)
        (repeat refine Ax_step rfl ?_)
        refine Ax_rI rfl ⟨rfl, h0 (fun m' c' n hm' e hc' e2 hd => ?_)⟩
        have e3 := (nI_eq (by omega) (by have := hT.m.2; omega)).mp e
        have e4 := (nI_eq (by omega) (by have := hT.k.2.2; omega)).mp e2
        subst e3
        subst e4
        exact no n hd.1
    · refine Ax_br rfl (fun hb => absurd rfl hb) (fun _ => ?_)
      (repeat refine Ax_step rfl ?_)
      exact Ax_rI rfl ⟨rfl, h0 (fun m' c' n _ _ hc' e2 _ => no c' hc' e2)⟩
  · refine Ax_br rfl (fun _ => ?_) (fun hb => absurd rfl hb)
    (repeat refine Ax_step rfl ?_)
    exact Ax_rI rfl ⟨rfl, h0 (fun m' c' n hm' e _ _ _ => no m' hm' e)⟩
end P16
