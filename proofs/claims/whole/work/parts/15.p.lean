/-! fill; refresh. -/
theorem c_fill5 {μ : PM} {x : Int32} {Q : Option PV → PM → Prop} (hq : ∀ μ' : PM, (∀ t mm j, t ≠ 5 → μ' t mm j = μ t mm j) → (∀ j, j < 192 → μ' 5 0 j = x) → Q none μ') : Cl 106 [pR 5 0, pI x] μ Q := by
  have loop : ∀ r k, k + r = 192 → ∀ μk : PM, (∀ t mm j, t ≠ 5 → μk t mm j = μ t mm j) → (∀ j, j < k → μk 5 0 j = x) → Ax 106 7 [some (pR 5 0), some (pI x), some (pI (nI k)), some (pI (nI 192))] [pI (nI 192), pI (nI k)] μk (fun y r' μ1 => y = 0 ∧ Q r' μ1) := by
    intro r
    induction r with
    | zero =>
      intro k hk μk hA hB
      refine Ax_br rfl (fun _ => ?_) (fun hb => absurd (nI_le (by omega) (by omega)) hb)
      exact Ax_rV rfl ⟨rfl, hq μk hA (fun j hj => hB j (by omega))⟩
    | succ r ih =>
      intro k hk μk hA hB
      refine Ax_br rfl (fun hb => absurd hb (nI_ge (by omega) (by omega))) (fun _ => ?_)
      (repeat refine Ax_step rfl ?_)
      refine Ax_ast k rfl rfl (show k < 192 by omega) ?_
      (repeat refine Ax_step rfl ?_)
      rw [nI_add]
      refine ih (k + 1) (by omega) _ (fun t mm j ht => by rw [pu_t ht]; exact hA t mm j ht) (fun j hj => ?_)
      by_cases e : j = k
      · subst e; exact pu_s
      · rw [pu_j e]; exact hB j (by omega)
  refine Cl_in rfl ?_
  (repeat refine Ax_step rfl ?_)
  exact loop 192 0 (by omega) μ (fun _ _ _ _ => rfl) (fun j hj => by omega)
theorem c_fill7 {μ : PM} {x : Int32} {Q : Option PV → PM → Prop} (hq : ∀ μ' : PM, (∀ t mm j, t ≠ 7 → μ' t mm j = μ t mm j) → (∀ j, j < 40 → μ' 7 0 j = x) → Q none μ') : Cl 106 [pR 7 0, pI x] μ Q := by
  have loop : ∀ r k, k + r = 40 → ∀ μk : PM, (∀ t mm j, t ≠ 7 → μk t mm j = μ t mm j) → (∀ j, j < k → μk 7 0 j = x) → Ax 106 7 [some (pR 7 0), some (pI x), some (pI (nI k)), some (pI (nI 40))] [pI (nI 40), pI (nI k)] μk (fun y r' μ1 => y = 0 ∧ Q r' μ1) := by
    intro r
    induction r with
    | zero =>
      intro k hk μk hA hB
      refine Ax_br rfl (fun _ => ?_) (fun hb => absurd (nI_le (by omega) (by omega)) hb)
      exact Ax_rV rfl ⟨rfl, hq μk hA (fun j hj => hB j (by omega))⟩
    | succ r ih =>
      intro k hk μk hA hB
      refine Ax_br rfl (fun hb => absurd hb (nI_ge (by omega) (by omega))) (fun _ => ?_)
      (repeat refine Ax_step rfl ?_)
      refine Ax_ast k rfl rfl (show k < 40 by omega) ?_
      (repeat refine Ax_step rfl ?_)
      rw [nI_add]
      refine ih (k + 1) (by omega) _ (fun t mm j ht => by rw [pu_t ht]; exact hA t mm j ht) (fun j hj => ?_)
      by_cases e : j = k
      · subst e; exact pu_s
      · rw [pu_j e]; exact hB j (by omega)
  refine Cl_in rfl ?_
  (repeat refine Ax_step rfl ?_)
  exact loop 40 0 (by omega) μ (fun _ _ _ _ => rfl) (fun j hj => by omega)
theorem c_fill9 {μ : PM} {x : Int32} {Q : Option PV → PM → Prop} (hq : ∀ μ' : PM, (∀ t mm j, t ≠ 9 → μ' t mm j = μ t mm j) → (∀ j, j < 40 → μ' 9 0 j = x) → Q none μ') : Cl 106 [pR 9 0, pI x] μ Q := by
  have loop : ∀ r k, k + r = 40 → ∀ μk : PM, (∀ t mm j, t ≠ 9 → μk t mm j = μ t mm j) → (∀ j, j < k → μk 9 0 j = x) → Ax 106 7 [some (pR 9 0), some (pI x), some (pI (nI k)), some (pI (nI 40))] [pI (nI 40), pI (nI k)] μk (fun y r' μ1 => y = 0 ∧ Q r' μ1) := by
    intro r
    induction r with
    | zero =>
      intro k hk μk hA hB
      refine Ax_br rfl (fun _ => ?_) (fun hb => absurd (nI_le (by omega) (by omega)) hb)
      exact Ax_rV rfl ⟨rfl, hq μk hA (fun j hj => hB j (by omega))⟩
    | succ r ih =>
      intro k hk μk hA hB
      refine Ax_br rfl (fun hb => absurd hb (nI_ge (by omega) (by omega))) (fun _ => ?_)
      (repeat refine Ax_step rfl ?_)
      refine Ax_ast k rfl rfl (show k < 40 by omega) ?_
      (repeat refine Ax_step rfl ?_)
      rw [nI_add]
      refine ih (k + 1) (by omega) _ (fun t mm j ht => by rw [pu_t ht]; exact hA t mm j ht) (fun j hj => ?_)
      by_cases e : j = k
      · subst e; exact pu_s
      · rw [pu_j e]; exact hB j (by omega)
  refine Cl_in rfl ?_
  (repeat refine Ax_step rfl ?_)
  exact loop 40 0 (by omega) μ (fun _ _ _ _ => rfl) (fun j hj => by omega)
theorem prs_8 {μ : PM} {a b : Nat} : prs μ 8 0 a b ↔ a < 8 ∧ b < szm μ a := by
  unfold prs
  constructor
  · rintro (z | z)
    · exact z
    · omega
  · exact Or.inl
theorem fs_1 {μ μ' : PM} (hT : TI μ) (h5 : ∀ j, j < 192 → μ 5 0 j = 0) (h7 : ∀ j, j < 40 → μ 7 0 j = 0) (h9 : ∀ j, j < 40 → μ 9 0 j = 0) (h : rdP μ μ' (prs μ 8 0) (own μ) (nI 1)) : FS μ' 1 := by
  have hts := h.ts
  have hK := hT.k.2.2
  obtain ⟨h1, h2, h3, h4⟩ := h
  have one : ∀ k m i c, k ≤ 1 → wy μ k m i c → k = 1 ∧ own μ m i c = true := by
    intro k m i c hk hw
    have := wy_pos hw
    have e : k = 1 := by omega
    subst e
    exact ⟨rfl, hw⟩
  refine ⟨fun m i c hm hi hc => ?_, fun m i c k hm hi hk hl => ?_, fun d c hd hc => ?_, fun d c hd hc => ?_⟩
  · rw [ts_szm hts] at hi
    have hs := (hT.s hm).2
    rw [h2 m i c hm (by omega) hc, h5 _ (by omega), b_0]
    simp only [ts_wy hts]
    constructor
    · rintro (z | z)
      · cases z
      · exact ⟨1, Nat.le_refl _, z.2⟩
    · rintro ⟨k, hk, hw⟩
      exact Or.inr ⟨prs_8.mpr ⟨hm, hi⟩, (one k m i c hk hw).2⟩
  · rw [ts_szm hts] at hi
    rw [ts_ls hts] at hl
    have hs := (hT.s hm).2
    obtain ⟨rfl, ho⟩ := one k m i c hk hl.1
    have hc := own_lt hT hm hi ho
    exact (h3 m i c hm (by omega) (by omega)).1 ⟨prs_8.mpr ⟨hm, hi⟩, ho, by rw [h5 _ (by omega), b_0]⟩
  · rw [h1 7 0 d (by omega) (by omega) (by omega), h7 d hd, b_0]
    constructor
    · intro z; cases z
    · rintro ⟨k, hk, hw⟩
      have := dw_pos hw
      omega
  · rw [h4 d c hd hc, h9 d hd, b_0]
    simp only [ts_ls hts, ts_szm hts, ts_thr hts]
    constructor
    · rintro (z | ⟨a, b, ha, hb, z1, z2, z3, z4⟩)
      · cases z
      · have hz := prs_8.mp z1
        have e : d / 5 = a := by rw [← z4]; exact (hT.thr_lt ha).2
        rw [e]
        refine ⟨b, hz.2, z4, z2, fun j hj hw => ?_⟩
        have := wy_pos hw
        omega
    · rintro ⟨j, z1, z2, z3⟩
      have hm : d / 5 < 8 := by omega
      have hs := (hT.s hm).2
      exact Or.inr ⟨d / 5, j, hm, by omega, prs_8.mpr ⟨hm, z1⟩, z3.1, by rw [h5 _ (by omega), b_0], z2⟩
theorem fs_s {μ μ1 μ2 : PM} {L : Nat} (hT : TI μ) (hL : 1 ≤ L) (hF : FS μ L) (ho : odP μ μ1) (hr : rdP μ1 μ2 (prs μ1 8 0) (frS μ1) (nI (L + 1))) : FS μ2 (L + 1) := by
  obtain ⟨hts, k8, k7⟩ := open_fs hT hL hF ho
  have hts2 := hr.ts
  have htt := hts.tr hts2
  have hK := hT.k.2.2
  obtain ⟨f1, f2, f3, f4⟩ := hF
  obtain ⟨h1, h2, h3, h4⟩ := hr
  have r5 : ∀ j, μ1 5 0 j = μ 5 0 j := fun j => ho.1 5 0 j (by omega) (by omega) (by omega)
  -- who raises anew
  have new : ∀ m i c, m < 8 → i < szm μ m → c < 32 → ((frS μ1 m i c = true ∧ bt (μ 5 0 (m * 24 + i)) c = false) ↔ ls μ (L + 1) m i c) := by
    intro m i c hm hi hc
    have hno : bt (μ 5 0 (m * 24 + i)) c = false ↔ ∀ k, k ≤ L → ¬ wy μ k m i c := by
      rw [← Bool.not_eq_true, f1 m i c hm hi hc]
      constructor
      · intro z k hk hw; exact z ⟨k, hk, hw⟩
      · rintro z ⟨k, hk, hw⟩; exact z k hk hw
    rw [hno]
    unfold frS
    rw [ts_src hts]
    constructor
    · rintro ⟨z1, z2⟩
      cases hs : src μ m i with
      | none => rw [hs] at z1; cases z1
      | some d =>
        rw [hs] at z1
        have hd := src_lt hT hm hi hs
        have := (k8 d c hd hc).mp z1
        exact ⟨(wy_s hL).mpr ⟨d, hs, this.1⟩, fun j hj => z2 j (by omega)⟩
    · rintro ⟨z1, z2⟩
      refine ⟨?_, fun k hk => z2 k (by omega)⟩
      obtain ⟨d, hs, hw⟩ := (wy_s hL).mp z1
      rw [hs]
      have hd := src_lt hT hm hi hs
      refine (k8 d c hd hc).mpr ⟨hw, fun j hj hw2 => ?_⟩
      exact z2 (j + 1) (by omega) ((wy_s (dw_pos hw2)).mpr ⟨d, hs, hw2⟩)
  refine ⟨fun m i c hm hi hc => ?_, fun m i c k hm hi hk hl => ?_, fun d c hd hc => ?_, fun d c hd hc => ?_⟩
  · rw [ts_szm htt] at hi
    have hs := (hT.s hm).2
    rw [h2 m i c hm (by omega) hc, r5]
    simp only [ts_wy htt]
    constructor
    · rintro (z | z)
      · obtain ⟨k, hk, hw⟩ := (f1 m i c hm hi hc).mp z
        exact ⟨k, by omega, hw⟩
      · cases hz : bt (μ 5 0 (m * 24 + i)) c with
        | true =>
          obtain ⟨k, hk, hw⟩ := (f1 m i c hm hi hc).mp hz
          exact ⟨k, by omega, hw⟩
        | false => exact ⟨L + 1, Nat.le_refl _, ((new m i c hm hi hc).mp ⟨z.2, hz⟩).1⟩
    · rintro ⟨k, hk, hw⟩
      obtain ⟨n, hn, hl⟩ := wy_ex hw
      by_cases e : n = L + 1
      · subst e
        exact Or.inr ⟨prs_8.mpr ⟨hm, by rw [ts_szm hts]; exact hi⟩, ((new m i c hm hi hc).mpr hl).1⟩
      · exact Or.inl ((f1 m i c hm hi hc).mpr ⟨n, by omega, hl.1⟩)
  · rw [ts_szm htt] at hi
    rw [ts_ls htt] at hl
    have hs := (hT.s hm).2
    have hc := wy_lt hT k hm hi hl.1
    have hh := h3 m i c hm (by omega) (by omega)
    rw [r5] at hh
    by_cases e : k = L + 1
    · subst e
      have := (new m i c hm hi (by omega)).mpr hl
      exact hh.1 ⟨prs_8.mpr ⟨hm, by rw [ts_szm hts]; exact hi⟩, this⟩
    · rw [hh.2 (fun z => ?_), ho.1 6 0 _ (by omega) (by omega) (by omega)]
      · exact f2 m i c k hm hi (by omega) hl
      · have := ((new m i c hm hi (by omega)).mp z.2).2 k (by omega)
        exact this hl.1
  · rw [h1 7 0 d (by omega) (by omega) (by omega), k7 d c hd hc]
    simp only [ts_dw htt]
    constructor
    · rintro ⟨k, hk, hw⟩; exact ⟨k, by omega, hw⟩
    · rintro ⟨k, hk, hw⟩; exact ⟨k, by omega, hw⟩
  · rw [h4 d c hd hc, (ho.2 d hd).2.2, b_0]
    simp only [ts_ls htt, ts_szm htt, ts_thr htt, r5]
    constructor
    · rintro (z | ⟨a, b, ha, hb, z1, z2, z3, z4⟩)
      · cases z
      · have hz := prs_8.mp z1
        rw [ts_szm hts] at hz
        rw [ts_thr hts] at z4
        have e : d / 5 = a := by rw [← z4]; exact (hT.thr_lt ha).2
        rw [e]
        exact ⟨b, hz.2, z4, (new a b c ha hz.2 hc).mp ⟨z2, z3⟩⟩
    · rintro ⟨j, z1, z2, z3⟩
      have hm : d / 5 < 8 := by omega
      have hs := (hT.s hm).2
      have := (new (d / 5) j c hm z1 hc).mpr z3
      exact Or.inr ⟨d / 5, j, hm, by omega, prs_8.mpr ⟨hm, by rw [ts_szm hts]; exact z1⟩, this.1, this.2, by rw [ts_thr hts]; exact z2⟩
theorem c_refresh {μ : PM} {Q : Option PV → PM → Prop} (hT : TI μ) (hfr : μ 4 0 1 = 0 → FD μ) (hq : ∀ μ' : PM, (∀ t mm j, ¬ (4 ≤ t ∧ t ≤ 9) → μ' t mm j = μ t mm j) → μ' 4 0 1 = 0 → FD μ' → Q none μ') : Cl 71 [pR 4 0] μ Q := by
  refine Cl_in rfl ?_
  (repeat refine Ax_step rfl ?_)
  refine Ax_br rfl (fun hb => ?_) (fun hb => ?_)
  · (repeat refine Ax_step rfl ?_)
    refine Ax_call rfl (c_fill5 (fun μ1 a1 b1 => ?_))
    (repeat refine Ax_step rfl ?_)
    refine Ax_call rfl (c_fill7 (fun μ2 a2 b2 => ?_))
    (repeat refine Ax_step rfl ?_)
    refine Ax_call rfl (c_fill9 (fun μ3 a3 b3 => ?_))
    (repeat refine Ax_step rfl ?_)
    have fr3 : ∀ t mm j, ¬ (4 ≤ t ∧ t ≤ 9) → μ3 t mm j = μ t mm j := fun t mm j ht => by rw [a3 t mm j (by omega), a2 t mm j (by omega), a1 t mm j (by omega)]
    have ts3 : ts μ μ3 := ts.of (S := fun t => 4 ≤ t ∧ t ≤ 9) fr3 (by omega) (by omega) (by omega) (fun t h => by omega)
    have hT3 := ts_TI ts3 hT
    refine Ax_call rfl (c_raiseOwn hT3 (fun μ4 h4 => ?_))
    (repeat refine Ax_step rfl ?_)
    have hF : FS μ4 1 := fs_1 hT3 (fun j hj => by rw [a3 5 0 j (by omega), a2 5 0 j (by omega)]; exact b1 j hj) (fun j hj => by rw [a3 7 0 j (by omega)]; exact b2 j hj) b3 h4
    have fr4 : ∀ t mm j, ¬ (4 ≤ t ∧ t ≤ 9) → μ4 t mm j = μ t mm j := fun t mm j ht => by rw [h4.1 t mm j (by omega) (by omega) (by omega)]; exact fr3 t mm j ht
    have fin : ∀ (μ5 : PM) (x : Option PV), (∀ t mm j, ¬ (4 ≤ t ∧ t ≤ 9) → μ5 t mm j = μ t mm j) → FD μ5 → Ax 71 62 [some (pR 4 0), x] [] μ5 (fun y r' μ1 => y = 0 ∧ Q r' μ1) := by
      intro μ5 x fr hD
      (repeat refine Ax_step rfl ?_)
      refine Ax_putz rfl rfl (Or.inl rfl) ?_
      (repeat refine Ax_step rfl ?_)
      have tt : ts μ5 (pu μ5 4 0 1 (nI 0)) := ts.pu (by omega) (by omega) (by omega) (by omega)
      refine Ax_rV rfl ⟨rfl, hq _ (fun t mm j ht => by rw [pu_t (by omega)]; exact fr t mm j ht) pu_s ?_⟩
      obtain ⟨d1, d2, d3⟩ := hD
      refine ⟨fun m i c hm hi hc => ?_, fun m i c k hm hi hl => ?_, fun d c hd hc => ?_⟩
      · rw [ts_szm tt] at hi
        simp only [ts_wy tt]
        rw [pu_t (by omega)]; exact d1 m i c hm hi hc
      · rw [ts_szm tt] at hi
        rw [ts_ls tt] at hl
        rw [pu_t (by omega)]; exact d2 m i c k hm hi hl
      · simp only [ts_dw tt]
        rw [pu_t (by omega)]; exact d3 d c hd hc
    have loop : ∀ r L, L + r = 41 → 1 ≤ L → ∀ μk, (∀ t mm j, ¬ (4 ≤ t ∧ t ≤ 9) → μk t mm j = μ t mm j) → FS μk L → Ax 71 41 [some (pR 4 0), some (pI (nI (L + 1)))] [pI (nI 41), pI (nI (L + 1))] μk (fun y r' μ1 => y = 0 ∧ Q r' μ1) := by
      intro r
      induction r with
      | zero =>
        intro L hL h1 μk fr hF
        have hTk := ts_TI (ts.of (S := fun t => 4 ≤ t ∧ t ≤ 9) fr (by omega) (by omega) (by omega) (fun t h => by omega)) hT
        rw [show L = 41 by omega] at hF
        refine Ax_br rfl (fun _ => fin μk _ fr (FS_41 hTk hF)) (fun hb => absurd (nI_lt (by omega) (by omega)) hb)
      | succ r ih =>
        intro L hL h1 μk fr hF
        have hTk := ts_TI (ts.of (S := fun t => 4 ≤ t ∧ t ≤ 9) fr (by omega) (by omega) (by omega) (fun t h => by omega)) hT
        refine Ax_br rfl (fun hb => absurd hb (nI_nlt (by omega) (by omega))) (fun _ => ?_)
        (repeat refine Ax_step rfl ?_)
        refine Ax_call rfl (c_open (fun μ5 b ho hb => ?_))
        have fr5 : ∀ t mm j, ¬ (4 ≤ t ∧ t ≤ 9) → μ5 t mm j = μ t mm j := fun t mm j ht => by rw [ho.1 t mm j (by omega) (by omega) (by omega)]; exact fr t mm j ht
        refine Ax_br rfl (fun hz => fin μ5 _ fr5 (open_fd hTk h1 hF ho (hb.mp (bI_0.mp hz)))) (fun _ => ?_)
        (repeat refine Ax_step rfl ?_)
        obtain ⟨hts5, k8, -⟩ := open_fs hTk h1 hF ho
        have hT5 := ts_TI hts5 hTk
        refine Ax_call rfl (c_raiseFresh hT5 (fun d c hd h10 h32 => ?_) (fun μ6 h6 => ?_))
        · cases hz : bt (μ5 8 0 d) c with
          | false => rfl
          | true => have := dw_lt hTk hd ((k8 d c hd h32).mp hz).1; have := hTk.k.2.2; omega
        · (repeat refine Ax_step rfl ?_)
          rw [nI_add]
          exact ih (L + 1) (by omega) (by omega) μ6 (fun t mm j ht => by rw [h6.1 t mm j (by omega) (by omega) (by omega)]; exact fr5 t mm j ht) (fs_s hTk h1 hF ho h6)
    exact loop 40 1 (by omega) (by omega) μ4 fr4 hF
  · have h0 : μ 4 0 1 = 0 := Decidable.byContradiction hb
    exact Ax_rV rfl ⟨rfl, hq μ (fun _ _ _ _ => rfl) h0 (hfr h0)⟩
