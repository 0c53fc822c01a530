/-! The way, step by step; is, method, spent, escaped. -/
section P17
variable {μ : PM} {x y : Int32} {Q : Option PV → PM → Prop}
theorem nI_ne1 {k : Nat} (hk : k < 2 ^ 31) : nI k ≠ -1 := by
  intro z
  have : (nI k).toInt = -1 := congrArg Int32.toInt z
  rw [nI_toInt hk] at this
  omega
theorem c_wayPlace {m c k n : Nat} (hT : TI μ) (hD : FD μ) (hm : m < 8) (hc : c < 10) (hk31 : k < 2 ^ 31) (hd : dl μ n (m * 5 + 4) c) (hk : k < n) (h : ∀ p, p < 192 → pth μ c k (m * 5 + 4) p → Q (some (pI (nI p))) μ) : Cl 65 [pR 4 0, pI (nI m), pI (nI c), pI (nI k)] μ Q := by
  have loop : ∀ r i, i + r = k → ∀ (d n : Nat) (z : Option PV), d < 40 → dl μ n d c → r < n → (∀ p, p < 192 → pth μ c r d p → Q (some (pI (nI p))) μ) → Ax 65 12 [some (pR 4 0), some (pI (nI m)), some (pI (nI c)), some (pI (nI k)), some (pI (nI d)), some (pI (nI i)), z] [pI (nI k), pI (nI i)] μ (fun y r' μ1 => y = 0 ∧ Q r' μ1) := by
    intro r
    induction r with
    | zero =>
      intro i hi d n z hd40 hd hrn hq
      refine Ax_br rfl (fun _ => ?_) (fun hb => absurd (nI_le (by omega) (by omega)) hb)
      (repeat refine Ax_step rfl ?_)
      refine Ax_br rfl (fun _ => ?_) (fun hb => absurd (nI_ne1 (by omega)) hb)
      (repeat refine Ax_step rfl ?_)
      refine Ax_call rfl (c_nearest hT hD hd40 hc (fun j n' hn => ?_) (fun no => absurd hd.1 (no n)))
      have hs := (hT.s (show d / 5 < 8 by omega)).2
      have hj := hn.1
      (repeat refine Ax_step rfl ?_)
      refine Ax_br rfl (fun _ => ?_) (fun hb => absurd (nI_ne1 (by omega)) hb)
      (repeat refine Ax_step rfl ?_)
      refine Ax_div rfl (by decide) ?_
      rw [pk_div (by omega) (by omega) (by omega)]
      (repeat refine Ax_step rfl ?_)
      refine Ax_call rfl (Cl_in rfl ?_)
      (repeat refine Ax_step rfl ?_)
      rw [pk_mul, nI_add]
      refine Ax_rI rfl ⟨rfl, ?_⟩
      exact Ax_rI rfl ⟨rfl, hq _ (by omega) ⟨j, n', hn, rfl⟩⟩
    | succ r ih =>
      intro i hi d n z hd40 hd hrn hq
      refine Ax_br rfl (fun hb => absurd hb (nI_ge (by omega) (by omega))) (fun _ => ?_)
      (repeat refine Ax_step rfl ?_)
      refine Ax_br rfl (fun hb => absurd hb (nI_ne1 (by omega))) (fun _ => ?_)
      (repeat refine Ax_step rfl ?_)
      refine Ax_call rfl (c_nearest hT hD hd40 hc (fun j n' hn => ?_) (fun no => absurd hd.1 (no n)))
      have hs := (hT.s (show d / 5 < 8 by omega)).2
      have hj := hn.1
      have e := dl_fun hd hn.2.2.2.1
      subst e
      obtain ⟨v, rfl⟩ : ∃ v, n = v + 1 := ⟨n - 1, by omega⟩
      obtain ⟨d', s1, s2⟩ := nst_src hn (by omega)
      have hd' := src_lt hT (by omega) hj s1
      (repeat refine Ax_step rfl ?_)
      refine Ax_br rfl (fun _ => ?_) (fun hb => absurd (nI_ne1 (by omega)) hb)
      (repeat refine Ax_step rfl ?_)
      refine Ax_div rfl (by decide) ?_
      rw [pk_div (by omega) (by omega) (by omega)]
      (repeat refine Ax_step rfl ?_)
      refine Ax_call rfl (c_source hT (by omega) hj ?_)
      rw [s1]
      (repeat refine Ax_step rfl ?_)
      rw [nI_add]
      exact ih (i + 1) (by omega) d' v _ hd' s2 (by omega) (fun p hp hpp => hq p hp ⟨j, v + 1, d', hn, s1, hpp⟩)
  refine Cl_in rfl ?_
  (repeat refine Ax_step rfl ?_)
  refine Ax_call rfl (Cl_in rfl ?_)
  (repeat refine Ax_step rfl ?_)
  rw [pk_mul, nI_add]
  refine Ax_rI rfl ⟨rfl, ?_⟩
  (repeat refine Ax_step rfl ?_)
  exact loop k 0 (by omega) (m * 5 + 4) n _ (by omega) hd hk h
theorem c_way (hT : TI μ) (hf : μ 4 0 1 = 0 → FD μ) (h1 : ∀ μ' m c n, frF μ μ' → μ' 4 0 1 = 0 → FD μ' → m < mct μ → x = nI m → c < kct μ → y = nI c → dl μ n (m * 5 + 4) c → Q (some (pI (nI n))) μ') (h0 : ∀ μ', frF μ μ' → μ' 4 0 1 = 0 → FD μ' → (∀ m c n, m < mct μ → x = nI m → c < kct μ → y = nI c → ¬ dl μ n (m * 5 + 4) c) → Q (some (pI 0)) μ') : Cl 9 [pR 0 0, pI x, pI y] μ Q := by
  refine Cl_in rfl ?_
  (repeat refine Ax_step rfl ?_)
  refine Ax_call rfl (c_refresh hT hf (fun μ' fr s0 hD => ?_))
  have hts := frF.ts fr
  have hT' := ts_TI hts hT
  (repeat refine Ax_step rfl ?_)
  refine Ax_call rfl (c_wayLength hT' hD (fun m c n hm e hc e2 hd => ?_) (fun no => ?_))
  · rw [ts_mct hts] at hm
    rw [ts_kct hts] at hc
    exact Ax_rI rfl ⟨rfl, h1 μ' m c n fr s0 hD hm e hc e2 ((ts_dl hts _ _ _).mp hd)⟩
  · simp only [ts_mct hts, ts_kct hts, ts_dl hts] at no
    exact Ax_rI rfl ⟨rfl, h0 μ' fr s0 hD no⟩
theorem ts_nst {μ μ' : PM} (h : ts μ μ') (d c j n : Nat) : nst μ' d c j n ↔ nst μ d c j n := by unfold nst; simp only [ts_wy h, ts_szm h, ts_thr h, ts_dl h]
theorem ts_pth {μ μ' : PM} (h : ts μ μ') (c : Nat) : ∀ (k d p : Nat), pth μ' c k d p ↔ pth μ c k d p
  | 0, d, p => by
    show (∃ j n, nst μ' d c j n ∧ p = d / 5 * 24 + j) ↔ ∃ j n, nst μ d c j n ∧ p = d / 5 * 24 + j
    simp only [ts_nst h]
  | k + 1, d, p => by
    show (∃ j n d', nst μ' d c j n ∧ src μ' (d / 5) j = some d' ∧ pth μ' c k d' p) ↔ ∃ j n d', nst μ d c j n ∧ src μ (d / 5) j = some d' ∧ pth μ c k d' p
    simp only [ts_nst h, ts_src h, ts_pth h c k]
/-- step's answer: a place of the way, where there is one -/
theorem c_step {w : Int32} (hT : TI μ) (hf : μ 4 0 1 = 0 → FD μ) (h1 : ∀ μ' m c n k p, frF μ μ' → μ' 4 0 1 = 0 → FD μ' → m < mct μ → x = nI m → c < kct μ → y = nI c → dl μ n (m * 5 + 4) c → k < n → w = nI k → pth μ c k (m * 5 + 4) p → Q (some (pI (nI p))) μ') (h0 : ∀ μ', frF μ μ' → μ' 4 0 1 = 0 → FD μ' → (∀ m c n k, m < mct μ → x = nI m → c < kct μ → y = nI c → dl μ n (m * 5 + 4) c → k < n → w ≠ nI k) → Q (some (pI (-1))) μ') : Cl 10 [pR 0 0, pI x, pI y, pI w] μ Q := by
  refine Cl_in rfl ?_
  (repeat refine Ax_step rfl ?_)
  refine Ax_call rfl (c_refresh hT hf (fun μ' fr s0 hD => ?_))
  have hts := frF.ts fr
  have hT' := ts_TI hts hT
  (repeat refine Ax_step rfl ?_)
  have no0 : (∀ m c n k, m < mct μ → x = nI m → c < kct μ → y = nI c → dl μ n (m * 5 + 4) c → k < n → w ≠ nI k) → ∀ z : Option PV, Ax 10 28 [some (pR 0 0), some (pI x), some (pI y), some (pI w), z] [] μ' (fun y r' μ1 => y = 0 ∧ Q r' μ1) := by
    intro no z
    (repeat refine Ax_step rfl ?_)
    refine Ax_br rfl (fun _ => ?_) (fun hb => absurd rfl hb)
    (repeat refine Ax_step rfl ?_)
    exact Ax_rI rfl ⟨rfl, h0 μ' fr s0 hD no⟩
  have n42 : ∀ m c n, m < mct μ → dl μ n (m * 5 + 4) c → n ≤ 40 := fun m c n hm hd => dl_40 hT (by have := hT.m.2; omega) hd
  refine Ax_br rfl (fun hb => no0 (fun m c n k hm _ _ _ hd hk e => ?_) _) (fun hb => ?_)
  · have := n42 m c n hm hd
    rw [e] at hb
    exact nI_pos (by omega) hb
  · (repeat refine Ax_step rfl ?_)
    refine Ax_call rfl (c_wayLength hT' hD (fun m c n hm e hc e2 hd => ?_) (fun no => ?_))
    · rw [ts_mct hts] at hm
      rw [ts_kct hts] at hc
      have hd0 := (ts_dl hts _ _ _).mp hd
      have hn40 := n42 m c n hm hd0
      subst e
      subst e2
      have hm8 : m < 8 := by have := hT.m.2; omega
      have hc10 : c < 10 := by have := hT.k.2.2; omega
      refine Ax_br rfl (fun hb2 => no0 (fun m' c' n' k hm' e hc' e2 hd' hk ew => ?_) _) (fun hb2 => ?_)
      · have e3 := (nI_eq (by omega) (by have := hT.m.2; omega)).mp e
        have e4 := (nI_eq (by omega) (by have := hT.k.2.2; omega)).mp e2
        subst e3
        subst e4
        have := dl_fun hd0 hd'
        subst this
        rw [ew] at hb2
        exact nI_ge hk (by omega) hb2
      · obtain ⟨k, hk, ew⟩ := nI_yes (by omega) hb hb2
        subst ew
        (repeat refine Ax_step rfl ?_)
        refine Ax_br rfl (fun hb => absurd hb (by decide)) (fun _ => ?_)
        (repeat refine Ax_step rfl ?_)
        refine Ax_call rfl (c_wayPlace hT' hD hm8 hc10 (by omega) hd hk (fun p hp hpp => ?_))
        (repeat refine Ax_step rfl ?_)
        exact Ax_rI rfl ⟨rfl, h1 μ' m c n k p fr s0 hD hm rfl hc rfl hd0 hk rfl ((ts_pth hts c k _ p).mp hpp)⟩
    · simp only [ts_mct hts, ts_kct hts, ts_dl hts] at no
      refine Ax_br rfl (fun hb2 => no0 (fun m c n k hm e hc e2 hd _ _ => no m c n hm e hc e2 hd) _) (fun hb2 => absurd (Int32.not_lt.mp hb) hb2)
theorem c_is (hT : TI μ) (h1 : ∀ a b, a < kct μ → x = nI a → b < kct μ → y = nI b → Q (some (pI (bI (bt (μ 15 0 b) a)))) μ) (h0 : (∀ a b, a < kct μ → x = nI a → b < kct μ → y ≠ nI b) → Q (some (pI 0)) μ) : Cl 1 [pR 0 0, pI x, pI y] μ Q := by
  have hk := hT.k.2.2
  refine Cl_in rfl ?_
  (repeat refine Ax_step rfl ?_)
  refine Ax_call rfl (c_hasKind hT (fun a ha e => ?_) (fun no => ?_))
  · subst e
    refine Ax_br rfl (fun hb => absurd hb (by decide)) (fun _ => ?_)
    (repeat refine Ax_step rfl ?_)
    refine Ax_call rfl (c_hasKind hT (fun b hb e => ?_) (fun no => ?_))
    · subst e
      refine Ax_br rfl (fun hb => absurd hb (by decide)) (fun _ => ?_)
      (repeat refine Ax_step rfl ?_)
      refine Ax_call rfl (c_isOneOf (by omega) (by omega) ?_)
      have := h1 a b ha rfl hb rfl
      refine Ax_br rfl (fun hz => ?_) (fun hz => ?_)
      · (repeat refine Ax_step rfl ?_)
        rw [hz] at this
        exact Ax_rZ rfl (Or.inl rfl) ⟨rfl, this⟩
      · (repeat refine Ax_step rfl ?_)
        rw [show bI (bt (μ 15 0 b) a) = 1 by rcases bI_01 (bt (μ 15 0 b) a) with z | z; exact absurd z hz; exact z] at this
        exact Ax_rZ rfl (Or.inr rfl) ⟨rfl, this⟩
    · refine Ax_br rfl (fun _ => ?_) (fun hb => absurd rfl hb)
      (repeat refine Ax_step rfl ?_)
      exact Ax_rZ rfl (Or.inl rfl) ⟨rfl, h0 (fun _ b _ _ hb => no b hb)⟩
  · refine Ax_br rfl (fun _ => ?_) (fun hb => absurd rfl hb)
    (repeat refine Ax_step rfl ?_)
    exact Ax_rZ rfl (Or.inl rfl) ⟨rfl, h0 (fun a b ha e _ => absurd e (no a ha))⟩
theorem c_spent (h : Q (some (pI (μ 10 0 6))) μ) : Cl 12 [pR 0 0] μ Q := by
  refine Cl_in rfl ?_
  (repeat refine Ax_step rfl ?_)
  exact Ax_rI rfl ⟨rfl, h⟩
theorem c_escaped (h : Q (some (pI (μ 10 0 8))) μ) : Cl 13 [pR 0 0] μ Q := by
  refine Cl_in rfl ?_
  (repeat refine Ax_step rfl ?_)
  exact Ax_rI rfl ⟨rfl, h⟩
/-- method(): one more, as long as there are fewer than eight -/
theorem c_method (hT : TI μ) (h1 : mct μ < 8 → Q (some (pI (nI (mct μ)))) (pu μ 1 0 2 (nI (mct μ + 1)))) (h0 : mct μ = 8 → Q (some (pI (-1))) μ) : Cl 2 [pR 0 0] μ Q := by
  have hm := hT.m
  refine Cl_in rfl ?_
  (repeat refine Ax_step rfl ?_)
  refine Ax_call rfl (Cl_in rfl ?_)
  (repeat refine Ax_step rfl ?_)
  rw [hm.1]
  refine Ax_br rfl (fun hb => ?_) (fun hb => ?_)
  · have hlt : mct μ < 8 := (nI_ltI (by omega) (by omega)).mp hb
    (repeat refine Ax_step rfl ?_)
    refine Ax_rZ rfl (Or.inl rfl) ⟨rfl, ?_⟩
    refine Ax_br rfl (fun _ => ?_) (fun hb => absurd rfl hb)
    (repeat refine Ax_step rfl ?_)
    refine Ax_call rfl (Cl_in rfl ?_)
    (repeat refine Ax_step rfl ?_)
    rw [hm.1, nI_add]
    refine Ax_rI rfl ⟨rfl, ?_⟩
    (repeat refine Ax_step rfl ?_)
    exact Ax_rI rfl ⟨rfl, h1 hlt⟩
  · have hge : ¬ mct μ < 8 := fun z => hb (nI_lt z (by omega))
    (repeat refine Ax_step rfl ?_)
    refine Ax_rZ rfl (Or.inr rfl) ⟨rfl, ?_⟩
    refine Ax_br rfl (fun hb => absurd hb (by decide)) (fun _ => ?_)
    (repeat refine Ax_step rfl ?_)
    exact Ax_rI rfl ⟨rfl, h0 (by omega)⟩
end P17
