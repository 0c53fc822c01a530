/-! The law, as the small machine runs it. -/
theorem and15 (x : Int32) : ∃ k, k < 16 ∧ x &&& nI 15 = nI k := by
  refine ⟨(x &&& nI 15).toBitVec.toNat, ?_, ?_⟩
  · show (x.toBitVec &&& (nI 15).toBitVec).toNat < 16
    rw [BitVec.toNat_and]
    exact Nat.lt_of_le_of_lt Nat.and_le_right (by decide)
  · have h : (x &&& nI 15).toBitVec.toNat < 16 := by
      show (x.toBitVec &&& (nI 15).toBitVec).toNat < 16
      rw [BitVec.toNat_and]
      exact Nat.lt_of_le_of_lt Nat.and_le_right (by decide)
    generalize hy : x &&& nI 15 = y at h
    have e : (nI y.toBitVec.toNat).toInt = y.toInt := by
      rw [nI_toInt (by omega)]
      show _ = y.toBitVec.toInt
      rw [BitVec.toInt_eq_toNat_of_lt (by omega)]
    exact (Int32.toInt_inj.mp e).symm
theorem lw_cmp {L i : Nat} (hL : L < 2 ^ 31) (hi : i < 2 ^ 31) : (nI L - nI 6 < nI i) ↔ L < i + 6 := by
  rcases Nat.lt_or_ge L 6 with h | h
  · have h0 : nI L - nI 6 < 0 := by
      match L, h with
      | 0, _ => decide
      | 1, _ => decide
      | 2, _ => decide
      | 3, _ => decide
      | 4, _ => decide
      | 5, _ => decide
      | n + 6, h => omega
    have h1 : ¬ nI i < 0 := nI_pos hi
    exact ⟨fun _ => by omega, fun _ => Int32.lt_of_lt_of_le h0 (Int32.not_lt.mp h1)⟩
  · rw [pk_sub h, nI_ltI (by omega) hi]
    omega
theorem lw_cmp0 (x : Int32) : lg_cmp x.toInt64 x.toInt64 = 0 := by
  unfold lg_cmp
  simp
theorem LwP_ret {n : Nat} {lse : PL} {μ : PM} : LwP n 816 lse [pI 1] μ := by
  cases n with
  | zero => exact ⟨rfl, rfl⟩
  | succ n => exact Or.inl ⟨rfl, rfl⟩
def aIs (μ : PM) (x y v : Int32) : Prop := (∃ a b, a < kct μ ∧ x = nI a ∧ b < kct μ ∧ y = nI b ∧ v = bI (bt (μ 15 0 b) a)) ∨ ((∀ a b, a < kct μ → x = nI a → b < kct μ → y ≠ nI b) ∧ v = 0)
def aOut (μ : PM) (x v : Int32) : Prop := (∃ m, m < mct μ ∧ x = nI m ∧ thM μ (m * 5 + 4) v) ∨ ((∀ m, m < mct μ → x ≠ nI m) ∧ v = 0)
def aRai (μ : PM) (x y v : Int32) : Prop := (∃ m i, m < mct μ ∧ x = nI m ∧ i < szm μ m ∧ y = nI i ∧ raM μ m i v) ∨ ((∀ m i, m < mct μ → x = nI m → i < szm μ m → y ≠ nI i) ∧ v = 0)
def aCat (μ : PM) (x y v : Int32) : Prop := (∃ m i, m < mct μ ∧ x = nI m ∧ i < hcm μ m ∧ y = nI i ∧ thM μ (m * 5 + i) v) ∨ ((∀ m i, m < mct μ → x = nI m → i < hcm μ m → y ≠ nI i) ∧ v = 0)
def aWay (μ : PM) (x y v : Int32) : Prop := (∃ m c n, m < mct μ ∧ x = nI m ∧ c < kct μ ∧ y = nI c ∧ dl μ n (m * 5 + 4) c ∧ v = nI n) ∨ ((∀ m c n, m < mct μ → x = nI m → c < kct μ → y = nI c → ¬ dl μ n (m * 5 + 4) c) ∧ v = 0)
def aStp (μ : PM) (x y z v : Int32) : Prop := (∃ m c n k p, m < mct μ ∧ x = nI m ∧ c < kct μ ∧ y = nI c ∧ dl μ n (m * 5 + 4) c ∧ k < n ∧ z = nI k ∧ pth μ c k (m * 5 + 4) p ∧ v = nI p) ∨ ((∀ m c n k, m < mct μ → x = nI m → c < kct μ → y = nI c → dl μ n (m * 5 + 4) c → k < n → z ≠ nI k) ∧ v = -1)
section P33
variable {μ : PM} {x y z v v' : Int32}
theorem aIs_f (hT : TI μ) (h : aIs μ x y v) (g : aIs μ x y v') : v = v' := by
  have hk := hT.k
  rcases h with ⟨a, b, h1, h2, h3, h4, h5⟩ | ⟨no, h5⟩ <;> rcases g with ⟨a', b', g1, g2, g3, g4, g5⟩ | ⟨no', g5⟩
  · have e1 := (nI_eq (by omega) (by omega)).mp (h2.symm.trans g2)
    have e2 := (nI_eq (by omega) (by omega)).mp (h4.symm.trans g4)
    subst e1
    subst e2
    rw [h5, g5]
  · exact absurd h4 (no' a b h1 h2 h3)
  · exact absurd g4 (no a' b' g1 g2 g3)
  · rw [h5, g5]
theorem aOut_f (hT : TI μ) (h : aOut μ x v) (g : aOut μ x v') : v = v' := by
  have hk := hT.m
  rcases h with ⟨a, h1, h2, h5⟩ | ⟨no, h5⟩ <;> rcases g with ⟨a', g1, g2, g5⟩ | ⟨no', g5⟩
  · have e1 := (nI_eq (by omega) (by omega)).mp (h2.symm.trans g2)
    subst e1
    exact msk_eq h5 g5
  · exact absurd h2 (no' a h1)
  · exact absurd g2 (no a' g1)
  · rw [h5, g5]
theorem aRai_f (hT : TI μ) (h : aRai μ x y v) (g : aRai μ x y v') : v = v' := by
  have hk := hT.m
  rcases h with ⟨a, b, h1, h2, h3, h4, h5⟩ | ⟨no, h5⟩ <;> rcases g with ⟨a', b', g1, g2, g3, g4, g5⟩ | ⟨no', g5⟩
  · have e1 := (nI_eq (by omega) (by omega)).mp (h2.symm.trans g2)
    subst e1
    have hs := (hT.s (show a < 8 by omega)).2
    have e2 := (nI_eq (by omega) (by omega)).mp (h4.symm.trans g4)
    subst e2
    exact msk_eq h5 g5
  · exact absurd h4 (no' a b h1 h2 h3)
  · exact absurd g4 (no a' b' g1 g2 g3)
  · rw [h5, g5]
theorem aCat_f (hT : TI μ) (h : aCat μ x y v) (g : aCat μ x y v') : v = v' := by
  have hk := hT.m
  rcases h with ⟨a, b, h1, h2, h3, h4, h5⟩ | ⟨no, h5⟩ <;> rcases g with ⟨a', b', g1, g2, g3, g4, g5⟩ | ⟨no', g5⟩
  · have e1 := (nI_eq (by omega) (by omega)).mp (h2.symm.trans g2)
    subst e1
    have hs := (hT.h (show a < 8 by omega)).2
    have e2 := (nI_eq (by omega) (by omega)).mp (h4.symm.trans g4)
    subst e2
    exact msk_eq h5 g5
  · exact absurd h4 (no' a b h1 h2 h3)
  · exact absurd g4 (no a' b' g1 g2 g3)
  · rw [h5, g5]
theorem aWay_f (hT : TI μ) (h : aWay μ x y v) (g : aWay μ x y v') : v = v' := by
  have hk := hT.m
  have hk2 := hT.k
  rcases h with ⟨a, b, n, h1, h2, h3, h4, h5, h6⟩ | ⟨no, h5⟩ <;> rcases g with ⟨a', b', n', g1, g2, g3, g4, g5, g6⟩ | ⟨no', g5⟩
  · have e1 := (nI_eq (by omega) (by omega)).mp (h2.symm.trans g2)
    have e2 := (nI_eq (by omega) (by omega)).mp (h4.symm.trans g4)
    subst e1
    subst e2
    rw [h6, g6, dl_fun h5 g5]
  · exact absurd h5 (no' a b n h1 h2 h3 h4)
  · exact absurd g5 (no a' b' n' g1 g2 g3 g4)
  · rw [h5, g5]
theorem aStp_f (hT : TI μ) (h : aStp μ x y z v) (g : aStp μ x y z v') : v = v' := by
  have hk := hT.m
  have hk2 := hT.k
  rcases h with ⟨a, b, n, k, p, h1, h2, h3, h4, h5, h6, h7, h8, h9⟩ | ⟨no, h5⟩ <;> rcases g with ⟨a', b', n', k', p', g1, g2, g3, g4, g5, g6, g7, g8, g9⟩ | ⟨no', g5⟩
  · have e1 := (nI_eq (by omega) (by omega)).mp (h2.symm.trans g2)
    have e2 := (nI_eq (by omega) (by omega)).mp (h4.symm.trans g4)
    subst e1
    subst e2
    have e3 := dl_fun h5 g5
    subst e3
    have := dl_40 hT (by omega) h5
    have e4 := (nI_eq (by omega) (by omega)).mp (h7.symm.trans g7)
    subst e4
    rw [h9, g9, pth_fun k _ p p' h8 g8]
  · exact absurd h7 (no' a b n k h1 h2 h3 h4 h5 h6)
  · exact absurd g7 (no a' b' n' k' g1 g2 g3 g4 g5 g6)
  · rw [h5, g5]
end P33
/-- behind a question -/
theorem Rel.ask {L : Nat} {μ μ' μ'' : PM} (h : Rel L μ) (f : frF μ μ') (h0 : μ' 4 0 1 = 0) (hD : FD μ') (a : aR μ μ' μ'') : Rel L μ'' := by
  obtain ⟨⟨f1, f2⟩, a0, a13, hF⟩ := a
  have t1 := frF.ts f
  have t2 : ts μ' μ'' := ⟨fun m j => f1 1 m j (by omega) (by omega), fun m j => f1 2 m j (by omega) (by omega), fun m j => f1 15 m j (by omega) (by omega), fun t m j ht => f1 t m j (by omega) (by omega)⟩
  have e : ∀ t mm j, t ≠ 27 → t ≠ 16 → ¬ (4 ≤ t ∧ t ≤ 9) → μ'' t mm j = μ t mm j := fun t mm j a b c => (f1 t mm j a b).trans (f t mm j c)
  have e16 : ∀ j, j ≠ 13 → j ≠ 0 → μ'' 16 0 j = μ 16 0 j := fun j a b => (f2 j a b).trans (f 16 0 j (by omega))
  refine h.q (t1.tr t2) (fun t j a b => e t 0 j (by omega) (by omega) (by omega)) (e16 1 (by omega) (by omega)) (e16 3 (by omega) (by omega)) ?_ ?_ (e 38 0 0 (by omega) (by omega) (by omega)) (fun _ => FD_keep t2 (fun j => f1 5 0 j (by omega) (by omega)) (fun j => f1 6 0 j (by omega) (by omega)) (fun j => f1 7 0 j (by omega) (by omega)) hD) (fun _ => hF)
  · rw [e 10 0 6 (by omega) (by omega) (by omega), e16 20 (by omega) (by omega)]; exact h.2.2.2.2.2.1
  · rw [e 10 0 8 (by omega) (by omega) (by omega), e16 21 (by omega) (by omega)]; exact h.2.2.2.2.2.2.1
/-- behind a run -/
theorem Rel.run {L : Nat} {μ μ' μ'' μ3 : PM} {m f : Nat} {x : Int32} (h : Rel L μ) (p : rnP μ μ' m x f) (e : ∀ t mm j, t ≠ 34 → μ'' t mm j = μ' t mm j) (q : rnQ μ μ'' μ3 m x f) : Rel L μ3 := by
  obtain ⟨p1, p2, p3, -, -⟩ := p
  obtain ⟨⟨q1, q2⟩, q3, q4⟩ := q
  have e1 : ∀ t mm j, t ≠ 34 → t ≠ 16 → ¬ (28 ≤ t ∧ t ≤ 31) → ¬ (10 ≤ t ∧ t ≤ 14) → μ3 t mm j = μ t mm j := fun t mm j a b c d => (q1 t mm j b c).trans ((e t mm j a).trans (p1 t mm j d))
  have e16 : ∀ j, j ≠ 0 → j ≠ 15 → j ≠ 20 → j ≠ 21 → j ≠ 22 → μ3 16 0 j = μ 16 0 j := fun j a b c d g => (q2 j a b c d g).trans ((e 16 0 j (by omega)).trans (p1 16 0 j (by omega)))
  have hts : ts μ μ3 := ⟨fun m j => e1 1 m j (by omega) (by omega) (by omega) (by omega), fun m j => e1 2 m j (by omega) (by omega) (by omega) (by omega), fun m j => e1 15 m j (by omega) (by omega) (by omega) (by omega), fun t m j ht => e1 t m j (by omega) (by omega) (by omega) (by omega)⟩
  refine h.q hts (fun t j a b => e1 t 0 j (by omega) (by omega) (by omega) (by omega)) (e16 1 (by omega) (by omega) (by omega) (by omega) (by omega)) (e16 3 (by omega) (by omega) (by omega) (by omega) (by omega)) ?_ ?_ (e1 38 0 0 (by omega) (by omega) (by omega) (by omega)) (fun z => ?_) (fun z => ?_)
  · rw [q3, q1 10 0 6 (by omega) (by omega), e 10 0 6 (by omega)]; exact p2
  · rw [q4, q1 10 0 8 (by omega) (by omega), e 10 0 8 (by omega)]; exact p3
  · rw [e1 4 0 1 (by omega) (by omega) (by omega) (by omega)] at z
    exact FD_keep hts (fun j => e1 5 0 j (by omega) (by omega) (by omega) (by omega)) (fun j => e1 6 0 j (by omega) (by omega) (by omega) (by omega)) (fun j => e1 7 0 j (by omega) (by omega) (by omega) (by omega)) (h.2.2.2.1 z)
  · rw [e16 13 (by omega) (by omega) (by omega) (by omega) (by omega)] at z
    exact FM_keep (fun j => e1 27 0 j (by omega) (by omega) (by omega) (by omega)) (h.2.2.2.2.1 z)
set_option maxHeartbeats 4000000 in
theorem law_go {L : Nat} (hL : L < 2 ^ 30) : ∀ (r i : Nat) (μ : PM) (z5 z6 : Option PV), L < i + 6 * r + 6 → i ≤ L → Rel L μ → Bx 105 30 [some (pR 39 0), some (pR 0 0), some (pR 16 0), some (pR 34 0), some (pI (nI i)), z5, z6] [pI (μ 38 0 0 - nI 6), pI (nI i)] μ (LwP r) := by
  intro r
  induction r with
  | zero =>
    intro i μ z5 z6 hr hi hR
    rw [hR.2.2.2.2.2.2.2]
    refine Bx_br rfl (fun _ => ?_) (fun hb => absurd ((lw_cmp (by omega) (by omega)).mpr (by omega)) hb)
    (repeat refine Bx_step rfl ?_)
    exact Bx_end rfl rfl rfl rfl rfl rfl (by decide) LwP_ret
  | succ r ih =>
    intro i μ z5 z6 hr hi hR
    have h38 := hR.2.2.2.2.2.2.2
    rw [h38]
    refine Bx_br rfl (fun _ => ?_) (fun hb => ?_)
    · (repeat refine Bx_step rfl ?_)
      exact Bx_end rfl rfl rfl rfl rfl rfl (by decide) LwP_ret
    have h6 : ¬ L < i + 6 := fun z => hb ((lw_cmp (by omega) (by omega)).mpr z)
    have hL31 : L < 2 ^ 31 := by omega
    have hT := hR.1
    have hTR := hR.2.2.1
    have hfD := hR.2.2.2.1
    have hfM := hR.2.2.2.2.1
    have back0 : ∀ (μ' : PM) (z5 z6 : Option PV), Rel L μ' → Bx 105 809 [some (pR 39 0), some (pR 0 0), some (pR 16 0), some (pR 34 0), some (pI (nI i)), z5, z6] [] μ' (LwP r) := by
      intro μ' z5 z6 hR'
      (repeat refine Bx_step rfl ?_)
      rw [nI_add]
      exact ih (i + 6) μ' z5 z6 (by omega) (by omega) hR'
    have back : ∀ (μ' : PM) (z5 z6 : Option PV), Rel L μ' → Bx 105 809 [some (pR 39 0), some (pR 0 0), some (pR 16 0), some (pR 34 0), some (pI (nI i)), z5, z6] [] μ' (LwP (r + 1)) := fun μ' z5 z6 hR' => (back0 μ' z5 z6 hR').mono (LwP_up r)
    have kF : ∀ μ' : PM, frF μ μ' → TR μ μ' ∧ (μ' 16 0 13 = 0 → FM μ μ') ∧ μ' 38 0 0 = nI L ∧ ∀ j, μ' 39 0 j = μ 39 0 j := fun μ' f => ⟨hTR.keep (f 16 0 1 (by omega)) (f 16 0 3 (by omega)) (fun t j a b => f t 0 j (by omega)), fun z => FM_keep (fun j => f 27 0 j (by omega)) (hfM (by rw [f 16 0 13 (by omega)] at z; exact z)), by rw [f 38 0 0 (by omega)]; exact h38, fun j => f 39 0 j (by omega)⟩
    (repeat refine Bx_step rfl ?_)
    refine Bx_sc i rfl rfl h38 hL31 (by omega) ?_
    (repeat refine Bx_step rfl ?_)
    obtain ⟨k, hk16, hk⟩ := and15 (μ 39 0 i)
    rw [hk]
    refine Bx_sw rfl ?_
    rw [psw_at rfl (by omega) rfl]
    match k, hk16 with
    | 0, _ =>
      show Bx 105 112 _ _ _ _
      (repeat refine Bx_step rfl ?_)
      refine Bx_sc (i + 1) rfl (nI_add i 1) h38 hL31 (by omega) ?_
      (repeat refine Bx_step rfl ?_)
      refine Bx_end rfl rfl rfl rfl rfl rfl (by decide) (Or.inr ⟨0, wK, [pI (μ 39 0 (i + 1))], rfl, rfl, trivial, rfl, ?_⟩)
      unfold Wr
      refine t_kind hT (fun no => Or.inr ⟨_, rfl, ?_⟩) (fun p hp e h10 => Or.inr ⟨_, rfl, ?_⟩) (fun μ1 p hp e h10 ha => Or.inl ⟨rfl, _, rfl, ?_⟩)
      · show Bx 105 123 _ _ _ _
        (repeat refine Bx_step rfl ?_)
        refine Bx_sc (i + 1) rfl (nI_add i 1) h38 hL31 (by omega) ?_
        refine Bx_call rfl (r_kind hT hTR (fun _ => ?_) (fun p hp e => absurd e (no p hp)) (fun p hp e => absurd e (no p hp)))
        (repeat refine Bx_step rfl ?_)
        refine Bx_call rfl (r_thrown ?_)
        rw [pu_s]
        (repeat refine Bx_step rfl ?_)
        refine Bx_br rfl (fun _ => ?_) (fun hb => absurd rfl hb)
        (repeat refine Bx_step rfl ?_)
        refine Bx_br rfl (fun _ => ?_) (fun hb => absurd (by decide) hb)
        refine Bx_step rfl ?_
        exact back0 _ _ _ hR.th
      · show Bx 105 123 _ _ _ _
        (repeat refine Bx_step rfl ?_)
        refine Bx_sc (i + 1) rfl (nI_add i 1) h38 hL31 (by omega) ?_
        refine Bx_call rfl (r_kind hT hTR (fun no => absurd e (no p hp)) (fun _ _ _ _ => ?_) (fun _ _ _ h => by omega))
        (repeat refine Bx_step rfl ?_)
        refine Bx_call rfl (r_thrown ?_)
        rw [pu_s]
        (repeat refine Bx_step rfl ?_)
        refine Bx_br rfl (fun _ => ?_) (fun hb => absurd rfl hb)
        (repeat refine Bx_step rfl ?_)
        refine Bx_br rfl (fun _ => ?_) (fun hb => absurd (by decide) hb)
        refine Bx_step rfl ?_
        exact back0 _ _ _ hR.th
      · show Bx 105 123 _ _ _ _
        have k39 : ∀ j, pu μ1 34 0 0 (nI (kct μ)) 39 0 j = μ 39 0 j := fun j => by rw [pu_t (by omega)]; exact ha.1 39 0 j (by omega) (by omega)
        have k38 : pu μ1 34 0 0 (nI (kct μ)) 38 0 0 = nI L := by rw [pu_t (by omega), ha.1 38 0 0 (by omega) (by omega)]; exact h38
        have kTR : TR μ (pu μ1 34 0 0 (nI (kct μ))) := hTR.keep (by rw [pu_t (by omega)]; exact ha.1 16 0 1 (by omega) (by omega)) (by rw [pu_t (by omega)]; exact ha.1 16 0 3 (by omega) (by omega)) (fun t j _ _ => by rw [pu_t (by omega)]; exact ha.1 t 0 j (by omega) (by omega))
        (repeat refine Bx_step rfl ?_)
        refine Bx_sc (i + 1) rfl (nI_add i 1) k38 hL31 (by omega) ?_
        rw [k39]
        refine Bx_call rfl (r_kind hT kTR (fun no => absurd e (no p hp)) (fun _ _ _ h => by omega) (fun p' hp' e' _ => ?_))
        have ep := (nI_eq (by have := hT.k; omega) (by have := hT.k; omega)).mp (e.symm.trans e')
        subst ep
        (repeat refine Bx_step rfl ?_)
        refine Bx_call rfl (r_thrown ?_)
        rw [pu_j (by omega), pu_j (by omega), pu_t (by omega), pu_s]
        (repeat refine Bx_step rfl ?_)
        refine Bx_br rfl (fun _ => ?_) (fun hb => absurd rfl hb)
        (repeat refine Bx_step rfl ?_)
        refine Bx_br rfl (fun hb => absurd (by decide) hb) (fun _ => ?_)
        (repeat refine Bx_step rfl ?_)
        refine Bx_ll rfl rfl ?_
        rw [pu_t (by omega), pu_t (by omega), pu_t (by omega), pu_t (by omega), pu_s]
        (repeat refine Bx_step rfl ?_)
        rw [lw_cmp0]
        refine Bx_br rfl (fun _ => ?_) (fun hb => absurd rfl hb)
        refine Bx_step rfl ?_
        exact back0 _ _ _ (hR.kind hp h10 ha)
    | 1, _ =>
      show Bx 105 168 _ _ _ _
      (repeat refine Bx_step rfl ?_)
      refine Bx_sc (i + 1) rfl (nI_add i 1) h38 hL31 (by omega) ?_
      (repeat refine Bx_step rfl ?_)
      refine Bx_sc (i + 2) rfl (nI_add i 2) h38 hL31 (by omega) ?_
      have ans : ∀ v, aIs μ (μ 39 0 (i + 1)) (μ 39 0 (i + 2)) v → Bx 105 184 [some (pR 39 0), some (pR 0 0), some (pR 16 0), some (pR 34 0), some (pI (nI i)), z5, z6] (ppu (some (pI v)) []) μ (LwP (r + 1)) := by
        intro v hv
        (repeat refine Bx_step rfl ?_)
        refine Bx_sc (i + 1) rfl (nI_add i 1) h38 hL31 (by omega) ?_
        (repeat refine Bx_step rfl ?_)
        refine Bx_sc (i + 2) rfl (nI_add i 2) h38 hL31 (by omega) ?_
        have fin : ∀ v', aIs μ (μ 39 0 (i + 1)) (μ 39 0 (i + 2)) v' → Bx 105 200 [some (pR 39 0), some (pR 0 0), some (pR 16 0), some (pR 34 0), some (pI (nI i)), z5, z6] (ppu (some (pI v')) [pI v]) (pu μ 16 0 0 (nI 0)) (LwP (r + 1)) := by
          intro v' hv'
          have e := aIs_f hT hv hv'
          subst e
          refine Bx_br rfl (fun _ => ?_) (fun hb => absurd rfl hb)
          exact back _ _ _ hR.th
        exact Bx_call rfl (r_is hT hTR (fun a b h1 h2 h3 h4 => fin _ (Or.inl ⟨a, b, h1, h2, h3, h4, rfl⟩)) (fun no => fin _ (Or.inr ⟨no, rfl⟩)))
      exact Bx_call rfl (c_is hT (fun a b h1 h2 h3 h4 => ans _ (Or.inl ⟨a, b, h1, h2, h3, h4, rfl⟩)) (fun no => ans _ (Or.inr ⟨no, rfl⟩)))
    | 2, _ =>
      show Bx 105 205 _ _ _ _
      (repeat refine Bx_step rfl ?_)
      refine Bx_call rfl (c_method hT (fun h8 => ?_) (fun h8 => ?_))
      · have kTR : TR μ (pu μ 1 0 2 (nI (mct μ + 1))) := hTR.keep (pu_t (by omega)) (pu_t (by omega)) (fun t j _ _ => pu_t (by omega))
        (repeat refine Bx_step rfl ?_)
        refine Bx_call rfl (r_method hT kTR (fun h => by omega) (fun _ => ?_))
        refine Bx_br rfl (fun _ => ?_) (fun hb => absurd rfl hb)
        exact back _ _ _ (hR.method h8)
      · (repeat refine Bx_step rfl ?_)
        refine Bx_call rfl (r_method hT hTR (fun _ => ?_) (fun h => by omega))
        refine Bx_br rfl (fun _ => ?_) (fun hb => absurd rfl hb)
        exact back _ _ _ hR.th
    | 3, _ =>
      show Bx 105 218 _ _ _ _
      (repeat refine Bx_step rfl ?_)
      refine Bx_sc (i + 1) rfl (nI_add i 1) h38 hL31 (by omega) ?_
      (repeat refine Bx_step rfl ?_)
      refine Bx_sc (i + 2) rfl (nI_add i 2) h38 hL31 (by omega) ?_
      (repeat refine Bx_step rfl ?_)
      refine Bx_sc (i + 3) rfl (nI_add i 3) h38 hL31 (by omega) ?_
      (repeat refine Bx_step rfl ?_)
      refine Bx_sc (i + 4) rfl (nI_add i 4) h38 hL31 (by omega) ?_
      (repeat refine Bx_step rfl ?_)
      refine Bx_end rfl rfl rfl rfl rfl rfl (by decide) (Or.inr ⟨3, wA, [pI (μ 39 0 (i + 1)), pI (μ 39 0 (i + 2)), pI (μ 39 0 (i + 3)), pI (μ 39 0 (i + 4))], rfl, rfl, trivial, rfl, ?_⟩)
      unfold Wr
      refine t_add hT (fun no => Or.inr ⟨_, rfl, ?_⟩) (fun m hm e hs => Or.inr ⟨_, rfl, ?_⟩) (fun m hm e hs hv => Or.inr ⟨_, rfl, ?_⟩) (fun m hm e hs hv => Or.inl ⟨rfl, _, rfl, ?_⟩)
      · show Bx 105 247 _ _ _ _
        (repeat refine Bx_step rfl ?_)
        refine Bx_sc (i + 1) rfl (nI_add i 1) h38 hL31 (by omega) ?_
        (repeat refine Bx_step rfl ?_)
        refine Bx_sc (i + 2) rfl (nI_add i 2) h38 hL31 (by omega) ?_
        (repeat refine Bx_step rfl ?_)
        refine Bx_sc (i + 3) rfl (nI_add i 3) h38 hL31 (by omega) ?_
        (repeat refine Bx_step rfl ?_)
        refine Bx_sc (i + 4) rfl (nI_add i 4) h38 hL31 (by omega) ?_
        refine Bx_call rfl (r_add hT hTR (fun _ => ?_) (fun m hm e => absurd e (no m hm)) (fun m hm e => absurd e (no m hm)) (fun m hm e => absurd e (no m hm)))
        (repeat refine Bx_step rfl ?_)
        refine Bx_call rfl (r_thrown ?_)
        rw [pu_s]
        (repeat refine Bx_step rfl ?_)
        refine Bx_br rfl (fun _ => ?_) (fun hb => absurd rfl hb)
        (repeat refine Bx_step rfl ?_)
        refine Bx_br rfl (fun _ => ?_) (fun hb => absurd (by decide) hb)
        refine Bx_step rfl ?_
        exact back0 _ _ _ hR.th
      · show Bx 105 247 _ _ _ _
        (repeat refine Bx_step rfl ?_)
        refine Bx_sc (i + 1) rfl (nI_add i 1) h38 hL31 (by omega) ?_
        (repeat refine Bx_step rfl ?_)
        refine Bx_sc (i + 2) rfl (nI_add i 2) h38 hL31 (by omega) ?_
        (repeat refine Bx_step rfl ?_)
        refine Bx_sc (i + 3) rfl (nI_add i 3) h38 hL31 (by omega) ?_
        (repeat refine Bx_step rfl ?_)
        refine Bx_sc (i + 4) rfl (nI_add i 4) h38 hL31 (by omega) ?_
        refine Bx_call rfl (r_add hT hTR (fun no => absurd e (no m hm)) (fun _ _ _ _ => ?_) (fun m' hm' e' h => by have := (nI_eq (by have := hT.m; omega) (by have := hT.m; omega)).mp (e.symm.trans e'); subst this; omega) (fun m' hm' e' h => by have := (nI_eq (by have := hT.m; omega) (by have := hT.m; omega)).mp (e.symm.trans e'); subst this; omega))
        (repeat refine Bx_step rfl ?_)
        refine Bx_call rfl (r_thrown ?_)
        rw [pu_s]
        (repeat refine Bx_step rfl ?_)
        refine Bx_br rfl (fun _ => ?_) (fun hb => absurd rfl hb)
        (repeat refine Bx_step rfl ?_)
        refine Bx_br rfl (fun _ => ?_) (fun hb => absurd (by decide) hb)
        refine Bx_step rfl ?_
        exact back0 _ _ _ hR.th
      · show Bx 105 247 _ _ _ _
        (repeat refine Bx_step rfl ?_)
        refine Bx_sc (i + 1) rfl (nI_add i 1) h38 hL31 (by omega) ?_
        (repeat refine Bx_step rfl ?_)
        refine Bx_sc (i + 2) rfl (nI_add i 2) h38 hL31 (by omega) ?_
        (repeat refine Bx_step rfl ?_)
        refine Bx_sc (i + 3) rfl (nI_add i 3) h38 hL31 (by omega) ?_
        (repeat refine Bx_step rfl ?_)
        refine Bx_sc (i + 4) rfl (nI_add i 4) h38 hL31 (by omega) ?_
        refine Bx_call rfl (r_add hT hTR (fun no => absurd e (no m hm)) (fun m' hm' e' h => by have := (nI_eq (by have := hT.m; omega) (by have := hT.m; omega)).mp (e.symm.trans e'); subst this; omega) (fun _ _ _ _ _ => ?_) (fun _ _ _ _ h => absurd h hv))
        (repeat refine Bx_step rfl ?_)
        refine Bx_call rfl (r_thrown ?_)
        rw [pu_s]
        (repeat refine Bx_step rfl ?_)
        refine Bx_br rfl (fun _ => ?_) (fun hb => absurd rfl hb)
        (repeat refine Bx_step rfl ?_)
        refine Bx_br rfl (fun _ => ?_) (fun hb => absurd (by decide) hb)
        refine Bx_step rfl ?_
        exact back0 _ _ _ hR.th
      · show Bx 105 247 _ _ _ _
        unfold puI
        have kA : ∀ t mm j, t < 40 → t ≠ 4 → t ≠ 34 → pu (pu (pu (pu (pu (pu μ 4 0 1 1) 40 m 3 (nI (szm μ m + 1))) 41 m (szm μ m) (μ 39 0 (i + 2))) 42 m (szm μ m) (μ 39 0 (i + 3))) 43 m (szm μ m) (μ 39 0 (i + 4))) 34 0 0 (nI (szm μ m)) t mm j = μ t mm j := fun t mm j a1 a2 a3 => by rw [pu_t (by omega), pu_t (by omega), pu_t (by omega), pu_t (by omega), pu_t (by omega), pu_t (by omega)]
        have kTR : TR μ (pu (pu (pu (pu (pu (pu μ 4 0 1 1) 40 m 3 (nI (szm μ m + 1))) 41 m (szm μ m) (μ 39 0 (i + 2))) 42 m (szm μ m) (μ 39 0 (i + 3))) 43 m (szm μ m) (μ 39 0 (i + 4))) 34 0 0 (nI (szm μ m))) := hTR.keep (kA 16 0 1 (by omega) (by omega) (by omega)) (kA 16 0 3 (by omega) (by omega) (by omega)) (fun t j _ _ => kA t 0 j (by omega) (by omega) (by omega))
        have k38 : pu (pu (pu (pu (pu (pu μ 4 0 1 1) 40 m 3 (nI (szm μ m + 1))) 41 m (szm μ m) (μ 39 0 (i + 2))) 42 m (szm μ m) (μ 39 0 (i + 3))) 43 m (szm μ m) (μ 39 0 (i + 4))) 34 0 0 (nI (szm μ m)) 38 0 0 = nI L := by rw [kA 38 0 0 (by omega) (by omega) (by omega)]; exact h38
        have k39 : ∀ j, pu (pu (pu (pu (pu (pu μ 4 0 1 1) 40 m 3 (nI (szm μ m + 1))) 41 m (szm μ m) (μ 39 0 (i + 2))) 42 m (szm μ m) (μ 39 0 (i + 3))) 43 m (szm μ m) (μ 39 0 (i + 4))) 34 0 0 (nI (szm μ m)) 39 0 j = μ 39 0 j := fun j => kA 39 0 j (by omega) (by omega) (by omega)
        (repeat refine Bx_step rfl ?_)
        refine Bx_sc (i + 1) rfl (nI_add i 1) k38 hL31 (by omega) ?_
        rw [k39]
        (repeat refine Bx_step rfl ?_)
        refine Bx_sc (i + 2) rfl (nI_add i 2) k38 hL31 (by omega) ?_
        rw [k39]
        (repeat refine Bx_step rfl ?_)
        refine Bx_sc (i + 3) rfl (nI_add i 3) k38 hL31 (by omega) ?_
        rw [k39]
        (repeat refine Bx_step rfl ?_)
        refine Bx_sc (i + 4) rfl (nI_add i 4) k38 hL31 (by omega) ?_
        rw [k39]
        refine Bx_call rfl (r_add hT kTR (fun no => absurd e (no m hm)) (fun m' hm' e' h => by have := (nI_eq (by have := hT.m; omega) (by have := hT.m; omega)).mp (e.symm.trans e'); subst this; omega) (fun _ _ _ _ h => absurd hv h) (fun m' hm' e' _ _ => ?_))
        have := (nI_eq (by have := hT.m; omega) (by have := hT.m; omega)).mp (e.symm.trans e'); subst this
        have hRel := hR.add (v := nI (szm μ m)) (w := nI 0) hm hs hv
        unfold puW puI at hRel
        unfold puW
        (repeat refine Bx_step rfl ?_)
        refine Bx_call rfl (r_thrown ?_)
        rw [pu_t (by omega), pu_j (by omega), pu_t (by omega), pu_t (by omega), pu_t (by omega), pu_s]
        (repeat refine Bx_step rfl ?_)
        refine Bx_br rfl (fun _ => ?_) (fun hb => absurd rfl hb)
        (repeat refine Bx_step rfl ?_)
        refine Bx_br rfl (fun hb => absurd (by decide) hb) (fun _ => ?_)
        (repeat refine Bx_step rfl ?_)
        refine Bx_ll rfl rfl ?_
        rw [pu_t (by omega), pu_t (by omega), pu_t (by omega), pu_t (by omega), pu_t (by omega), pu_t (by omega), pu_s]
        (repeat refine Bx_step rfl ?_)
        rw [lw_cmp0]
        refine Bx_br rfl (fun _ => ?_) (fun hb => absurd rfl hb)
        refine Bx_step rfl ?_
        exact back0 _ _ _ hRel
    | 4, _ =>
      show Bx 105 310 _ _ _ _
      (repeat refine Bx_step rfl ?_)
      refine Bx_sc (i + 1) rfl (nI_add i 1) h38 hL31 (by omega) ?_
      (repeat refine Bx_step rfl ?_)
      refine Bx_sc (i + 2) rfl (nI_add i 2) h38 hL31 (by omega) ?_
      (repeat refine Bx_step rfl ?_)
      refine Bx_sc (i + 3) rfl (nI_add i 3) h38 hL31 (by omega) ?_
      (repeat refine Bx_step rfl ?_)
      refine Bx_sc (i + 4) rfl (nI_add i 4) h38 hL31 (by omega) ?_
      (repeat refine Bx_step rfl ?_)
      refine Bx_sc (i + 5) rfl (nI_add i 5) h38 hL31 (by omega) ?_
      (repeat refine Bx_step rfl ?_)
      refine Bx_end rfl rfl rfl rfl rfl rfl (by decide) (Or.inr ⟨4, wA, [pI (μ 39 0 (i + 1)), pI (μ 39 0 (i + 2)), pI (μ 39 0 (i + 3)), pI (μ 39 0 (i + 4)), pI (μ 39 0 (i + 5))], rfl, rfl, trivial, rfl, ?_⟩)
      unfold Wr
      refine t_handler hT (fun no => Or.inr ⟨_, rfl, ?_⟩) (fun m hm e hs => Or.inr ⟨_, rfl, ?_⟩) (fun m hm e hs hv => Or.inr ⟨_, rfl, ?_⟩) (fun m hm e hs hv hfl => Or.inl ⟨rfl, _, rfl, ?_⟩)
      · show Bx 105 345 _ _ _ _
        (repeat refine Bx_step rfl ?_)
        refine Bx_sc (i + 1) rfl (nI_add i 1) h38 hL31 (by omega) ?_
        (repeat refine Bx_step rfl ?_)
        refine Bx_sc (i + 2) rfl (nI_add i 2) h38 hL31 (by omega) ?_
        (repeat refine Bx_step rfl ?_)
        refine Bx_sc (i + 3) rfl (nI_add i 3) h38 hL31 (by omega) ?_
        (repeat refine Bx_step rfl ?_)
        refine Bx_sc (i + 4) rfl (nI_add i 4) h38 hL31 (by omega) ?_
        (repeat refine Bx_step rfl ?_)
        refine Bx_sc (i + 5) rfl (nI_add i 5) h38 hL31 (by omega) ?_
        refine Bx_call rfl (r_handler hT hTR (fun _ => ?_) (fun m hm e => absurd e (no m hm)) (fun m hm e => absurd e (no m hm)) (fun m hm e => absurd e (no m hm)))
        (repeat refine Bx_step rfl ?_)
        refine Bx_call rfl (r_thrown ?_)
        rw [pu_s]
        (repeat refine Bx_step rfl ?_)
        refine Bx_br rfl (fun _ => ?_) (fun hb => absurd rfl hb)
        (repeat refine Bx_step rfl ?_)
        refine Bx_br rfl (fun _ => ?_) (fun hb => absurd (by decide) hb)
        refine Bx_step rfl ?_
        exact back0 _ _ _ hR.th
      · show Bx 105 345 _ _ _ _
        (repeat refine Bx_step rfl ?_)
        refine Bx_sc (i + 1) rfl (nI_add i 1) h38 hL31 (by omega) ?_
        (repeat refine Bx_step rfl ?_)
        refine Bx_sc (i + 2) rfl (nI_add i 2) h38 hL31 (by omega) ?_
        (repeat refine Bx_step rfl ?_)
        refine Bx_sc (i + 3) rfl (nI_add i 3) h38 hL31 (by omega) ?_
        (repeat refine Bx_step rfl ?_)
        refine Bx_sc (i + 4) rfl (nI_add i 4) h38 hL31 (by omega) ?_
        (repeat refine Bx_step rfl ?_)
        refine Bx_sc (i + 5) rfl (nI_add i 5) h38 hL31 (by omega) ?_
        refine Bx_call rfl (r_handler hT hTR (fun no => absurd e (no m hm)) (fun _ _ _ _ => ?_) (fun m' hm' e' h => by have := (nI_eq (by have := hT.m; omega) (by have := hT.m; omega)).mp (e.symm.trans e'); subst this; omega) (fun m' hm' e' h => by have := (nI_eq (by have := hT.m; omega) (by have := hT.m; omega)).mp (e.symm.trans e'); subst this; omega))
        (repeat refine Bx_step rfl ?_)
        refine Bx_call rfl (r_thrown ?_)
        rw [pu_s]
        (repeat refine Bx_step rfl ?_)
        refine Bx_br rfl (fun _ => ?_) (fun hb => absurd rfl hb)
        (repeat refine Bx_step rfl ?_)
        refine Bx_br rfl (fun _ => ?_) (fun hb => absurd (by decide) hb)
        refine Bx_step rfl ?_
        exact back0 _ _ _ hR.th
      · show Bx 105 345 _ _ _ _
        (repeat refine Bx_step rfl ?_)
        refine Bx_sc (i + 1) rfl (nI_add i 1) h38 hL31 (by omega) ?_
        (repeat refine Bx_step rfl ?_)
        refine Bx_sc (i + 2) rfl (nI_add i 2) h38 hL31 (by omega) ?_
        (repeat refine Bx_step rfl ?_)
        refine Bx_sc (i + 3) rfl (nI_add i 3) h38 hL31 (by omega) ?_
        (repeat refine Bx_step rfl ?_)
        refine Bx_sc (i + 4) rfl (nI_add i 4) h38 hL31 (by omega) ?_
        (repeat refine Bx_step rfl ?_)
        refine Bx_sc (i + 5) rfl (nI_add i 5) h38 hL31 (by omega) ?_
        refine Bx_call rfl (r_handler hT hTR (fun no => absurd e (no m hm)) (fun m' hm' e' h => by have := (nI_eq (by have := hT.m; omega) (by have := hT.m; omega)).mp (e.symm.trans e'); subst this; omega) (fun _ _ _ _ _ => ?_) (fun _ _ _ _ h h2 => absurd ⟨h, h2⟩ hv))
        (repeat refine Bx_step rfl ?_)
        refine Bx_call rfl (r_thrown ?_)
        rw [pu_s]
        (repeat refine Bx_step rfl ?_)
        refine Bx_br rfl (fun _ => ?_) (fun hb => absurd rfl hb)
        (repeat refine Bx_step rfl ?_)
        refine Bx_br rfl (fun _ => ?_) (fun hb => absurd (by decide) hb)
        refine Bx_step rfl ?_
        exact back0 _ _ _ hR.th
      · show Bx 105 345 _ _ _ _
        unfold puH
        have kA : ∀ t mm j, t < 40 → t ≠ 4 → t ≠ 34 → pu (pu (pu (pu (pu (pu (pu μ 4 0 1 1) 40 m 8 (nI (hcm μ m + 1))) 44 m (hcm μ m) (μ 39 0 (i + 2))) 45 m (hcm μ m) (μ 39 0 (i + 3))) 46 m (hcm μ m) (μ 39 0 (i + 4))) 47 m (hcm μ m) (μ 39 0 (i + 5))) 34 0 0 (nI (hcm μ m)) t mm j = μ t mm j := fun t mm j a1 a2 a3 => by rw [pu_t (by omega), pu_t (by omega), pu_t (by omega), pu_t (by omega), pu_t (by omega), pu_t (by omega), pu_t (by omega)]
        have kTR : TR μ (pu (pu (pu (pu (pu (pu (pu μ 4 0 1 1) 40 m 8 (nI (hcm μ m + 1))) 44 m (hcm μ m) (μ 39 0 (i + 2))) 45 m (hcm μ m) (μ 39 0 (i + 3))) 46 m (hcm μ m) (μ 39 0 (i + 4))) 47 m (hcm μ m) (μ 39 0 (i + 5))) 34 0 0 (nI (hcm μ m))) := hTR.keep (kA 16 0 1 (by omega) (by omega) (by omega)) (kA 16 0 3 (by omega) (by omega) (by omega)) (fun t j _ _ => kA t 0 j (by omega) (by omega) (by omega))
        have k38 : pu (pu (pu (pu (pu (pu (pu μ 4 0 1 1) 40 m 8 (nI (hcm μ m + 1))) 44 m (hcm μ m) (μ 39 0 (i + 2))) 45 m (hcm μ m) (μ 39 0 (i + 3))) 46 m (hcm μ m) (μ 39 0 (i + 4))) 47 m (hcm μ m) (μ 39 0 (i + 5))) 34 0 0 (nI (hcm μ m)) 38 0 0 = nI L := by rw [kA 38 0 0 (by omega) (by omega) (by omega)]; exact h38
        have k39 : ∀ j, pu (pu (pu (pu (pu (pu (pu μ 4 0 1 1) 40 m 8 (nI (hcm μ m + 1))) 44 m (hcm μ m) (μ 39 0 (i + 2))) 45 m (hcm μ m) (μ 39 0 (i + 3))) 46 m (hcm μ m) (μ 39 0 (i + 4))) 47 m (hcm μ m) (μ 39 0 (i + 5))) 34 0 0 (nI (hcm μ m)) 39 0 j = μ 39 0 j := fun j => kA 39 0 j (by omega) (by omega) (by omega)
        (repeat refine Bx_step rfl ?_)
        refine Bx_sc (i + 1) rfl (nI_add i 1) k38 hL31 (by omega) ?_
        rw [k39]
        (repeat refine Bx_step rfl ?_)
        refine Bx_sc (i + 2) rfl (nI_add i 2) k38 hL31 (by omega) ?_
        rw [k39]
        (repeat refine Bx_step rfl ?_)
        refine Bx_sc (i + 3) rfl (nI_add i 3) k38 hL31 (by omega) ?_
        rw [k39]
        (repeat refine Bx_step rfl ?_)
        refine Bx_sc (i + 4) rfl (nI_add i 4) k38 hL31 (by omega) ?_
        rw [k39]
        (repeat refine Bx_step rfl ?_)
        refine Bx_sc (i + 5) rfl (nI_add i 5) k38 hL31 (by omega) ?_
        rw [k39]
        refine Bx_call rfl (r_handler hT kTR (fun no => absurd e (no m hm)) (fun m' hm' e' h => by have := (nI_eq (by have := hT.m; omega) (by have := hT.m; omega)).mp (e.symm.trans e'); subst this; omega) (fun _ _ _ _ h => absurd ⟨hv, hfl⟩ h) (fun m' hm' e' _ _ _ => ?_))
        have := (nI_eq (by have := hT.m; omega) (by have := hT.m; omega)).mp (e.symm.trans e'); subst this
        have hRel := hR.handler (v := nI (hcm μ m)) (w := nI 0) hm hs hv
        unfold puG puH at hRel
        unfold puG
        (repeat refine Bx_step rfl ?_)
        refine Bx_call rfl (r_thrown ?_)
        rw [pu_j (by omega), pu_t (by omega), pu_t (by omega), pu_t (by omega), pu_t (by omega), pu_t (by omega), pu_s]
        (repeat refine Bx_step rfl ?_)
        refine Bx_br rfl (fun _ => ?_) (fun hb => absurd rfl hb)
        (repeat refine Bx_step rfl ?_)
        refine Bx_br rfl (fun hb => absurd (by decide) hb) (fun _ => ?_)
        (repeat refine Bx_step rfl ?_)
        refine Bx_ll rfl rfl ?_
        rw [pu_t (by omega), pu_t (by omega), pu_t (by omega), pu_t (by omega), pu_t (by omega), pu_t (by omega), pu_t (by omega), pu_s]
        (repeat refine Bx_step rfl ?_)
        rw [lw_cmp0]
        refine Bx_br rfl (fun _ => ?_) (fun hb => absurd rfl hb)
        refine Bx_step rfl ?_
        exact back0 _ _ _ hRel
    | 5, _ =>
      show Bx 105 414 _ _ _ _
      (repeat refine Bx_step rfl ?_)
      refine Bx_sc (i + 1) rfl (nI_add i 1) h38 hL31 (by omega) ?_
      (repeat refine Bx_step rfl ?_)
      refine Bx_sc (i + 2) rfl (nI_add i 2) h38 hL31 (by omega) ?_
      (repeat refine Bx_step rfl ?_)
      refine Bx_sc (i + 3) rfl (nI_add i 3) h38 hL31 (by omega) ?_
      (repeat refine Bx_step rfl ?_)
      refine Bx_sc (i + 4) rfl (nI_add i 4) h38 hL31 (by omega) ?_
      (repeat refine Bx_step rfl ?_)
      refine Bx_sc (i + 5) rfl (nI_add i 5) h38 hL31 (by omega) ?_
      (repeat refine Bx_step rfl ?_)
      refine Bx_end rfl rfl rfl rfl rfl rfl (by decide) (Or.inr ⟨5, wC, [pI (μ 39 0 (i + 1)), pI (μ 39 0 (i + 2)), pI (μ 39 0 (i + 3)), pI (μ 39 0 (i + 4)), pI (μ 39 0 (i + 5))], rfl, rfl, trivial, rfl, ?_⟩)
      unfold Wr
      refine t_change hT (fun no => Or.inr ⟨_, rfl, ?_⟩) (fun m n hm e hn e2 hv => Or.inr ⟨_, rfl, ?_⟩) (fun m n hm e hn e2 hv => Or.inl ⟨rfl, _, rfl, ?_⟩)
      · show Bx 105 449 _ _ _ _
        (repeat refine Bx_step rfl ?_)
        refine Bx_sc (i + 1) rfl (nI_add i 1) h38 hL31 (by omega) ?_
        (repeat refine Bx_step rfl ?_)
        refine Bx_sc (i + 2) rfl (nI_add i 2) h38 hL31 (by omega) ?_
        (repeat refine Bx_step rfl ?_)
        refine Bx_sc (i + 3) rfl (nI_add i 3) h38 hL31 (by omega) ?_
        (repeat refine Bx_step rfl ?_)
        refine Bx_sc (i + 4) rfl (nI_add i 4) h38 hL31 (by omega) ?_
        (repeat refine Bx_step rfl ?_)
        refine Bx_sc (i + 5) rfl (nI_add i 5) h38 hL31 (by omega) ?_
        refine Bx_call rfl (r_change hT hTR (fun _ => ?_) (fun m n hm e hn e2 => absurd e2 (no m n hm e hn)) (fun m n hm e hn e2 => absurd e2 (no m n hm e hn)))
        (repeat refine Bx_step rfl ?_)
        refine Bx_call rfl (r_thrown ?_)
        rw [pu_s]
        (repeat refine Bx_step rfl ?_)
        refine Bx_br rfl (fun _ => ?_) (fun hb => absurd rfl hb)
        (repeat refine Bx_step rfl ?_)
        refine Bx_br rfl (fun _ => ?_) (fun hb => absurd (by decide) hb)
        refine Bx_step rfl ?_
        exact back0 _ _ _ hR.th
      · show Bx 105 449 _ _ _ _
        (repeat refine Bx_step rfl ?_)
        refine Bx_sc (i + 1) rfl (nI_add i 1) h38 hL31 (by omega) ?_
        (repeat refine Bx_step rfl ?_)
        refine Bx_sc (i + 2) rfl (nI_add i 2) h38 hL31 (by omega) ?_
        (repeat refine Bx_step rfl ?_)
        refine Bx_sc (i + 3) rfl (nI_add i 3) h38 hL31 (by omega) ?_
        (repeat refine Bx_step rfl ?_)
        refine Bx_sc (i + 4) rfl (nI_add i 4) h38 hL31 (by omega) ?_
        (repeat refine Bx_step rfl ?_)
        refine Bx_sc (i + 5) rfl (nI_add i 5) h38 hL31 (by omega) ?_
        refine Bx_call rfl (r_change hT hTR (fun no => absurd e2 (no m n hm e hn)) (fun _ _ _ _ _ _ _ => ?_) (fun _ _ _ _ _ _ h => absurd h hv))
        (repeat refine Bx_step rfl ?_)
        refine Bx_call rfl (r_thrown ?_)
        rw [pu_s]
        (repeat refine Bx_step rfl ?_)
        refine Bx_br rfl (fun _ => ?_) (fun hb => absurd rfl hb)
        (repeat refine Bx_step rfl ?_)
        refine Bx_br rfl (fun _ => ?_) (fun hb => absurd (by decide) hb)
        refine Bx_step rfl ?_
        exact back0 _ _ _ hR.th
      · show Bx 105 449 _ _ _ _
        unfold puI
        have kA : ∀ t mm j, t < 40 → t ≠ 4 → t ≠ 34 → pu (pu (pu (pu (pu μ 41 m n (μ 39 0 (i + 3))) 42 m n (μ 39 0 (i + 4))) 43 m n (μ 39 0 (i + 5))) 4 0 1 1) 34 0 0 (μ 41 m n) t mm j = μ t mm j := fun t mm j a1 a2 a3 => by rw [pu_t (by omega), pu_t (by omega), pu_t (by omega), pu_t (by omega), pu_t (by omega)]
        have kTR : TR μ (pu (pu (pu (pu (pu μ 41 m n (μ 39 0 (i + 3))) 42 m n (μ 39 0 (i + 4))) 43 m n (μ 39 0 (i + 5))) 4 0 1 1) 34 0 0 (μ 41 m n)) := hTR.keep (kA 16 0 1 (by omega) (by omega) (by omega)) (kA 16 0 3 (by omega) (by omega) (by omega)) (fun t j _ _ => kA t 0 j (by omega) (by omega) (by omega))
        have k38 : pu (pu (pu (pu (pu μ 41 m n (μ 39 0 (i + 3))) 42 m n (μ 39 0 (i + 4))) 43 m n (μ 39 0 (i + 5))) 4 0 1 1) 34 0 0 (μ 41 m n) 38 0 0 = nI L := by rw [kA 38 0 0 (by omega) (by omega) (by omega)]; exact h38
        have k39 : ∀ j, pu (pu (pu (pu (pu μ 41 m n (μ 39 0 (i + 3))) 42 m n (μ 39 0 (i + 4))) 43 m n (μ 39 0 (i + 5))) 4 0 1 1) 34 0 0 (μ 41 m n) 39 0 j = μ 39 0 j := fun j => kA 39 0 j (by omega) (by omega) (by omega)
        (repeat refine Bx_step rfl ?_)
        refine Bx_sc (i + 1) rfl (nI_add i 1) k38 hL31 (by omega) ?_
        rw [k39]
        (repeat refine Bx_step rfl ?_)
        refine Bx_sc (i + 2) rfl (nI_add i 2) k38 hL31 (by omega) ?_
        rw [k39]
        (repeat refine Bx_step rfl ?_)
        refine Bx_sc (i + 3) rfl (nI_add i 3) k38 hL31 (by omega) ?_
        rw [k39]
        (repeat refine Bx_step rfl ?_)
        refine Bx_sc (i + 4) rfl (nI_add i 4) k38 hL31 (by omega) ?_
        rw [k39]
        (repeat refine Bx_step rfl ?_)
        refine Bx_sc (i + 5) rfl (nI_add i 5) k38 hL31 (by omega) ?_
        rw [k39]
        refine Bx_call rfl (r_change hT kTR (fun no => absurd e2 (no m n hm e hn)) (fun _ _ _ _ _ _ h => absurd hv h) (fun m' n' hm' e' hn' e2' _ => ?_))
        have := (nI_eq (by have := hT.m; omega) (by have := hT.m; omega)).mp (e.symm.trans e'); subst this
        have en := (nI_eq (by have := (hT.s (show m < 8 by have := hT.m; omega)).2; omega) (by have := (hT.s (show m < 8 by have := hT.m; omega)).2; omega)).mp (e2.symm.trans e2')
        subst en
        have hRel := hR.change (v := μ 41 m n) (w := nI 0) hm hn hv
        unfold puW puI at hRel
        unfold puW
        (repeat refine Bx_step rfl ?_)
        refine Bx_call rfl (r_thrown ?_)
        rw [pu_j (by omega), pu_t (by omega), pu_t (by omega), pu_t (by omega), pu_s]
        (repeat refine Bx_step rfl ?_)
        refine Bx_br rfl (fun _ => ?_) (fun hb => absurd rfl hb)
        (repeat refine Bx_step rfl ?_)
        refine Bx_br rfl (fun hb => absurd (by decide) hb) (fun _ => ?_)
        (repeat refine Bx_step rfl ?_)
        refine Bx_ll rfl rfl ?_
        rw [pu_t (by omega), pu_t (by omega), pu_t (by omega), pu_t (by omega), pu_t (by omega), pu_s]
        (repeat refine Bx_step rfl ?_)
        rw [lw_cmp0]
        refine Bx_br rfl (fun _ => ?_) (fun hb => absurd rfl hb)
        refine Bx_step rfl ?_
        exact back0 _ _ _ hRel
    | 6, _ =>
      show Bx 105 518 _ _ _ _
      (repeat refine Bx_step rfl ?_)
      refine Bx_sc (i + 1) rfl (nI_add i 1) h38 hL31 (by omega) ?_
      have ans : ∀ μ' v, frF μ μ' → μ' 4 0 1 = 0 → FD μ' → aOut μ (μ 39 0 (i + 1)) v → Bx 105 528 [some (pR 39 0), some (pR 0 0), some (pR 16 0), some (pR 34 0), some (pI (nI i)), z5, z6] (ppu (some (pI v)) []) μ' (LwP (r + 1)) := by
        intro μ' v fr s0 hD hv
        obtain ⟨kTR, kFM, k38, k39⟩ := kF μ' fr
        (repeat refine Bx_step rfl ?_)
        refine Bx_sc (i + 1) rfl (nI_add i 1) k38 hL31 (by omega) ?_
        rw [k39]
        have fin : ∀ μ'' v', aR μ μ' μ'' → aOut μ (μ 39 0 (i + 1)) v' → Bx 105 538 [some (pR 39 0), some (pR 0 0), some (pR 16 0), some (pR 34 0), some (pI (nI i)), z5, z6] (ppu (some (pI v')) [pI v]) μ'' (LwP (r + 1)) := by
          intro μ'' v' ha hv'
          have e := aOut_f hT hv hv'
          subst e
          refine Bx_br rfl (fun _ => ?_) (fun hb => absurd rfl hb)
          exact back _ _ _ (hR.ask fr s0 hD ha)
        exact Bx_call rfl (r_out hT kTR kFM (fun μ'' m v ha h1 h2 h3 => fin _ _ ha (Or.inl ⟨m, h1, h2, h3⟩)) (fun μ'' ha no => fin _ _ ha (Or.inr ⟨no, rfl⟩)))
      exact Bx_call rfl (c_out hT hfD (fun μ' m v fr s0 hD h1 h2 h3 => ans _ _ fr s0 hD (Or.inl ⟨m, h1, h2, h3⟩)) (fun μ' fr s0 hD no => ans _ _ fr s0 hD (Or.inr ⟨no, rfl⟩)))
    | 7, _ =>
      show Bx 105 543 _ _ _ _
      (repeat refine Bx_step rfl ?_)
      refine Bx_sc (i + 1) rfl (nI_add i 1) h38 hL31 (by omega) ?_
      (repeat refine Bx_step rfl ?_)
      refine Bx_sc (i + 2) rfl (nI_add i 2) h38 hL31 (by omega) ?_
      have ans : ∀ μ' v, frF μ μ' → μ' 4 0 1 = 0 → FD μ' → aRai μ (μ 39 0 (i + 1)) (μ 39 0 (i + 2)) v → Bx 105 559 [some (pR 39 0), some (pR 0 0), some (pR 16 0), some (pR 34 0), some (pI (nI i)), z5, z6] (ppu (some (pI v)) []) μ' (LwP (r + 1)) := by
        intro μ' v fr s0 hD hv
        obtain ⟨kTR, kFM, k38, k39⟩ := kF μ' fr
        (repeat refine Bx_step rfl ?_)
        refine Bx_sc (i + 1) rfl (nI_add i 1) k38 hL31 (by omega) ?_
        rw [k39]
        (repeat refine Bx_step rfl ?_)
        refine Bx_sc (i + 2) rfl (nI_add i 2) k38 hL31 (by omega) ?_
        rw [k39]
        have fin : ∀ μ'' v', aR μ μ' μ'' → aRai μ (μ 39 0 (i + 1)) (μ 39 0 (i + 2)) v' → Bx 105 575 [some (pR 39 0), some (pR 0 0), some (pR 16 0), some (pR 34 0), some (pI (nI i)), z5, z6] (ppu (some (pI v')) [pI v]) μ'' (LwP (r + 1)) := by
          intro μ'' v' ha hv'
          have e := aRai_f hT hv hv'
          subst e
          refine Bx_br rfl (fun _ => ?_) (fun hb => absurd rfl hb)
          exact back _ _ _ (hR.ask fr s0 hD ha)
        exact Bx_call rfl (r_raises hT kTR kFM (fun μ'' m n v ha h1 h2 h3 h4 h5 => fin _ _ ha (Or.inl ⟨m, n, h1, h2, h3, h4, h5⟩)) (fun μ'' ha no => fin _ _ ha (Or.inr ⟨no, rfl⟩)))
      exact Bx_call rfl (c_raises hT hfD (fun μ' m n v fr s0 hD h1 h2 h3 h4 h5 => ans _ _ fr s0 hD (Or.inl ⟨m, n, h1, h2, h3, h4, h5⟩)) (fun μ' fr s0 hD no => ans _ _ fr s0 hD (Or.inr ⟨no, rfl⟩)))
    | 8, _ =>
      show Bx 105 580 _ _ _ _
      (repeat refine Bx_step rfl ?_)
      refine Bx_sc (i + 1) rfl (nI_add i 1) h38 hL31 (by omega) ?_
      (repeat refine Bx_step rfl ?_)
      refine Bx_sc (i + 2) rfl (nI_add i 2) h38 hL31 (by omega) ?_
      have ans : ∀ μ' v, frF μ μ' → μ' 4 0 1 = 0 → FD μ' → aCat μ (μ 39 0 (i + 1)) (μ 39 0 (i + 2)) v → Bx 105 596 [some (pR 39 0), some (pR 0 0), some (pR 16 0), some (pR 34 0), some (pI (nI i)), z5, z6] (ppu (some (pI v)) []) μ' (LwP (r + 1)) := by
        intro μ' v fr s0 hD hv
        obtain ⟨kTR, kFM, k38, k39⟩ := kF μ' fr
        (repeat refine Bx_step rfl ?_)
        refine Bx_sc (i + 1) rfl (nI_add i 1) k38 hL31 (by omega) ?_
        rw [k39]
        (repeat refine Bx_step rfl ?_)
        refine Bx_sc (i + 2) rfl (nI_add i 2) k38 hL31 (by omega) ?_
        rw [k39]
        have fin : ∀ μ'' v', aR μ μ' μ'' → aCat μ (μ 39 0 (i + 1)) (μ 39 0 (i + 2)) v' → Bx 105 612 [some (pR 39 0), some (pR 0 0), some (pR 16 0), some (pR 34 0), some (pI (nI i)), z5, z6] (ppu (some (pI v')) [pI v]) μ'' (LwP (r + 1)) := by
          intro μ'' v' ha hv'
          have e := aCat_f hT hv hv'
          subst e
          refine Bx_br rfl (fun _ => ?_) (fun hb => absurd rfl hb)
          exact back _ _ _ (hR.ask fr s0 hD ha)
        exact Bx_call rfl (r_catches hT kTR kFM (fun μ'' m n v ha h1 h2 h3 h4 h5 => fin _ _ ha (Or.inl ⟨m, n, h1, h2, h3, h4, h5⟩)) (fun μ'' ha no => fin _ _ ha (Or.inr ⟨no, rfl⟩)))
      exact Bx_call rfl (c_catches hT hfD (fun μ' m n v fr s0 hD h1 h2 h3 h4 h5 => ans _ _ fr s0 hD (Or.inl ⟨m, n, h1, h2, h3, h4, h5⟩)) (fun μ' fr s0 hD no => ans _ _ fr s0 hD (Or.inr ⟨no, rfl⟩)))
    | 9, _ =>
      show Bx 105 617 _ _ _ _
      (repeat refine Bx_step rfl ?_)
      refine Bx_sc (i + 1) rfl (nI_add i 1) h38 hL31 (by omega) ?_
      (repeat refine Bx_step rfl ?_)
      refine Bx_sc (i + 2) rfl (nI_add i 2) h38 hL31 (by omega) ?_
      have ans : ∀ μ' v, frF μ μ' → μ' 4 0 1 = 0 → FD μ' → aWay μ (μ 39 0 (i + 1)) (μ 39 0 (i + 2)) v → Bx 105 633 [some (pR 39 0), some (pR 0 0), some (pR 16 0), some (pR 34 0), some (pI (nI i)), z5, z6] (ppu (some (pI v)) []) μ' (LwP (r + 1)) := by
        intro μ' v fr s0 hD hv
        obtain ⟨kTR, kFM, k38, k39⟩ := kF μ' fr
        (repeat refine Bx_step rfl ?_)
        refine Bx_sc (i + 1) rfl (nI_add i 1) k38 hL31 (by omega) ?_
        rw [k39]
        (repeat refine Bx_step rfl ?_)
        refine Bx_sc (i + 2) rfl (nI_add i 2) k38 hL31 (by omega) ?_
        rw [k39]
        have fin : ∀ μ'' v', aR μ μ' μ'' → aWay μ (μ 39 0 (i + 1)) (μ 39 0 (i + 2)) v' → Bx 105 649 [some (pR 39 0), some (pR 0 0), some (pR 16 0), some (pR 34 0), some (pI (nI i)), z5, z6] (ppu (some (pI v')) [pI v]) μ'' (LwP (r + 1)) := by
          intro μ'' v' ha hv'
          have e := aWay_f hT hv hv'
          subst e
          refine Bx_br rfl (fun _ => ?_) (fun hb => absurd rfl hb)
          exact back _ _ _ (hR.ask fr s0 hD ha)
        exact Bx_call rfl (r_way hT kTR kFM (fun μ'' m c n ha h1 h2 h3 h4 h5 => fin _ _ ha (Or.inl ⟨m, c, n, h1, h2, h3, h4, h5, rfl⟩)) (fun μ'' ha no => fin _ _ ha (Or.inr ⟨no, rfl⟩)))
      exact Bx_call rfl (c_way hT hfD (fun μ' m c n fr s0 hD h1 h2 h3 h4 h5 => ans _ _ fr s0 hD (Or.inl ⟨m, c, n, h1, h2, h3, h4, h5, rfl⟩)) (fun μ' fr s0 hD no => ans _ _ fr s0 hD (Or.inr ⟨no, rfl⟩)))
    | 10, _ =>
      show Bx 105 654 _ _ _ _
      (repeat refine Bx_step rfl ?_)
      refine Bx_sc (i + 1) rfl (nI_add i 1) h38 hL31 (by omega) ?_
      (repeat refine Bx_step rfl ?_)
      refine Bx_sc (i + 2) rfl (nI_add i 2) h38 hL31 (by omega) ?_
      (repeat refine Bx_step rfl ?_)
      refine Bx_sc (i + 3) rfl (nI_add i 3) h38 hL31 (by omega) ?_
      have ans : ∀ μ' v, frF μ μ' → μ' 4 0 1 = 0 → FD μ' → aStp μ (μ 39 0 (i + 1)) (μ 39 0 (i + 2)) (μ 39 0 (i + 3)) v → Bx 105 676 [some (pR 39 0), some (pR 0 0), some (pR 16 0), some (pR 34 0), some (pI (nI i)), z5, z6] (ppu (some (pI v)) []) μ' (LwP (r + 1)) := by
        intro μ' v fr s0 hD hv
        obtain ⟨kTR, kFM, k38, k39⟩ := kF μ' fr
        (repeat refine Bx_step rfl ?_)
        refine Bx_sc (i + 1) rfl (nI_add i 1) k38 hL31 (by omega) ?_
        rw [k39]
        (repeat refine Bx_step rfl ?_)
        refine Bx_sc (i + 2) rfl (nI_add i 2) k38 hL31 (by omega) ?_
        rw [k39]
        (repeat refine Bx_step rfl ?_)
        refine Bx_sc (i + 3) rfl (nI_add i 3) k38 hL31 (by omega) ?_
        rw [k39]
        have fin : ∀ μ'' v', aR μ μ' μ'' → aStp μ (μ 39 0 (i + 1)) (μ 39 0 (i + 2)) (μ 39 0 (i + 3)) v' → Bx 105 698 [some (pR 39 0), some (pR 0 0), some (pR 16 0), some (pR 34 0), some (pI (nI i)), z5, z6] (ppu (some (pI v')) [pI v]) μ'' (LwP (r + 1)) := by
          intro μ'' v' ha hv'
          have e := aStp_f hT hv hv'
          subst e
          refine Bx_br rfl (fun _ => ?_) (fun hb => absurd rfl hb)
          exact back _ _ _ (hR.ask fr s0 hD ha)
        exact Bx_call rfl (r_step hT kTR kFM (fun μ'' m c n k p ha h1 h2 h3 h4 h5 h6 h7 h8 => fin _ _ ha (Or.inl ⟨m, c, n, k, p, h1, h2, h3, h4, h5, h6, h7, h8, rfl⟩)) (fun μ'' ha no => fin _ _ ha (Or.inr ⟨no, rfl⟩)))
      exact Bx_call rfl (c_step hT hfD (fun μ' m c n k p fr s0 hD h1 h2 h3 h4 h5 h6 h7 h8 => ans _ _ fr s0 hD (Or.inl ⟨m, c, n, k, p, h1, h2, h3, h4, h5, h6, h7, h8, rfl⟩)) (fun μ' fr s0 hD no => ans _ _ fr s0 hD (Or.inr ⟨no, rfl⟩)))
    | 11, _ =>
      show Bx 105 703 _ _ _ _
      (repeat refine Bx_step rfl ?_)
      refine Bx_sc (i + 1) rfl (nI_add i 1) h38 hL31 (by omega) ?_
      (repeat refine Bx_step rfl ?_)
      refine Bx_sc (i + 2) rfl (nI_add i 2) h38 hL31 (by omega) ?_
      (repeat refine Bx_step rfl ?_)
      refine Bx_sc (i + 3) rfl (nI_add i 3) h38 hL31 (by omega) ?_
      (repeat refine Bx_step rfl ?_)
      refine Bx_end rfl rfl rfl rfl rfl rfl (by decide) (Or.inr ⟨11, wR, [pI (μ 39 0 (i + 1)), pI (μ 39 0 (i + 2)), pI (μ 39 0 (i + 3))], rfl, rfl, trivial, rfl, ?_⟩)
      unfold Wr
      have kT : ∀ μ1 μ2 : PM, frT μ μ1 → (∀ t mm j, t ≠ 34 → μ2 t mm j = μ1 t mm j) → TR μ μ2 ∧ μ2 38 0 0 = nI L ∧ ∀ j, μ2 39 0 j = μ 39 0 j := fun μ1 μ2 f g => ⟨hTR.keep ((g 16 0 1 (by omega)).trans (f 16 0 1 (by omega))) ((g 16 0 3 (by omega)).trans (f 16 0 3 (by omega))) (fun t j a b => (g t 0 j (by omega)).trans (f t 0 j (by omega))), by rw [g 38 0 0 (by omega), f 38 0 0 (by omega)]; exact h38, fun j => (g 39 0 j (by omega)).trans (f 39 0 j (by omega))⟩
      have same : ∀ m m' f f' : Nat, m < mct μ → m' < mct μ → (μ 39 0 (i + 1)) = nI m → (μ 39 0 (i + 1)) = nI m' → f ≤ 3000 → f' ≤ 3000 → (μ 39 0 (i + 3)) = nI f → (μ 39 0 (i + 3)) = nI f' → m = m' ∧ f = f' := fun m m' f f' a1 a2 a3 a4 a5 a6 a7 a8 => ⟨(nI_eq (by have := hT.m; omega) (by have := hT.m; omega)).mp (a3.symm.trans a4), (nI_eq (by omega) (by omega)).mp (a7.symm.trans a8)⟩
      refine t_run hT (fun no => Or.inr ⟨_, rfl, ?_⟩) (fun m hm e nf => Or.inr ⟨_, rfl, ?_⟩) (fun μ1 m f hm e hf ef hP hne => Or.inr ⟨_, rfl, ?_⟩) (fun μ1 m f c hm e hf ef hP hc => Or.inr ⟨_, rfl, ?_⟩) (fun μ1 m f v hm e hf ef hP hv => Or.inl ⟨rfl, _, rfl, ?_⟩)
      · show Bx 105 726 _ _ _ _
        (repeat refine Bx_step rfl ?_)
        refine Bx_sc (i + 1) rfl (nI_add i 1) h38 hL31 (by omega) ?_
        (repeat refine Bx_step rfl ?_)
        refine Bx_sc (i + 2) rfl (nI_add i 2) h38 hL31 (by omega) ?_
        (repeat refine Bx_step rfl ?_)
        refine Bx_sc (i + 3) rfl (nI_add i 3) h38 hL31 (by omega) ?_
        refine Bx_call rfl (r_run hT hTR (fun _ => ?_) (fun m hm e => absurd e (no m hm)) (fun _ m f hm e => absurd e (no m hm)) (fun _ m f c hm e => absurd e (no m hm)) (fun _ m f c hm e => absurd e (no m hm)))
        (repeat refine Bx_step rfl ?_)
        refine Bx_call rfl (r_thrown ?_)
        rw [pu_s]
        (repeat refine Bx_step rfl ?_)
        refine Bx_br rfl (fun _ => ?_) (fun hb => absurd rfl hb)
        (repeat refine Bx_step rfl ?_)
        refine Bx_br rfl (fun _ => ?_) (fun hb => absurd (by decide) hb)
        refine Bx_step rfl ?_
        exact back0 _ _ _ hR.th
      · show Bx 105 726 _ _ _ _
        (repeat refine Bx_step rfl ?_)
        refine Bx_sc (i + 1) rfl (nI_add i 1) h38 hL31 (by omega) ?_
        (repeat refine Bx_step rfl ?_)
        refine Bx_sc (i + 2) rfl (nI_add i 2) h38 hL31 (by omega) ?_
        (repeat refine Bx_step rfl ?_)
        refine Bx_sc (i + 3) rfl (nI_add i 3) h38 hL31 (by omega) ?_
        refine Bx_call rfl (r_run hT hTR (fun no => absurd e (no m hm)) (fun _ _ _ _ => ?_) (fun _ _ f _ _ hf ef => absurd ef (nf f hf)) (fun _ _ f _ _ _ hf ef => absurd ef (nf f hf)) (fun _ _ f _ _ _ hf ef => absurd ef (nf f hf)))
        (repeat refine Bx_step rfl ?_)
        refine Bx_call rfl (r_thrown ?_)
        rw [pu_s]
        (repeat refine Bx_step rfl ?_)
        refine Bx_br rfl (fun _ => ?_) (fun hb => absurd rfl hb)
        (repeat refine Bx_step rfl ?_)
        refine Bx_br rfl (fun _ => ?_) (fun hb => absurd (by decide) hb)
        refine Bx_step rfl ?_
        exact back0 _ _ _ hR.th
      · show Bx 105 726 _ _ _ _
        obtain ⟨kTR, k38, k39⟩ := kT μ1 μ1 hP.1 (fun _ _ _ _ => rfl)
        (repeat refine Bx_step rfl ?_)
        refine Bx_sc (i + 1) rfl (nI_add i 1) k38 hL31 (by omega) ?_
        rw [k39]
        (repeat refine Bx_step rfl ?_)
        refine Bx_sc (i + 2) rfl (nI_add i 2) k38 hL31 (by omega) ?_
        rw [k39]
        (repeat refine Bx_step rfl ?_)
        refine Bx_sc (i + 3) rfl (nI_add i 3) k38 hL31 (by omega) ?_
        rw [k39]
        refine Bx_call rfl (r_run hT kTR (fun no => absurd e (no m hm)) (fun _ _ _ nf => absurd ef (nf f hf)) (fun μ3 m' f' hm' e' hf' ef' hQ _ h0 => ?_) (fun μ3 m' f' c hm' e' hf' ef' hQ h _ => ?_) (fun μ3 m' f' v hm' e' hf' ef' hQ h _ => ?_))
        · obtain ⟨e1, e2⟩ := same m m' f f' hm hm' e e' hf hf' ef ef'
          subst e1
          subst e2
          (repeat refine Bx_step rfl ?_)
          refine Bx_call rfl (r_thrown ?_)
          rw [h0]
          (repeat refine Bx_step rfl ?_)
          refine Bx_br rfl (fun _ => ?_) (fun hb => absurd rfl hb)
          (repeat refine Bx_step rfl ?_)
          refine Bx_br rfl (fun _ => ?_) (fun hb => absurd (by decide) hb)
          refine Bx_step rfl ?_
          exact back0 _ _ _ (hR.run hP (fun _ _ _ _ => rfl) hQ)
        · obtain ⟨e1, e2⟩ := same m m' f f' hm hm' e e' hf hf' ef ef'
          subst e1
          subst e2
          have hW := hP.2.2.2.2
          rw [hW.2.2.1.mpr (by rw [h]; exact fun z => (by cases z))] at hne
          exact absurd rfl hne
        · obtain ⟨e1, e2⟩ := same m m' f f' hm hm' e e' hf hf' ef ef'
          subst e1
          subst e2
          have hW := hP.2.2.2.2
          rw [hW.2.2.1.mpr (by rw [h]; exact fun z => (by cases z))] at hne
          exact absurd rfl hne
      · show Bx 105 726 _ _ _ _
        obtain ⟨kTR, k38, k39⟩ := kT μ1 μ1 hP.1 (fun _ _ _ _ => rfl)
        (repeat refine Bx_step rfl ?_)
        refine Bx_sc (i + 1) rfl (nI_add i 1) k38 hL31 (by omega) ?_
        rw [k39]
        (repeat refine Bx_step rfl ?_)
        refine Bx_sc (i + 2) rfl (nI_add i 2) k38 hL31 (by omega) ?_
        rw [k39]
        (repeat refine Bx_step rfl ?_)
        refine Bx_sc (i + 3) rfl (nI_add i 3) k38 hL31 (by omega) ?_
        rw [k39]
        refine Bx_call rfl (r_run hT kTR (fun no => absurd e (no m hm)) (fun _ _ _ nf => absurd ef (nf f hf)) (fun μ3 m' f' hm' e' hf' ef' hQ hne _ => ?_) (fun μ3 m' f' c hm' e' hf' ef' hQ _ h0 => ?_) (fun μ3 m' f' v hm' e' hf' ef' hQ h _ => ?_))
        · obtain ⟨e1, e2⟩ := same m m' f f' hm hm' e e' hf hf' ef ef'
          subst e1
          subst e2
          have hW := hP.2.2.2.2
          rw [hW.2.2.1.mpr (by rw [hc]; exact fun z => (by cases z))] at hne
          exact absurd rfl hne
        · obtain ⟨e1, e2⟩ := same m m' f f' hm hm' e e' hf hf' ef ef'
          subst e1
          subst e2
          (repeat refine Bx_step rfl ?_)
          refine Bx_call rfl (r_thrown ?_)
          rw [h0]
          (repeat refine Bx_step rfl ?_)
          refine Bx_br rfl (fun _ => ?_) (fun hb => absurd rfl hb)
          (repeat refine Bx_step rfl ?_)
          refine Bx_br rfl (fun _ => ?_) (fun hb => absurd (by decide) hb)
          refine Bx_step rfl ?_
          exact back0 _ _ _ (hR.run hP (fun _ _ _ _ => rfl) hQ)
        · obtain ⟨e1, e2⟩ := same m m' f f' hm hm' e e' hf hf' ef ef'
          subst e1
          subst e2
          rw [hc] at h; cases h
      · show Bx 105 726 _ _ _ _
        obtain ⟨kTR, k38, k39⟩ := kT μ1 (pu μ1 34 0 0 v) hP.1 (fun _ _ _ a => pu_t a)
        (repeat refine Bx_step rfl ?_)
        refine Bx_sc (i + 1) rfl (nI_add i 1) k38 hL31 (by omega) ?_
        rw [k39]
        (repeat refine Bx_step rfl ?_)
        refine Bx_sc (i + 2) rfl (nI_add i 2) k38 hL31 (by omega) ?_
        rw [k39]
        (repeat refine Bx_step rfl ?_)
        refine Bx_sc (i + 3) rfl (nI_add i 3) k38 hL31 (by omega) ?_
        rw [k39]
        refine Bx_call rfl (r_run hT kTR (fun no => absurd e (no m hm)) (fun _ _ _ nf => absurd ef (nf f hf)) (fun μ3 m' f' hm' e' hf' ef' hQ hne _ => ?_) (fun μ3 m' f' c hm' e' hf' ef' hQ h _ => ?_) (fun μ3 m' f' v' hm' e' hf' ef' hQ hv' h0 => ?_))
        · obtain ⟨e1, e2⟩ := same m m' f f' hm hm' e e' hf hf' ef ef'
          subst e1
          subst e2
          have hW := hP.2.2.2.2
          rw [hW.2.2.1.mpr (by rw [hv]; exact fun z => (by cases z))] at hne
          exact absurd rfl hne
        · obtain ⟨e1, e2⟩ := same m m' f f' hm hm' e e' hf hf' ef ef'
          subst e1
          subst e2
          rw [hv] at h; cases h
        · obtain ⟨e1, e2⟩ := same m m' f f' hm hm' e e' hf hf' ef ef'
          subst e1
          subst e2
          rw [hv] at hv'
          cases hv'
          have h34 : μ3 34 0 0 = v := by rw [hQ.1.1 34 0 0 (by omega) (by omega), pu_s]
          (repeat refine Bx_step rfl ?_)
          refine Bx_call rfl (r_thrown ?_)
          rw [h0]
          (repeat refine Bx_step rfl ?_)
          refine Bx_br rfl (fun _ => ?_) (fun hb => absurd rfl hb)
          (repeat refine Bx_step rfl ?_)
          refine Bx_br rfl (fun hb => absurd (by decide) hb) (fun _ => ?_)
          (repeat refine Bx_step rfl ?_)
          refine Bx_ll rfl rfl ?_
          rw [h34]
          (repeat refine Bx_step rfl ?_)
          rw [lw_cmp0]
          refine Bx_br rfl (fun _ => ?_) (fun hb => absurd rfl hb)
          refine Bx_step rfl ?_
          exact back0 _ _ _ (hR.run hP (fun _ _ _ a => pu_t a) hQ)
    | 12, _ =>
      show Bx 105 783 _ _ _ _
      (repeat refine Bx_step rfl ?_)
      refine Bx_call rfl (c_spent ?_)
      (repeat refine Bx_step rfl ?_)
      refine Bx_call rfl (r_spent ?_)
      rw [hR.2.2.2.2.2.1]
      refine Bx_br rfl (fun _ => ?_) (fun hb => absurd rfl hb)
      exact back _ _ _ hR.th
    | 13, _ =>
      show Bx 105 796 _ _ _ _
      (repeat refine Bx_step rfl ?_)
      refine Bx_call rfl (c_escaped ?_)
      (repeat refine Bx_step rfl ?_)
      refine Bx_call rfl (r_escaped ?_)
      rw [hR.2.2.2.2.2.2.1]
      refine Bx_br rfl (fun _ => ?_) (fun hb => absurd rfl hb)
      exact back _ _ _ hR.th
    | 14, _ => exact back _ _ _ hR
    | 15, _ => exact back _ _ _ hR
    | n + 16, h => omega
