/-! The reference: kind, is, method, add, handler, change. -/
section P24
variable {μ0 μ : PM} {x y c a b : Int32} {Q : Option PV → PM → Prop}
theorem TR.th (h : TR μ0 μ) {j : Nat} {v : Int32} (h1 : j ≠ 1) (h3 : j ≠ 3) : TR μ0 (pu μ 16 0 j v) := h.keep (pu_j (Ne.symm h1)) (pu_j (Ne.symm h3)) (fun t j h1 h2 => pu_t (by omega))
theorem r_kind (hT : TI μ0) (hR : TR μ0 μ) (h1 : (∀ m, m < kct μ0 → x ≠ nI m) → Q (some (pI 0)) (pu μ 16 0 0 (nI 1))) (h2 : ∀ p, p < kct μ0 → x = nI p → kct μ0 = 10 → Q (some (pI 0)) (pu μ 16 0 0 (nI 2)))
    (h : ∀ p, p < kct μ0 → x = nI p → kct μ0 < 10 → Q (some (pI (nI (kct μ0)))) (pu (pu (pu (pu μ 16 0 0 (nI 0)) 17 0 (kct μ0) (nI p)) 16 0 1 (nI (kct μ0 + 1))) 16 0 13 (nI 1))) : Cl 17 [pR 16 0, pI x] μ Q := by
  have hk := hT.k
  refine Cl_in rfl ?_
  (repeat refine Ax_step rfl ?_)
  refine Ax_call rfl (r_isKind hT hR (fun p hp e => ?_) (fun no => ?_))
  · subst e
    refine Ax_br rfl (fun _ => ?_) (fun hb => absurd (by decide) hb)
    (repeat refine Ax_step rfl ?_)
    rw [hR.k]
    refine Ax_br rfl (fun hb => ?_) (fun hb => ?_)
    · have hlt : kct μ0 < 10 := by
        rcases Nat.lt_or_ge (kct μ0) 10 with z | z
        · exact z
        · exact absurd (by rw [show kct μ0 = 10 by omega]) hb
      (repeat refine Ax_step rfl ?_)
      rw [pu_s]
      refine Ax_br rfl (fun _ => ?_) (fun hb => absurd (by decide) hb)
      (repeat refine Ax_step rfl ?_)
      rw [pu_j (by omega), hR.k]
      refine Ax_ast (kct μ0) rfl rfl hlt ?_
      (repeat refine Ax_step rfl ?_)
      rw [pu_t (by omega), pu_j (by omega), hR.k, nI_add]
      refine Ax_putz rfl rfl (Or.inr rfl) ?_
      (repeat refine Ax_step rfl ?_)
      rw [pu_j (by omega), pu_s, nI_s1]
      exact Ax_rI rfl ⟨rfl, h p hp rfl hlt⟩
    · have e10 : kct μ0 = 10 := (nI_eq (by omega) (by omega)).mp (Decidable.byContradiction hb)
      (repeat refine Ax_step rfl ?_)
      rw [pu_s]
      refine Ax_br rfl (fun hb => absurd hb (by decide)) (fun _ => ?_)
      (repeat refine Ax_step rfl ?_)
      exact Ax_rI rfl ⟨rfl, h2 p hp rfl e10⟩
  · refine Ax_br rfl (fun hb => absurd rfl hb) (fun _ => ?_)
    (repeat refine Ax_step rfl ?_)
    rw [pu_s]
    refine Ax_br rfl (fun hb => absurd hb (by decide)) (fun _ => ?_)
    (repeat refine Ax_step rfl ?_)
    exact Ax_rI rfl ⟨rfl, h1 no⟩
theorem r_is (hT : TI μ0) (hR : TR μ0 μ) (h1 : ∀ i j, i < kct μ0 → x = nI i → j < kct μ0 → y = nI j → Q (some (pI (bI (bt (μ0 15 0 j) i)))) (pu μ 16 0 0 (nI 0))) (h0 : (∀ i j, i < kct μ0 → x = nI i → j < kct μ0 → y ≠ nI j) → Q (some (pI 0)) (pu μ 16 0 0 (nI 0))) : Cl 18 [pR 16 0, pI x, pI y] μ Q := by
  refine Cl_in rfl ?_
  (repeat refine Ax_step rfl ?_)
  have hR1 : TR μ0 (pu μ 16 0 0 (nI 0)) := hR.th (by omega) (by omega)
  refine Ax_call rfl (r_isKind hT hR1 (fun i hi e => ?_) (fun no => ?_))
  · subst e
    refine Ax_br rfl (fun hb => absurd hb (by decide)) (fun _ => ?_)
    (repeat refine Ax_step rfl ?_)
    refine Ax_call rfl (r_isKind hT hR1 (fun j hj e => ?_) (fun no => ?_))
    · subst e
      refine Ax_br rfl (fun hb => absurd hb (by decide)) (fun _ => ?_)
      (repeat refine Ax_step rfl ?_)
      refine Ax_call rfl (r_isOne hT hR1 hi hj ?_)
      have := h1 i j hi rfl hj rfl
      refine Ax_br rfl (fun hz => ?_) (fun hz => ?_)
      · (repeat refine Ax_step rfl ?_)
        rw [hz] at this
        exact Ax_rZ rfl (Or.inl rfl) ⟨rfl, this⟩
      · (repeat refine Ax_step rfl ?_)
        rw [show bI (bt (μ0 15 0 j) i) = 1 by rcases bI_01 (bt (μ0 15 0 j) i) with z | z; exact absurd z hz; exact z] at this
        exact Ax_rZ rfl (Or.inr rfl) ⟨rfl, this⟩
    · refine Ax_br rfl (fun _ => ?_) (fun hb => absurd rfl hb)
      (repeat refine Ax_step rfl ?_)
      exact Ax_rZ rfl (Or.inl rfl) ⟨rfl, h0 (fun _ j _ _ hj => no j hj)⟩
  · refine Ax_br rfl (fun _ => ?_) (fun hb => absurd rfl hb)
    (repeat refine Ax_step rfl ?_)
    exact Ax_rZ rfl (Or.inl rfl) ⟨rfl, h0 (fun i _ hi e _ => absurd e (no i hi))⟩
theorem r_method (hT : TI μ0) (hR : TR μ0 μ) (h0 : mct μ0 = 8 → Q (some (pI (-1))) (pu μ 16 0 0 (nI 0))) (h : mct μ0 < 8 → Q (some (pI (nI (mct μ0)))) (pu (pu (pu (pu (pu μ 16 0 0 (nI 0)) 18 0 (mct μ0) (nI 0)) 22 0 (mct μ0) (nI 0)) 16 0 3 (nI (mct μ0 + 1))) 16 0 13 (nI 1))) : Cl 21 [pR 16 0] μ Q := by
  have hk := hT.m
  refine Cl_in rfl ?_
  (repeat refine Ax_step rfl ?_)
  rw [pu_j (by omega), hR.m]
  refine Ax_br rfl (fun hb => ?_) (fun hb => ?_)
  · have hlt : mct μ0 < 8 := by
      rcases Nat.lt_or_ge (mct μ0) 8 with z | z
      · exact z
      · exact absurd (by rw [show mct μ0 = 8 by omega]) hb
    (repeat refine Ax_step rfl ?_)
    rw [pu_j (by omega), hR.m]
    refine Ax_ast (mct μ0) rfl rfl hlt ?_
    (repeat refine Ax_step rfl ?_)
    rw [pu_t (by omega), pu_j (by omega), hR.m]
    refine Ax_ast (mct μ0) rfl rfl hlt ?_
    (repeat refine Ax_step rfl ?_)
    rw [pu_t (by omega), pu_t (by omega), pu_j (by omega), hR.m, nI_add]
    refine Ax_putz rfl rfl (Or.inr rfl) ?_
    (repeat refine Ax_step rfl ?_)
    rw [pu_j (by omega), pu_s, nI_s1]
    exact Ax_rI rfl ⟨rfl, h hlt⟩
  · have e8 : mct μ0 = 8 := (nI_eq (by omega) (by omega)).mp (Decidable.byContradiction hb)
    (repeat refine Ax_step rfl ?_)
    exact Ax_rI rfl ⟨rfl, h0 e8⟩
/-- an instruction is laid in the reference's rows -/
def puW (μ : PM) (m n : Nat) (c a b : Int32) : PM := pu (pu (pu (pu μ 19 0 (24 * m + n) c) 20 0 (24 * m + n) a) 21 0 (24 * m + n) b) 16 0 13 (nI 1)
theorem r_write {m n : Nat} (hm : m < 8) (hn : n < 24) (h : Q none (puW μ m n c a b)) : Cl 24 [pR 16 0, pI (nI m), pI (nI n), pI c, pI a, pI b] μ Q := by
  have hi : 24 * m + n < 192 := by omega
  refine Cl_in rfl ?_
  (repeat refine Ax_step rfl ?_)
  refine Ax_ast (24 * m + n) rfl (by rw [pk_mul, nI_add]) hi ?_
  (repeat refine Ax_step rfl ?_)
  refine Ax_ast (24 * m + n) rfl (by rw [pk_mul, nI_add]) hi ?_
  (repeat refine Ax_step rfl ?_)
  refine Ax_ast (24 * m + n) rfl (by rw [pk_mul, nI_add]) hi ?_
  (repeat refine Ax_step rfl ?_)
  refine Ax_putz rfl rfl (Or.inr rfl) ?_
  exact Ax_rV rfl ⟨rfl, h⟩
theorem r_add (hT : TI μ0) (hR : TR μ0 μ) (h1 : (∀ m, m < mct μ0 → x ≠ nI m) → Q (some (pI 0)) (pu μ 16 0 0 (nI 1))) (h2 : ∀ m, m < mct μ0 → x = nI m → szm μ0 m = 24 → Q (some (pI 0)) (pu μ 16 0 0 (nI 2))) (h3 : ∀ m, m < mct μ0 → x = nI m → szm μ0 m < 24 → ¬ vI (kct μ0) c a b → Q (some (pI 0)) (pu μ 16 0 0 (nI 3)))
    (h : ∀ m, m < mct μ0 → x = nI m → szm μ0 m < 24 → vI (kct μ0) c a b → Q (some (pI (nI (szm μ0 m)))) (pu (puW (pu μ 16 0 0 (nI 0)) m (szm μ0 m) c a b) 18 0 m (nI (szm μ0 m + 1)))) : Cl 25 [pR 16 0, pI x, pI c, pI a, pI b] μ Q := by
  refine Cl_in rfl ?_
  (repeat refine Ax_step rfl ?_)
  refine Ax_call rfl (r_isMethod hT hR (fun m hm e => ?_) (fun no => ?_))
  · subst e
    have hm8 : m < 8 := by have := hT.m.2; omega
    have hs := hT.s hm8
    refine Ax_br rfl (fun _ => ?_) (fun hb => absurd (by decide) hb)
    (repeat refine Ax_step rfl ?_)
    refine Ax_br rfl (fun _ => ?_) (fun hb => absurd rfl hb)
    (repeat refine Ax_step rfl ?_)
    refine Ax_ald m rfl rfl hm8 ?_
    rw [hR.s hm8, hs.1]
    (repeat refine Ax_step rfl ?_)
    refine Ax_br rfl (fun hb => ?_) (fun hb => ?_)
    · have hlt : szm μ0 m < 24 := by
        rcases Nat.lt_or_ge (szm μ0 m) 24 with z | z
        · exact z
        · exact absurd (by rw [show szm μ0 m = 24 by omega]) hb
      (repeat refine Ax_step rfl ?_)
      refine Ax_call rfl (r_fits hT hR (fun hv => ?_) (fun hv => ?_))
      · refine Ax_br rfl (fun hb => absurd hb (by decide)) (fun _ => ?_)
        (repeat refine Ax_step rfl ?_)
        rw [pu_s]
        refine Ax_br rfl (fun _ => ?_) (fun hb => absurd (by decide) hb)
        (repeat refine Ax_step rfl ?_)
        refine Ax_ald m rfl rfl hm8 ?_
        rw [pu_t (by omega), hR.s hm8, hs.1]
        (repeat refine Ax_step rfl ?_)
        refine Ax_call rfl (r_write hm8 hlt ?_)
        (repeat refine Ax_step rfl ?_)
        have e18 : puW (pu μ 16 0 0 (nI 0)) m (szm μ0 m) c a b 18 0 m = nI (szm μ0 m) := by
          unfold puW
          rw [pu_t (by omega), pu_t (by omega), pu_t (by omega), pu_t (by omega), pu_t (by omega), hR.s hm8, hs.1]
        refine Ax_ald m rfl rfl hm8 ?_
        rw [e18]
        (repeat refine Ax_step rfl ?_)
        rw [nI_add]
        refine Ax_ast m rfl rfl hm8 ?_
        (repeat refine Ax_step rfl ?_)
        refine Ax_ald m rfl rfl hm8 ?_
        rw [pu_s]
        (repeat refine Ax_step rfl ?_)
        rw [nI_s1]
        exact Ax_rI rfl ⟨rfl, h m hm rfl hlt hv⟩
      · refine Ax_br rfl (fun _ => ?_) (fun hb => absurd rfl hb)
        (repeat refine Ax_step rfl ?_)
        rw [pu_s]
        refine Ax_br rfl (fun hb => absurd hb (by decide)) (fun _ => ?_)
        (repeat refine Ax_step rfl ?_)
        exact Ax_rI rfl ⟨rfl, h3 m hm rfl hlt hv⟩
    · have e24 : szm μ0 m = 24 := (nI_eq (by omega) (by omega)).mp (Decidable.byContradiction hb)
      (repeat refine Ax_step rfl ?_)
      rw [pu_s]
      refine Ax_br rfl (fun hb => absurd hb (by decide)) (fun _ => ?_)
      (repeat refine Ax_step rfl ?_)
      exact Ax_rI rfl ⟨rfl, h2 m hm rfl e24⟩
  · refine Ax_br rfl (fun hb => absurd rfl hb) (fun _ => ?_)
    (repeat refine Ax_step rfl ?_)
    refine Ax_br rfl (fun hb => absurd hb (by decide)) (fun _ => ?_)
    (repeat refine Ax_step rfl ?_)
    rw [pu_s]
    refine Ax_br rfl (fun hb => absurd hb (by decide)) (fun _ => ?_)
    (repeat refine Ax_step rfl ?_)
    exact Ax_rI rfl ⟨rfl, h1 no⟩
def puG (μ : PM) (q : Nat) (f l k t : Int32) : PM := pu (pu (pu (pu μ 23 0 q f) 24 0 q l) 25 0 q k) 26 0 q t
theorem r_handler {f l k t : Int32} (hT : TI μ0) (hR : TR μ0 μ) (h1 : (∀ m, m < mct μ0 → x ≠ nI m) → Q (some (pI 0)) (pu μ 16 0 0 (nI 1))) (h2 : ∀ m, m < mct μ0 → x = nI m → hcm μ0 m = 4 → Q (some (pI 0)) (pu μ 16 0 0 (nI 2))) (h3 : ∀ m, m < mct μ0 → x = nI m → hcm μ0 m < 4 → ¬ (vH (kct μ0) f l k t ∧ f ≤ l) → Q (some (pI 0)) (pu μ 16 0 0 (nI 3)))
    (h : ∀ m, m < mct μ0 → x = nI m → hcm μ0 m < 4 → vH (kct μ0) f l k t → f ≤ l → Q (some (pI (nI (hcm μ0 m)))) (pu (pu (puG (pu μ 16 0 0 (nI 0)) (4 * m + hcm μ0 m) f l k t) 22 0 m (nI (hcm μ0 m + 1))) 16 0 13 (nI 1))) : Cl 26 [pR 16 0, pI x, pI f, pI l, pI k, pI t] μ Q := by
  -- behind the question whether the handler is good
  have rest : ∀ (g1 g2 : Int32) (z : Option PV), (g1 = 0 ∧ (∃ m, m < mct μ0 ∧ x = nI m) ∨ g1 = 1 ∧ ∀ m, m < mct μ0 → x ≠ nI m) → (g2 = 1 ∧ vH (kct μ0) f l k t ∧ f ≤ l ∨ g2 = 0 ∧ ¬ (vH (kct μ0) f l k t ∧ f ≤ l)) → Ax 26 67 [some (pR 16 0), some (pI x), some (pI f), some (pI l), some (pI k), some (pI t), some (pI g1), some (pI g2), z] [pI g1, pR 16 0] μ (fun y r' μ1 => y = 0 ∧ Q r' μ1) := by
    intro g1 g2 z hg1 hg2
    rcases hg1 with ⟨rfl, m, hm, rfl⟩ | ⟨rfl, no⟩
    · have hm8 : m < 8 := by have := hT.m.2; omega
      have hs := hT.h hm8
      refine Ax_br rfl (fun _ => ?_) (fun hb => absurd rfl hb)
      (repeat refine Ax_step rfl ?_)
      refine Ax_ald m rfl rfl hm8 ?_
      rw [hR.h hm8, hs.1]
      (repeat refine Ax_step rfl ?_)
      refine Ax_br rfl (fun hb => ?_) (fun hb => ?_)
      · have hlt : hcm μ0 m < 4 := by
          rcases Nat.lt_or_ge (hcm μ0 m) 4 with z | z
          · exact z
          · exact absurd (by rw [show hcm μ0 m = 4 by omega]) hb
        have hi : 4 * m + hcm μ0 m < 32 := by omega
        (repeat refine Ax_step rfl ?_)
        rcases hg2 with ⟨rfl, hv, hfl⟩ | ⟨rfl, hv⟩
        · refine Ax_br rfl (fun hb => absurd hb (by decide)) (fun _ => ?_)
          (repeat refine Ax_step rfl ?_)
          rw [pu_s]
          refine Ax_br rfl (fun _ => ?_) (fun hb => absurd (by decide) hb)
          (repeat refine Ax_step rfl ?_)
          refine Ax_ald m rfl rfl hm8 ?_
          rw [pu_t (by omega), hR.h hm8, hs.1]
          (repeat refine Ax_step rfl ?_)
          rw [pk_mul, nI_add]
          refine Ax_ast (4 * m + hcm μ0 m) rfl rfl hi ?_
          (repeat refine Ax_step rfl ?_)
          refine Ax_ast (4 * m + hcm μ0 m) rfl rfl hi ?_
          (repeat refine Ax_step rfl ?_)
          refine Ax_ast (4 * m + hcm μ0 m) rfl rfl hi ?_
          (repeat refine Ax_step rfl ?_)
          refine Ax_ast (4 * m + hcm μ0 m) rfl rfl hi ?_
          (repeat refine Ax_step rfl ?_)
          refine Ax_ald m rfl rfl hm8 ?_
          rw [pu_t (by omega), pu_t (by omega), pu_t (by omega), pu_t (by omega), pu_t (by omega), hR.h hm8, hs.1]
          (repeat refine Ax_step rfl ?_)
          rw [nI_add]
          refine Ax_ast m rfl rfl hm8 ?_
          (repeat refine Ax_step rfl ?_)
          refine Ax_putz rfl rfl (Or.inr rfl) ?_
          (repeat refine Ax_step rfl ?_)
          refine Ax_ald m rfl rfl hm8 ?_
          rw [pu_t (by omega), pu_s]
          (repeat refine Ax_step rfl ?_)
          rw [nI_s1]
          exact Ax_rI rfl ⟨rfl, h m hm rfl hlt hv hfl⟩
        · refine Ax_br rfl (fun _ => ?_) (fun hb => absurd rfl hb)
          (repeat refine Ax_step rfl ?_)
          rw [pu_s]
          refine Ax_br rfl (fun hb => absurd hb (by decide)) (fun _ => ?_)
          (repeat refine Ax_step rfl ?_)
          exact Ax_rI rfl ⟨rfl, h3 m hm rfl hlt hv⟩
      · have e4 : hcm μ0 m = 4 := (nI_eq (by omega) (by omega)).mp (Decidable.byContradiction hb)
        (repeat refine Ax_step rfl ?_)
        rw [pu_s]
        refine Ax_br rfl (fun hb => absurd hb (by decide)) (fun _ => ?_)
        (repeat refine Ax_step rfl ?_)
        exact Ax_rI rfl ⟨rfl, h2 m hm rfl e4⟩
    · refine Ax_br rfl (fun hb => absurd hb (by decide)) (fun _ => ?_)
      (repeat refine Ax_step rfl ?_)
      rw [pu_s]
      refine Ax_br rfl (fun hb => absurd hb (by decide)) (fun _ => ?_)
      (repeat refine Ax_step rfl ?_)
      exact Ax_rI rfl ⟨rfl, h1 no⟩
  -- is the handler good
  have good : ∀ (g1 : Int32) (z z2 : Option PV), (g1 = 0 ∧ (∃ m, m < mct μ0 ∧ x = nI m) ∨ g1 = 1 ∧ ∀ m, m < mct μ0 → x ≠ nI m) → Ax 26 18 [some (pR 16 0), some (pI x), some (pI f), some (pI l), some (pI k), some (pI t), some (pI g1), z, z2] [pI (nI 23), pI f] μ (fun y r' μ1 => y = 0 ∧ Q r' μ1) := by
    intro g1 z z2 hg1
    have no0 : ¬ (vH (kct μ0) f l k t ∧ f ≤ l) → Ax 26 61 [some (pR 16 0), some (pI x), some (pI f), some (pI l), some (pI k), some (pI t), some (pI g1), z, z2] [] μ (fun y r' μ1 => y = 0 ∧ Q r' μ1) := by
      intro hn
      (repeat refine Ax_step rfl ?_)
      exact rest g1 0 _ hg1 (Or.inr ⟨rfl, hn⟩)
    refine Ax_call rfl (r_isIn (by omega) (fun f' hf e1 => ?_) (fun no => ?_))
    · refine Ax_br rfl (fun hb => absurd hb (by decide)) (fun _ => ?_)
      (repeat refine Ax_step rfl ?_)
      refine Ax_call rfl (r_isIn (by omega) (fun l' hl e2 => ?_) (fun no => ?_))
      · refine Ax_br rfl (fun hb => absurd hb (by decide)) (fun _ => ?_)
        (repeat refine Ax_step rfl ?_)
        refine Ax_call rfl (r_isIn (by omega) (fun t' ht e4 => ?_) (fun no => ?_))
        · refine Ax_br rfl (fun hb => absurd hb (by decide)) (fun _ => ?_)
          (repeat refine Ax_step rfl ?_)
          refine Ax_br rfl (fun hb => no0 (fun w => Int32.not_lt.mpr w.2 hb)) (fun hb => ?_)
          (repeat refine Ax_step rfl ?_)
          refine Ax_call rfl (r_isKind hT hR (fun k' hk e3 => ?_) (fun no => ?_))
          · refine Ax_br rfl (fun hb => absurd hb (by decide)) (fun _ => ?_)
            (repeat refine Ax_step rfl ?_)
            exact rest g1 1 _ hg1 (Or.inl ⟨rfl, ⟨⟨f', hf, e1⟩, ⟨l', hl, e2⟩, ⟨k', hk, e3⟩, t', ht, e4⟩, Int32.not_lt.mp hb⟩)
          · exact Ax_br rfl (fun _ => no0 (fun ⟨⟨_, _, ⟨m, hm, e⟩, _⟩, _⟩ => no m hm e)) (fun hb => absurd rfl hb)
        · exact Ax_br rfl (fun _ => no0 (fun ⟨⟨_, _, _, m, hm, e⟩, _⟩ => no m hm e)) (fun hb => absurd rfl hb)
      · exact Ax_br rfl (fun _ => no0 (fun ⟨⟨_, ⟨m, hm, e⟩, _⟩, _⟩ => no m hm e)) (fun hb => absurd rfl hb)
    · exact Ax_br rfl (fun _ => no0 (fun ⟨⟨⟨m, hm, e⟩, _⟩, _⟩ => no m hm e)) (fun hb => absurd rfl hb)
  refine Cl_in rfl ?_
  (repeat refine Ax_step rfl ?_)
  refine Ax_call rfl (r_isMethod hT hR (fun m hm e => ?_) (fun no => ?_))
  · refine Ax_br rfl (fun _ => ?_) (fun hb => absurd (by decide) hb)
    (repeat refine Ax_step rfl ?_)
    exact good 0 _ _ (Or.inl ⟨rfl, m, hm, e⟩)
  · refine Ax_br rfl (fun hb => absurd rfl hb) (fun _ => ?_)
    (repeat refine Ax_step rfl ?_)
    exact good 1 _ _ (Or.inr ⟨rfl, no⟩)
theorem r_change (hT : TI μ0) (hR : TR μ0 μ) (h1 : (∀ m i, m < mct μ0 → x = nI m → i < szm μ0 m → y ≠ nI i) → Q (some (pI 0)) (pu μ 16 0 0 (nI 1))) (h2 : ∀ m i, m < mct μ0 → x = nI m → i < szm μ0 m → y = nI i → ¬ vI (kct μ0) c a b → Q (some (pI 0)) (pu μ 16 0 0 (nI 2)))
    (h : ∀ m i, m < mct μ0 → x = nI m → i < szm μ0 m → y = nI i → vI (kct μ0) c a b → Q (some (pI (μ0 41 m i))) (puW (pu μ 16 0 0 (nI 0)) m i c a b)) : Cl 27 [pR 16 0, pI x, pI y, pI c, pI a, pI b] μ Q := by
  refine Cl_in rfl ?_
  (repeat refine Ax_step rfl ?_)
  refine Ax_call rfl (r_isPlace hT hR (fun m i hm e hi e2 => ?_) (fun no => ?_))
  · subst e
    subst e2
    have hm8 : m < 8 := by have := hT.m.2; omega
    have hs := hT.s hm8
    refine Ax_br rfl (fun _ => ?_) (fun hb => absurd (by decide) hb)
    (repeat refine Ax_step rfl ?_)
    refine Ax_call rfl (r_fits hT hR (fun hv => ?_) (fun hv => ?_))
    · refine Ax_br rfl (fun hb => absurd hb (by decide)) (fun _ => ?_)
      (repeat refine Ax_step rfl ?_)
      rw [pu_s]
      refine Ax_br rfl (fun _ => ?_) (fun hb => absurd (by decide) hb)
      (repeat refine Ax_step rfl ?_)
      refine Ax_ald (24 * m + i) rfl (by rw [pk_mul, nI_add]) (show 24 * m + i < 192 by omega) ?_
      rw [pu_t (by omega), (hR.i hm8 (show i < 24 by omega)).1]
      (repeat refine Ax_step rfl ?_)
      refine Ax_call rfl (r_write hm8 (by omega) ?_)
      (repeat refine Ax_step rfl ?_)
      exact Ax_rI rfl ⟨rfl, h m i hm rfl hi rfl hv⟩
    · refine Ax_br rfl (fun _ => ?_) (fun hb => absurd rfl hb)
      (repeat refine Ax_step rfl ?_)
      rw [pu_s]
      refine Ax_br rfl (fun hb => absurd hb (by decide)) (fun _ => ?_)
      (repeat refine Ax_step rfl ?_)
      exact Ax_rI rfl ⟨rfl, h2 m i hm rfl hi rfl hv⟩
  · refine Ax_br rfl (fun hb => absurd rfl hb) (fun _ => ?_)
    (repeat refine Ax_step rfl ?_)
    rw [pu_s]
    refine Ax_br rfl (fun hb => absurd hb (by decide)) (fun _ => ?_)
    (repeat refine Ax_step rfl ?_)
    exact Ax_rI rfl ⟨rfl, h1 no⟩
end P24
