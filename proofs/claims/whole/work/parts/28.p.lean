/-! The reference's machine does that too. -/
def RMr (μ : PM) (S : List FR) : Prop := μ 16 0 15 = nI S.length ∧ rpF 28 μ S
def resR (μ : PM) : RS → Prop
  | none => μ 16 0 21 = -1
  | some (.inl v) => μ 16 0 22 = v ∧ μ 16 0 21 = -1
  | some (.inr c) => μ 16 0 21 = nI c
def RCr (μ : PM) (S : List FR × RS) : Prop := RMr μ S.1 ∧ resR μ S.2
def frN (μ μ' : PM) : Prop := (∀ t mm j, t ≠ 16 → ¬ (28 ≤ t ∧ t ≤ 31) → μ' t mm j = μ t mm j) ∧ ∀ j, j ≠ 15 → j ≠ 21 → j ≠ 22 → μ' 16 0 j = μ 16 0 j
theorem frN.rf (μ : PM) : frN μ μ := ⟨fun _ _ _ _ _ => rfl, fun _ _ _ _ => rfl⟩
theorem frN.tr {a b c : PM} (h : frN a b) (g : frN b c) : frN a c := ⟨fun t mm j h1 h2 => (g.1 t mm j h1 h2).trans (h.1 t mm j h1 h2), fun j h1 h2 h3 => (g.2 j h1 h2 h3).trans (h.2 j h1 h2 h3)⟩
theorem frN.row {μ : PM} {t j : Nat} {x : Int32} (h : 28 ≤ t) (h2 : t ≤ 31) : frN μ (pu μ t 0 j x) := ⟨fun t' mm j' h3 h4 => pu_t (by omega), fun j' _ _ _ => pu_t (by omega)⟩
theorem frN.fld {μ : PM} {j : Nat} {x : Int32} (h : j = 15 ∨ j = 21 ∨ j = 22) : frN μ (pu μ 16 0 j x) := ⟨fun t' mm j' h3 h4 => pu_t h3, fun j' _ _ _ => pu_j (by omega)⟩
theorem frN.TR {μ0 μ μ' : PM} (h : frN μ μ') (hR : TR μ0 μ) : TR μ0 μ' := hR.keep (h.2 1 (by omega) (by omega) (by omega)) (h.2 3 (by omega) (by omega) (by omega)) (fun t j h1 h2 => h.1 t 0 j (by omega) (by omega))
section P28
variable {μ0 μ : PM} {m p : Nat} {rg cg : Nat → Int32} {r : List FR} {Q : Option PV → PM → Prop}
theorem nr_place {q : Nat} (hR : RMr μ ((m, p, rg, cg) :: r)) : RMr (pu μ 29 0 r.length (nI q)) ((m, q, rg, cg) :: r) := by
  obtain ⟨h0, h1, h2, h3, h4, h5⟩ := hR
  refine ⟨by rw [pu_t (by omega)]; exact h0, by rw [pu_t (by omega)]; exact h1, pu_s, fun j hj => by rw [pu_t (by omega)]; exact h3 j hj, fun j hj => by rw [pu_t (by omega)]; exact h4 j hj, ?_⟩
  exact rpF_keep r (fun j hj => ⟨pu_t (by omega), pu_j (by omega)⟩) (fun j hj => ⟨pu_t (by omega), pu_t (by omega)⟩) h5
theorem nr_reg {a : Nat} {v : Int32} (hR : RMr μ ((m, p, rg, cg) :: r)) (ha : a < 4) : RMr (pu μ 30 0 (r.length * 4 + a) v) ((m, p, upd rg a v, cg) :: r) := by
  obtain ⟨h0, h1, h2, h3, h4, h5⟩ := hR
  refine ⟨by rw [pu_t (by omega)]; exact h0, by rw [pu_t (by omega)]; exact h1, by rw [pu_t (by omega)]; exact h2, fun j hj => ?_, fun j hj => by rw [pu_t (by omega)]; exact h4 j hj, ?_⟩
  · by_cases e : j = a
    · subst e; rw [upd_s]; exact pu_s
    · rw [upd_n e, pu_j (by omega)]; exact h3 j hj
  · exact rpF_keep r (fun j hj => ⟨pu_t (by omega), pu_t (by omega)⟩) (fun j hj => ⟨pu_j (by omega), pu_t (by omega)⟩) h5
theorem nr_cau {a : Nat} {v : Int32} (hR : RMr μ ((m, p, rg, cg) :: r)) (ha : a < 4) : RMr (pu μ 31 0 (r.length * 4 + a) v) ((m, p, rg, upd cg a v) :: r) := by
  obtain ⟨h0, h1, h2, h3, h4, h5⟩ := hR
  refine ⟨by rw [pu_t (by omega)]; exact h0, by rw [pu_t (by omega)]; exact h1, by rw [pu_t (by omega)]; exact h2, fun j hj => by rw [pu_t (by omega)]; exact h3 j hj, fun j hj => ?_, ?_⟩
  · by_cases e : j = a
    · subst e; rw [upd_s]; exact pu_s
    · rw [upd_n e, pu_j (by omega)]; exact h4 j hj
  · exact rpF_keep r (fun j hj => ⟨pu_t (by omega), pu_t (by omega)⟩) (fun j hj => ⟨pu_t (by omega), pu_j (by omega)⟩) h5
theorem nr_pop {f : FR} {S : List FR} (h : RMr μ (f :: S)) : RMr (pu μ 16 0 15 (nI S.length)) S := by
  obtain ⟨m, p, rg, cg⟩ := f
  exact ⟨pu_s, rpF_same (fun j => pu_t (by omega)) (fun j => pu_t (by omega)) (fun j => pu_t (by omega)) (fun j => pu_t (by omega)) h.2.2.2.2.2⟩
theorem nr_fld {j : Nat} {v : Int32} {S : List FR} (hj : j ≠ 15) (h : RMr μ S) : RMr (pu μ 16 0 j v) S := ⟨by rw [pu_j (Ne.symm hj)]; exact h.1, rpF_same (fun j => pu_t (by omega)) (fun j => pu_t (by omega)) (fun j => pu_t (by omega)) (fun j => pu_t (by omega)) h.2⟩
theorem r_enter {S : List FR} {m' : Nat} {x : Int32} {o : RS} (hR : RCr μ (S, o)) (ho : o = none) (hl : S.length < 12) (h : ∀ μ', RCr μ' ((m', 0, (fun j => if j = 0 then x else 0), (fun _ => -1)) :: S, o) → frN μ μ' → Q none μ') : Cl 42 [pR 16 0, pI (nI m'), pI x] μ Q := by
  subst ho
  obtain ⟨⟨h0, h1⟩, h2⟩ := hR
  refine Cl_in rfl ?_
  (repeat refine Ax_step rfl ?_)
  rw [h0]
  refine Ax_ast S.length rfl rfl hl ?_
  (repeat refine Ax_step rfl ?_)
  rw [pu_t (by omega), h0]
  refine Ax_ast S.length rfl rfl hl ?_
  (repeat refine Ax_step rfl ?_)
  generalize hμ1 : pu (pu μ 28 0 S.length (nI m')) 29 0 S.length (nI 0) = μ1
  have f1 : frN μ μ1 := by rw [← hμ1]; exact (frN.row (by omega) (by omega)).tr (frN.row (by omega) (by omega))
  have k1 : ∀ t j, t ≠ 28 → t ≠ 29 → μ1 t 0 j = μ t 0 j := fun t j b c => by rw [← hμ1, pu_t c, pu_t b]
  have loop : ∀ rr k, k + rr = 4 → ∀ μk : PM, (∀ t mm j, t ≠ 30 → t ≠ 31 → μk t mm j = μ1 t mm j) → (∀ j, j < S.length * 4 → μk 30 0 j = μ 30 0 j ∧ μk 31 0 j = μ 31 0 j) → (∀ j, j < k → μk 30 0 (S.length * 4 + j) = if j = 0 then x else 0) → (∀ j, j < k → μk 31 0 (S.length * 4 + j) = -1) →
      Ax 42 24 [some (pR 16 0), some (pI (nI m')), some (pI x), some (pI (nI k))] [pI (nI 4), pI (nI k)] μk (fun y r' μ1 => y = 0 ∧ Q r' μ1) := by
    intro rr
    induction rr with
    | zero =>
      intro k hk μk hA hB hC hD
      refine Ax_br rfl (fun _ => ?_) (fun hb => absurd (nI_le (by omega) (by omega)) hb)
      (repeat refine Ax_step rfl ?_)
      have e15 : μk 16 0 15 = nI S.length := by rw [hA 16 0 15 (by omega) (by omega), k1 16 15 (by omega) (by omega)]; exact h0
      rw [e15, nI_add]
      have f2 : frN μ μk := ⟨fun t mm j a b => by rw [hA t mm j (by omega) (by omega)]; exact f1.1 t mm j a b, fun j a b c => by rw [hA 16 0 j (by omega) (by omega)]; exact f1.2 j a b c⟩
      refine Ax_rV rfl ⟨rfl, h _ ⟨⟨pu_s, ?_, ?_, fun j hj => ?_, fun j hj => ?_, ?_⟩, ?_⟩ (f2.tr (frN.fld (Or.inl rfl)))⟩
      · rw [pu_t (by omega), hA 28 0 _ (by omega) (by omega), ← hμ1, pu_t (by omega), pu_s]
      · rw [pu_t (by omega), hA 29 0 _ (by omega) (by omega), ← hμ1, pu_s]
      · rw [pu_t (by omega)]; exact hC j (by omega)
      · rw [pu_t (by omega)]; exact hD j (by omega)
      · refine rpF_keep S (fun j hj => ⟨?_, ?_⟩) (fun j hj => ⟨?_, ?_⟩) h1
        · rw [pu_t (by omega), hA 28 0 j (by omega) (by omega), ← hμ1, pu_t (by omega), pu_j (by omega)]
        · show pu μk 16 0 15 _ 29 0 j = μ 29 0 j
          rw [pu_t (by omega), hA 29 0 j (by omega) (by omega), ← hμ1, pu_j (by omega), pu_t (by omega)]
        · rw [pu_t (by omega)]; exact (hB j hj).1
        · rw [pu_t (by omega)]; exact (hB j hj).2
      · show pu μk 16 0 15 _ 16 0 21 = -1
        rw [pu_j (by omega), hA 16 0 21 (by omega) (by omega), k1 16 21 (by omega) (by omega)]; exact h2
    | succ rr ih =>
      intro k hk μk hA hB hC hD
      have e15 : μk 16 0 15 = nI S.length := by rw [hA 16 0 15 (by omega) (by omega), k1 16 15 (by omega) (by omega)]; exact h0
      refine Ax_br rfl (fun hb => absurd hb (nI_ge (by omega) (by omega))) (fun _ => ?_)
      (repeat refine Ax_step rfl ?_)
      have put : ∀ v : Int32, v = (if k = 0 then x else 0) → Ax 42 48 [some (pR 16 0), some (pI (nI m')), some (pI x), some (pI (nI k))] [pI v, pI (nI 4 * μk 16 0 15 + nI k), pR 30 0] μk (fun y r' μ1 => y = 0 ∧ Q r' μ1) := by
        intro v hv
        rw [e15, pk_mul, nI_add, Nat.mul_comm 4]
        refine Ax_ast (S.length * 4 + k) rfl rfl (show S.length * 4 + k < 48 by omega) ?_
        (repeat refine Ax_step rfl ?_)
        rw [pu_t (by omega), e15, pk_mul, nI_add, Nat.mul_comm 4]
        refine Ax_ast (S.length * 4 + k) rfl rfl (show S.length * 4 + k < 48 by omega) ?_
        (repeat refine Ax_step rfl ?_)
        rw [nI_add]
        refine ih (k + 1) (by omega) _ (fun t mm j a b => by rw [pu_t b, pu_t a]; exact hA t mm j a b) (fun j hj => ⟨by rw [pu_t (by omega), pu_j (by omega)]; exact (hB j hj).1, by rw [pu_j (by omega), pu_t (by omega)]; exact (hB j hj).2⟩) (fun j hj => ?_) (fun j hj => ?_)
        · rw [pu_t (by omega)]
          by_cases e : j = k
          · subst e; rw [pu_s]; exact hv
          · rw [pu_j (by omega)]; exact hC j (by omega)
        · by_cases e : j = k
          · subst e; exact pu_s
          · rw [pu_j (by omega), pu_t (by omega)]; exact hD j (by omega)
      refine Ax_br rfl (fun hb => ?_) (fun hb => ?_)
      · (repeat refine Ax_step rfl ?_)
        refine put _ ?_
        rw [if_neg]
        · rfl
        · rintro rfl; exact hb rfl
      · (repeat refine Ax_step rfl ?_)
        refine put _ ?_
        rw [if_pos]
        rcases Nat.eq_zero_or_pos k with z | z
        · exact z
        · exact absurd (nI_ne0 z (by omega)) hb
  exact loop 4 0 (by omega) μ1 (fun _ _ _ _ _ => rfl) (fun j hj => ⟨k1 30 j (by omega) (by omega), k1 31 j (by omega) (by omega)⟩) (fun j hj => by omega) (fun j hj => by omega)
theorem r_leave {f : FR} {v : Int32} (hT : TI μ0) (hR0 : TR μ0 μ) (hS : sok μ0 (f :: r)) (hR : RCr μ (f :: r, none)) (hl : r.length < 12) (h : ∀ μ', RCr μ' (gvS μ0 v (f :: r)) → frN μ μ' → Q none μ') : Cl 43 [pR 16 0, pI v] μ Q := by
  refine Cl_in rfl ?_
  (repeat refine Ax_step rfl ?_)
  rw [hR.1.1, show (f :: r : List FR).length = r.length + 1 from rfl, nI_s1]
  generalize hμ1 : pu (pu μ 16 0 15 (nI r.length)) 16 0 22 v = μ1
  have h1 : RMr μ1 r := by rw [← hμ1]; exact nr_fld (by omega) (nr_pop hR.1)
  have f1 : frN μ μ1 := by rw [← hμ1]; exact (frN.fld (Or.inl rfl)).tr (frN.fld (Or.inr (Or.inr rfl)))
  have e21 : μ1 16 0 21 = -1 := by rw [← hμ1, pu_j (by omega), pu_j (by omega)]; exact hR.2
  have e22 : μ1 16 0 22 = v := by rw [← hμ1]; exact pu_s
  rw [h1.1]
  have hR1 := f1.TR hR0
  match r with
  | [] =>
    refine Ax_br rfl (fun _ => ?_) (fun hb => absurd (show nI 0 ≤ 0 by decide) hb)
    exact Ax_rV rfl ⟨rfl, h μ1 ⟨h1, e22, e21⟩ f1⟩
  | (m, p, rg, cg) :: r =>
    have hl' : ((m, p, rg, cg) :: r : List FR).length = r.length + 1 := rfl
    rw [hl'] at hl
    obtain ⟨⟨g1, g2, g3⟩, g4⟩ := hS.2 (m, p, rg, cg) List.mem_cons_self
    have hm8 : m < 8 := by have := hT.m.2; have : m < mct μ0 := g1; omega
    have hs := (hT.s hm8).2
    have hp : p < szm μ0 m := g4.1
    obtain ⟨k, hc, hk, -, -, -, -, h6, -⟩ := hT.i hm8 hp
    have hk6 : k = 6 := by have := nI_self hc (by omega); have e : opc μ0 m p = 6 := g4.2; unfold opc tn at e; omega
    obtain ⟨⟨x, hx, e⟩, -⟩ := h6 hk6
    obtain ⟨-, i2, -⟩ := hR1.i hm8 (show p < 24 by omega)
    refine Ax_br rfl (fun hb => absurd hb (nI_nle (by rw [hl']; omega) (by rw [hl']; omega))) (fun _ => ?_)
    (repeat refine Ax_step rfl ?_)
    rw [h1.1, hl', nI_s1]
    refine Ax_ald r.length rfl rfl (show r.length < 12 by omega) ?_
    rw [show μ1 28 0 r.length = nI m from h1.2.1]
    (repeat refine Ax_step rfl ?_)
    refine Ax_ald r.length rfl rfl (show r.length < 12 by omega) ?_
    rw [show μ1 29 0 r.length = nI p from h1.2.2.1]
    (repeat refine Ax_step rfl ?_)
    rw [pk_mul, nI_add]
    refine Ax_ald (24 * m + p) rfl rfl (show 24 * m + p < 192 by omega) ?_
    rw [i2, e]
    (repeat refine Ax_step rfl ?_)
    rw [pk_mul, nI_add, Nat.mul_comm 4]
    refine Ax_ast (r.length * 4 + x) rfl rfl (show r.length * 4 + x < 48 by omega) ?_
    (repeat refine Ax_step rfl ?_)
    refine Ax_ald r.length rfl rfl (show r.length < 12 by omega) ?_
    rw [pu_t (by omega), show μ1 29 0 r.length = nI p from h1.2.2.1]
    (repeat refine Ax_step rfl ?_)
    rw [nI_add]
    refine Ax_ast r.length rfl rfl (show r.length < 12 by omega) ?_
    refine Ax_rV rfl ⟨rfl, h _ ?_ ((f1.tr (frN.row (by omega) (by omega))).tr (frN.row (by omega) (by omega)))⟩
    show RCr _ ((m, p + 1, upd rg (oa μ0 m p) v, cg) :: r, none)
    rw [show oa μ0 m p = x from nI_self e (by omega)]
    refine ⟨nr_place (p := p) (nr_reg h1 hx), ?_⟩
    show pu _ 29 0 _ _ 16 0 21 = -1
    rw [pu_t (by omega), pu_t (by omega)]; exact e21
theorem r_throw {c : Nat} (hT : TI μ0) (hc : c < kct μ0) : ∀ (S : List FR) (μk : PM) (z3 z4 z5 : Option PV), (∀ g ∈ S, fok μ0 g) → S.length ≤ 12 → RMr μk S → TR μ0 μk → frN μ μk → (∀ μ', RCr μ' (thS μ0 c S) → frN μ μ' → Q none μ') → Ax 44 3 [some (pR 16 0), some (pI (nI c)), some (pI 1), z3, z4, z5] [pI 1] μk (fun y r' μ1 => y = 0 ∧ Q r' μ1)
  | [], μk, z3, z4, z5, _, _, hR, hR0, hf, h => by
    refine Ax_br rfl (fun hb => absurd hb (by decide)) (fun _ => ?_)
    (repeat refine Ax_step rfl ?_)
    rw [hR.1]
    refine Ax_br rfl (fun _ => ?_) (fun hb => absurd (show nI 0 ≤ 0 by decide) hb)
    (repeat refine Ax_step rfl ?_)
    refine Ax_br rfl (fun hb => absurd hb (by decide)) (fun _ => ?_)
    (repeat refine Ax_step rfl ?_)
    exact Ax_rV rfl ⟨rfl, h _ ⟨nr_fld (by omega) hR, pu_s⟩ (hf.tr (frN.fld (Or.inr (Or.inl rfl))))⟩
  | (m, p, rg, cg) :: r, μk, z3, z4, z5, hok, hl, hR, hR0, hf, h => by
    have hl' : ((m, p, rg, cg) :: r : List FR).length = r.length + 1 := rfl
    rw [hl'] at hl
    have hk := hT.k
    have hfo := hok (m, p, rg, cg) List.mem_cons_self
    have hm8 : m < 8 := by have := hT.m.2; have : m < mct μ0 := hfo.1; omega
    refine Ax_br rfl (fun hb => absurd hb (by decide)) (fun _ => ?_)
    (repeat refine Ax_step rfl ?_)
    rw [hR.1, hl']
    refine Ax_br rfl (fun hb => absurd hb (nI_nle (by omega) (by omega))) (fun _ => ?_)
    (repeat refine Ax_step rfl ?_)
    rw [hR.1, hl', nI_s1]
    refine Ax_ald r.length rfl rfl (show r.length < 12 by omega) ?_
    rw [show μk 28 0 r.length = nI m from hR.2.1]
    (repeat refine Ax_step rfl ?_)
    refine Ax_ald r.length rfl rfl (show r.length < 12 by omega) ?_
    rw [show μk 29 0 r.length = nI p from hR.2.2.1]
    (repeat refine Ax_step rfl ?_)
    refine Ax_call rfl (r_catcher hT hR0 hm8 hc ?_)
    change Ax 44 41 _ (ppu (some (pI (ctI (cat μ0 m p c)))) []) μk _
    (repeat refine Ax_step rfl ?_)
    cases hz : cat μ0 m p c with
    | none =>
      have e2 : thS μ0 c ((m, p, rg, cg) :: r) = thS μ0 c r := by
        show (match cat μ0 m p c with | some h => _ | none => thS μ0 c r) = _
        rw [hz]
      rw [e2] at h
      refine Ax_br rfl (fun _ => ?_) (fun hb => absurd (by decide) hb)
      (repeat refine Ax_step rfl ?_)
      rw [hR.1, hl', nI_s1]
      exact r_throw hT hc r _ _ _ _ (fun g hg => hok g (List.mem_cons_of_mem _ hg)) (by omega) (nr_pop hR) ((frN.fld (Or.inl rfl)).TR hR0) (hf.tr (frN.fld (Or.inl rfl))) h
    | some k =>
      have hk4 := hT.cat_lt hm8 hz
      have hkk := catF_lt _ _ _ hz
      obtain ⟨-, -, -, t, ht, e⟩ := hT.hd hm8 (show k < hcm μ0 m by omega)
      have e2 : thS μ0 c ((m, p, rg, cg) :: r) = ((m, t, rg, upd cg k (nI c)) :: r, none) := by
        show (match cat μ0 m p c with | some h => ((m, tn (μ0 47 m h), rg, upd cg h (nI c)) :: r, none) | none => thS μ0 c r) = _
        rw [hz]
        show ((m, tn (μ0 47 m k), rg, upd cg k (nI c)) :: r, none) = _
        rw [show tn (μ0 47 m k) = t from nI_self e (by omega)]
      rw [e2] at h
      obtain ⟨-, -, -, i4⟩ := hR0.hd hm8 hk4
      refine Ax_br rfl (fun hb => absurd hb (nI_pos (by omega))) (fun _ => ?_)
      show Ax 44 48 [_, _, _, some (pI (nI r.length)), some (pI (nI m)), some (pI (nI k))] _ _ _
      (repeat refine Ax_step rfl ?_)
      rw [pk_mul, nI_add, Nat.mul_comm 4]
      refine Ax_ast (r.length * 4 + k) rfl rfl (show r.length * 4 + k < 48 by omega) ?_
      (repeat refine Ax_step rfl ?_)
      rw [pk_mul, nI_add]
      refine Ax_ald (4 * m + k) rfl rfl (show 4 * m + k < 32 by omega) ?_
      rw [pu_t (by omega), i4, e]
      refine Ax_ast r.length rfl rfl (show r.length < 12 by omega) ?_
      (repeat refine Ax_step rfl ?_)
      refine Ax_br rfl (fun _ => ?_) (fun hb => absurd (by decide) hb)
      (repeat refine Ax_step rfl ?_)
      refine Ax_br rfl (fun _ => ?_) (fun hb => absurd (by decide) hb)
      (repeat refine Ax_step rfl ?_)
      exact Ax_rV rfl ⟨rfl, h _ ⟨nr_fld (by omega) (nr_place (p := p) (nr_cau hR hk4)), pu_s⟩ (((hf.tr (frN.row (by omega) (by omega))).tr (frN.row (by omega) (by omega))).tr (frN.fld (Or.inr (Or.inl rfl))))⟩
theorem r_raise {c : Nat} {S : List FR} (hT : TI μ0) (hR0 : TR μ0 μ) (hc : c < kct μ0) (hok : ∀ g ∈ S, fok μ0 g) (hl : S.length ≤ 12) (hR : RCr μ (S, none)) (h : ∀ μ', RCr μ' (thS μ0 c S) → frN μ μ' → Q none μ') : Cl 44 [pR 16 0, pI (nI c)] μ Q := by
  refine Cl_in rfl ?_
  (repeat refine Ax_step rfl ?_)
  exact r_throw hT hc S μ _ _ _ hok hl hR.1 hR0 (frN.rf μ) h
/-- the place moves on -/
theorem nr_on (hR : RCr μ ((m, p, rg, cg) :: r, none)) : RCr (pu μ 29 0 r.length (nI (p + 1))) ((m, p + 1, rg, cg) :: r, none) := ⟨nr_place hR.1, by show pu _ 29 0 _ _ 16 0 21 = -1; rw [pu_t (by omega)]; exact hR.2⟩
theorem nr_onr {a : Nat} {v : Int32} (ha : a < 4) (hR : RCr μ ((m, p, rg, cg) :: r, none)) : RCr (pu (pu μ 30 0 (r.length * 4 + a) v) 29 0 r.length (nI (p + 1))) ((m, p + 1, upd rg a v, cg) :: r, none) := nr_on ⟨nr_reg hR.1 ha, by show pu _ 30 0 _ _ 16 0 21 = -1; rw [pu_t (by omega)]; exact hR.2⟩
theorem frN.two {t t' j j' : Nat} {x x' : Int32} (h : 28 ≤ t) (h2 : t ≤ 31) (h3 : 28 ≤ t') (h4 : t' ≤ 31) : frN μ (pu (pu μ t 0 j x) t' 0 j' x') := (frN.row h h2).tr (frN.row h3 h4)
set_option maxHeartbeats 1000000 in
theorem r_act (hT : TI μ0) (hR0 : TR μ0 μ) (hS : sok μ0 ((m, p, rg, cg) :: r)) (hp : p < szm μ0 m) (hR : RCr μ ((m, p, rg, cg) :: r, none)) (hl : r.length < 12) (h : ∀ μ', RCr μ' (stS μ0 ((m, p, rg, cg) :: r)) → frN μ μ' → Q none μ') : Cl 48 [pR 16 0] μ Q := by
  have hfo := hS.1
  have hmc : m < mct μ0 := hfo.1
  have hm8 : m < 8 := by have := hT.m.2; omega
  have hs := (hT.s hm8).2
  have hkc := hT.k
  have hl' : ((m, p, rg, cg) :: r : List FR).length = r.length + 1 := rfl
  obtain ⟨k, hc, hk10, h0, h1, h4, h5, h6, h7⟩ := hT.i hm8 hp
  have hop : opc μ0 m p = k := nI_self hc (by omega)
  obtain ⟨i1, i2, i3⟩ := hR0.i hm8 (show p < 24 by omega)
  have hat : 24 * m + p < 192 := by omega
  have ePl : μ 29 0 r.length = nI p := hR.1.2.2.1
  have eRg : ∀ j, j < 4 → μ 30 0 (r.length * 4 + j) = rg j := hR.1.2.2.2.1
  have eCg : ∀ j, j < 4 → μ 31 0 (r.length * 4 + j) = cg j := hR.1.2.2.2.2.1
  refine Cl_in rfl ?_
  (repeat refine Ax_step rfl ?_)
  rw [hR.1.1, hl', nI_s1]
  refine Ax_ald r.length rfl rfl (show r.length < 12 by omega) ?_
  rw [show μ 28 0 r.length = nI m from hR.1.2.1]
  (repeat refine Ax_step rfl ?_)
  refine Ax_ald r.length rfl rfl (show r.length < 12 by omega) ?_
  rw [ePl]
  (repeat refine Ax_step rfl ?_)
  rw [pk_mul, nI_add]
  refine Ax_ald (24 * m + p) rfl rfl hat ?_
  rw [i2]
  (repeat refine Ax_step rfl ?_)
  refine Ax_ald (24 * m + p) rfl rfl hat ?_
  rw [i3]
  (repeat refine Ax_step rfl ?_)
  refine Ax_ald (24 * m + p) rfl rfl hat ?_
  rw [i1]
  refine Ax_sw rfl ?_
  rw [psw_at hc (by omega) rfl]
  unfold stS at h
  dsimp only at h
  rw [hop] at h
  match k, hk10 with
  | 0, _ =>
    obtain ⟨x, hx, e⟩ := h0 (by omega)
    rw [show oa μ0 m p = x from nI_self e (by omega)] at h
    show Ax 48 96 _ _ _ _
    rw [e]
    (repeat refine Ax_step rfl ?_)
    rw [pk_mul, nI_add, Nat.mul_comm 4]
    refine Ax_ast (r.length * 4 + x) rfl rfl (show r.length * 4 + x < 48 by omega) ?_
    (repeat refine Ax_step rfl ?_)
    refine Ax_ald r.length rfl rfl (show r.length < 12 by omega) ?_
    rw [pu_t (by omega), ePl]
    (repeat refine Ax_step rfl ?_)
    rw [nI_add]
    refine Ax_ast r.length rfl rfl (show r.length < 12 by omega) ?_
    (repeat refine Ax_step rfl ?_)
    exact Ax_rV rfl ⟨rfl, h _ (nr_onr hx hR) (frN.two (by omega) (by omega) (by omega) (by omega))⟩
  | 1, _ =>
    obtain ⟨⟨x, hx, e⟩, y, hy, e2⟩ := h1 (by omega)
    rw [show oa μ0 m p = x from nI_self e (by omega), show ob μ0 m p = y from nI_self e2 (by omega)] at h
    show Ax 48 121 _ _ _ _
    rw [e, e2]
    (repeat refine Ax_step rfl ?_)
    rw [pk_mul, nI_add, Nat.mul_comm 4]
    refine Ax_ald (r.length * 4 + x) rfl rfl (show r.length * 4 + x < 48 by omega) ?_
    rw [eRg x hx]
    (repeat refine Ax_step rfl ?_)
    rw [pk_mul, nI_add, Nat.mul_comm 4]
    refine Ax_ald (r.length * 4 + y) rfl rfl (show r.length * 4 + y < 48 by omega) ?_
    rw [eRg y hy]
    (repeat refine Ax_step rfl ?_)
    refine Ax_ast (r.length * 4 + x) rfl rfl (show r.length * 4 + x < 48 by omega) ?_
    (repeat refine Ax_step rfl ?_)
    refine Ax_ald r.length rfl rfl (show r.length < 12 by omega) ?_
    rw [pu_t (by omega), ePl]
    (repeat refine Ax_step rfl ?_)
    rw [nI_add]
    refine Ax_ast r.length rfl rfl (show r.length < 12 by omega) ?_
    (repeat refine Ax_step rfl ?_)
    exact Ax_rV rfl ⟨rfl, h _ (nr_onr hx hR) (frN.two (by omega) (by omega) (by omega) (by omega))⟩
  | 2, _ =>
    obtain ⟨⟨x, hx, e⟩, y, hy, e2⟩ := h1 (by omega)
    rw [show oa μ0 m p = x from nI_self e (by omega), show ob μ0 m p = y from nI_self e2 (by omega)] at h
    show Ax 48 166 _ _ _ _
    rw [e, e2]
    (repeat refine Ax_step rfl ?_)
    rw [pk_mul, nI_add, Nat.mul_comm 4]
    refine Ax_ald (r.length * 4 + x) rfl rfl (show r.length * 4 + x < 48 by omega) ?_
    rw [eRg x hx]
    (repeat refine Ax_step rfl ?_)
    rw [pk_mul, nI_add, Nat.mul_comm 4]
    refine Ax_ald (r.length * 4 + y) rfl rfl (show r.length * 4 + y < 48 by omega) ?_
    rw [eRg y hy]
    (repeat refine Ax_step rfl ?_)
    refine Ax_ast (r.length * 4 + x) rfl rfl (show r.length * 4 + x < 48 by omega) ?_
    (repeat refine Ax_step rfl ?_)
    refine Ax_ald r.length rfl rfl (show r.length < 12 by omega) ?_
    rw [pu_t (by omega), ePl]
    (repeat refine Ax_step rfl ?_)
    rw [nI_add]
    refine Ax_ast r.length rfl rfl (show r.length < 12 by omega) ?_
    (repeat refine Ax_step rfl ?_)
    exact Ax_rV rfl ⟨rfl, h _ (nr_onr hx hR) (frN.two (by omega) (by omega) (by omega) (by omega))⟩
  | 3, _ =>
    obtain ⟨⟨x, hx, e⟩, y, hy, e2⟩ := h1 (by omega)
    rw [show oa μ0 m p = x from nI_self e (by omega), show ob μ0 m p = y from nI_self e2 (by omega)] at h
    show Ax 48 211 _ _ _ _
    rw [e, e2]
    (repeat refine Ax_step rfl ?_)
    refine Ax_call rfl (Cl_in rfl ?_)
    (repeat refine Ax_step rfl ?_)
    rw [pk_mul, nI_add, Nat.mul_comm 4]
    refine Ax_ald (r.length * 4 + y) rfl rfl (show r.length * 4 + y < 48 by omega) ?_
    rw [eRg y hy]
    (repeat refine Ax_step rfl ?_)
    refine Ax_br rfl (fun hb => ?_) (fun hb => ?_)
    · (repeat refine Ax_step rfl ?_)
      rw [pk_mul, nI_add, Nat.mul_comm 4]
      refine Ax_ald (r.length * 4 + x) rfl rfl (show r.length * 4 + x < 48 by omega) ?_
      rw [eRg x hx]
      (repeat refine Ax_step rfl ?_)
      refine Ax_div rfl hb ?_
      refine Ax_ast (r.length * 4 + x) rfl rfl (show r.length * 4 + x < 48 by omega) ?_
      (repeat refine Ax_step rfl ?_)
      refine Ax_ald r.length rfl rfl (show r.length < 12 by omega) ?_
      rw [pu_t (by omega), ePl]
      (repeat refine Ax_step rfl ?_)
      rw [nI_add]
      refine Ax_ast r.length rfl rfl (show r.length < 12 by omega) ?_
      refine Ax_rV rfl ⟨rfl, ?_⟩
      (repeat refine Ax_step rfl ?_)
      refine Ax_rV rfl ⟨rfl, h _ ?_ (frN.two (by omega) (by omega) (by omega) (by omega))⟩
      show RCr _ (if rg y = 0 then _ else _)
      rw [if_neg hb]
      exact nr_onr hx hR
    · have hb0 : rg y = 0 := Decidable.byContradiction hb
      (repeat refine Ax_step rfl ?_)
      refine Ax_call rfl (r_raise (c := 1) hT hR0 (by omega) (sok_all hS) (by rw [hl']; omega) hR (fun μ' k1 k2 => ?_))
      (repeat refine Ax_step rfl ?_)
      refine Ax_rV rfl ⟨rfl, ?_⟩
      (repeat refine Ax_step rfl ?_)
      refine Ax_rV rfl ⟨rfl, h μ' ?_ k2⟩
      show RCr μ' (if rg y = 0 then _ else _)
      rw [if_pos hb0]
      exact k1
  | 4, _ =>
    obtain ⟨x, hx, e⟩ := h4 rfl
    rw [show oa μ0 m p = x from nI_self e (by omega)] at h
    show Ax 48 222 _ _ _ _
    rw [e]
    (repeat refine Ax_step rfl ?_)
    refine Ax_ast r.length rfl rfl (show r.length < 12 by omega) ?_
    (repeat refine Ax_step rfl ?_)
    refine Ax_rV rfl ⟨rfl, h _ ⟨nr_place hR.1, ?_⟩ (frN.row (by omega) (by omega))⟩
    show pu _ 29 0 _ _ 16 0 21 = -1
    rw [pu_t (by omega)]; exact hR.2
  | 5, _ =>
    obtain ⟨⟨x, hx, e⟩, y, hy, e2⟩ := h5 rfl
    rw [show oa μ0 m p = x from nI_self e (by omega), show ob μ0 m p = y from nI_self e2 (by omega)] at h
    show Ax 48 232 _ _ _ _
    rw [e, e2]
    have put : ∀ q : Nat, RCr (pu μ 29 0 r.length (nI q)) ((m, q, rg, cg) :: r, none) := fun q => ⟨nr_place hR.1, by show pu _ 29 0 _ _ 16 0 21 = -1; rw [pu_t (by omega)]; exact hR.2⟩
    (repeat refine Ax_step rfl ?_)
    rw [pk_mul, nI_add, Nat.mul_comm 4]
    refine Ax_ald (r.length * 4 + x) rfl rfl (show r.length * 4 + x < 48 by omega) ?_
    rw [eRg x hx]
    refine Ax_br rfl (fun hb => ?_) (fun hb => ?_)
    · (repeat refine Ax_step rfl ?_)
      refine Ax_ald r.length rfl rfl (show r.length < 12 by omega) ?_
      rw [ePl]
      (repeat refine Ax_step rfl ?_)
      rw [nI_add]
      refine Ax_ast r.length rfl rfl (show r.length < 12 by omega) ?_
      (repeat refine Ax_step rfl ?_)
      refine Ax_rV rfl ⟨rfl, h _ ?_ (frN.row (by omega) (by omega))⟩
      show RCr _ ((m, if rg x = 0 then y else p + 1, rg, cg) :: r, none)
      rw [if_neg hb]
      exact put (p + 1)
    · have hb0 : rg x = 0 := Decidable.byContradiction hb
      (repeat refine Ax_step rfl ?_)
      refine Ax_ast r.length rfl rfl (show r.length < 12 by omega) ?_
      (repeat refine Ax_step rfl ?_)
      refine Ax_rV rfl ⟨rfl, h _ ?_ (frN.row (by omega) (by omega))⟩
      show RCr _ ((m, if rg x = 0 then y else p + 1, rg, cg) :: r, none)
      rw [if_pos hb0]
      exact put y
  | 6, _ =>
    obtain ⟨⟨x, hx, e⟩, y, hy, e2⟩ := h6 rfl
    rw [show oa μ0 m p = x from nI_self e (by omega), show ob μ0 m p = y from nI_self e2 (by omega)] at h
    show Ax 48 267 _ _ _ _
    rw [e, e2]
    (repeat refine Ax_step rfl ?_)
    refine Ax_call rfl (Cl_in rfl ?_)
    (repeat refine Ax_step rfl ?_)
    rw [hR.1.1, hl']
    refine Ax_br rfl (fun hb => ?_) (fun hb => ?_)
    · have hne : r.length + 1 ≠ 12 := fun z => hb (by rw [z])
      (repeat refine Ax_step rfl ?_)
      refine Ax_call rfl (r_isMethod hT hR0 (fun b hb2 eb => ?_) (fun no => ?_))
      · have eb2 := (nI_eq (by omega) (by have := hT.m.2; omega)).mp eb
        subst eb2
        refine Ax_br rfl (fun hb => absurd hb (by decide)) (fun _ => ?_)
        (repeat refine Ax_step rfl ?_)
        rw [pk_mul, nI_add, Nat.mul_comm 4]
        refine Ax_ald (r.length * 4 + x) rfl rfl (show r.length * 4 + x < 48 by omega) ?_
        rw [eRg x hx]
        refine Ax_call rfl (r_enter hR rfl (by rw [hl']; omega) (fun μ' k1 k2 => ?_))
        (repeat refine Ax_step rfl ?_)
        refine Ax_rV rfl ⟨rfl, ?_⟩
        (repeat refine Ax_step rfl ?_)
        refine Ax_rV rfl ⟨rfl, h μ' ?_ k2⟩
        show RCr μ' (if r.length + 1 = 12 then _ else if y < mct μ0 then _ else _)
        rw [if_neg hne, if_pos hb2]
        exact k1
      · refine Ax_br rfl (fun _ => ?_) (fun hb => absurd rfl hb)
        (repeat refine Ax_step rfl ?_)
        rw [pk_mul, nI_add, Nat.mul_comm 4]
        refine Ax_ast (r.length * 4 + x) rfl rfl (show r.length * 4 + x < 48 by omega) ?_
        (repeat refine Ax_step rfl ?_)
        refine Ax_ald r.length rfl rfl (show r.length < 12 by omega) ?_
        rw [pu_t (by omega), ePl]
        (repeat refine Ax_step rfl ?_)
        rw [nI_add]
        refine Ax_ast r.length rfl rfl (show r.length < 12 by omega) ?_
        refine Ax_rV rfl ⟨rfl, ?_⟩
        (repeat refine Ax_step rfl ?_)
        refine Ax_rV rfl ⟨rfl, h _ ?_ (frN.two (by omega) (by omega) (by omega) (by omega))⟩
        show RCr _ (if r.length + 1 = 12 then _ else if y < mct μ0 then _ else _)
        rw [if_neg hne, if_neg (fun z => no y z rfl)]
        exact nr_onr hx hR
    · have he : r.length + 1 = 12 := (nI_eq (by omega) (by omega)).mp (Decidable.byContradiction hb)
      (repeat refine Ax_step rfl ?_)
      refine Ax_call rfl (r_raise (c := 2) hT hR0 (by omega) (sok_all hS) (by rw [hl']; omega) hR (fun μ' k1 k2 => ?_))
      (repeat refine Ax_step rfl ?_)
      refine Ax_rV rfl ⟨rfl, ?_⟩
      (repeat refine Ax_step rfl ?_)
      refine Ax_rV rfl ⟨rfl, h μ' ?_ k2⟩
      show RCr μ' (if r.length + 1 = 12 then _ else if y < mct μ0 then _ else _)
      rw [if_pos he]
      exact k1
  | 7, _ =>
    obtain ⟨x, hx, e⟩ := h7 rfl
    rw [show oa μ0 m p = x from nI_self e (by omega)] at h
    show Ax 48 278 _ _ _ _
    rw [e]
    (repeat refine Ax_step rfl ?_)
    refine Ax_call rfl (r_raise hT hR0 hx (sok_all hS) (by rw [hl']; omega) hR (fun μ' k1 k2 => ?_))
    (repeat refine Ax_step rfl ?_)
    exact Ax_rV rfl ⟨rfl, h μ' k1 k2⟩
  | 8, _ =>
    obtain ⟨x, hx, e⟩ := h0 (by omega)
    rw [show oa μ0 m p = x from nI_self e (by omega)] at h
    show Ax 48 286 _ _ _ _
    rw [e]
    (repeat refine Ax_step rfl ?_)
    refine Ax_call rfl (Cl_in rfl ?_)
    (repeat refine Ax_step rfl ?_)
    rw [pk_mul, nI_add, Nat.mul_comm 4]
    refine Ax_ald (r.length * 4 + x) rfl rfl (show r.length * 4 + x < 48 by omega) ?_
    rw [eCg x hx]
    refine Ax_br rfl (fun hb => ?_) (fun hb => ?_)
    · have z : cg x = -1 := by
        rcases hfo.2.2 x hx with z | ⟨c, hcc, z⟩
        · exact z
        · have z' : cg x = nI c := z
          rw [z'] at hb
          exact absurd hb (nI_pos (by omega))
      (repeat refine Ax_step rfl ?_)
      refine Ax_ald r.length rfl rfl (show r.length < 12 by omega) ?_
      rw [ePl]
      (repeat refine Ax_step rfl ?_)
      rw [nI_add]
      refine Ax_ast r.length rfl rfl (show r.length < 12 by omega) ?_
      refine Ax_rV rfl ⟨rfl, ?_⟩
      (repeat refine Ax_step rfl ?_)
      refine Ax_rV rfl ⟨rfl, h _ ?_ (frN.row (by omega) (by omega))⟩
      show RCr _ (if cg x = -1 then _ else _)
      rw [if_pos z]
      exact nr_on hR
    · rcases hfo.2.2 x hx with z | ⟨c, hcc, z⟩
      · have z' : cg x = -1 := z
        rw [z'] at hb
        exact absurd (by decide) hb
      · have z' : cg x = nI c := z
        (repeat refine Ax_step rfl ?_)
        rw [pk_mul, nI_add, Nat.mul_comm 4]
        refine Ax_ald (r.length * 4 + x) rfl rfl (show r.length * 4 + x < 48 by omega) ?_
        rw [eCg x hx, z']
        refine Ax_call rfl (r_raise hT hR0 hcc (sok_all hS) (by rw [hl']; omega) hR (fun μ' k1 k2 => ?_))
        (repeat refine Ax_step rfl ?_)
        refine Ax_rV rfl ⟨rfl, ?_⟩
        (repeat refine Ax_step rfl ?_)
        refine Ax_rV rfl ⟨rfl, h μ' ?_ k2⟩
        show RCr μ' (if cg x = -1 then _ else thS μ0 (tn (cg x)) _)
        rw [if_neg (by rw [z']; exact nI_ne1 (by omega)), show tn (cg x) = c from nI_self z' (by omega)]
        exact k1
  | 9, _ =>
    obtain ⟨x, hx, e⟩ := h0 (by omega)
    rw [show oa μ0 m p = x from nI_self e (by omega)] at h
    show Ax 48 295 _ _ _ _
    rw [e]
    (repeat refine Ax_step rfl ?_)
    rw [pk_mul, nI_add, Nat.mul_comm 4]
    refine Ax_ald (r.length * 4 + x) rfl rfl (show r.length * 4 + x < 48 by omega) ?_
    rw [eRg x hx]
    refine Ax_call rfl (r_leave hT hR0 hS hR hl (fun μ' k1 k2 => ?_))
    exact Ax_rV rfl ⟨rfl, h μ' k1 k2⟩
  | n + 10, h => omega
end P28
