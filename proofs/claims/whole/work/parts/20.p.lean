/-! The class's machine does that. -/
def RM (μ : PM) (S : List FR) : Prop := μ 10 0 5 = nI S.length ∧ rpF 11 μ S
def resC (μ : PM) : RS → Prop
  | none => μ 10 0 8 = -1
  | some (.inl v) => μ 10 0 7 = v ∧ μ 10 0 8 = -1
  | some (.inr c) => μ 10 0 8 = nI c
def RC (μ : PM) (S : List FR × RS) : Prop := RM μ S.1 ∧ resC μ S.2
/-- the machine's rows and fields alone, and not what was used -/
def frM (μ μ' : PM) : Prop := (∀ t mm j, ¬ (10 ≤ t ∧ t ≤ 14) → μ' t mm j = μ t mm j) ∧ μ' 10 0 6 = μ 10 0 6
theorem frM.rf (μ : PM) : frM μ μ := ⟨fun _ _ _ _ => rfl, rfl⟩
theorem frM.tr {a b c : PM} (h : frM a b) (g : frM b c) : frM a c := ⟨fun t mm j ht => (g.1 t mm j ht).trans (h.1 t mm j ht), g.2.trans h.2⟩
theorem frM.ts {μ μ' : PM} (h : frM μ μ') : ts μ μ' := ts.of (S := fun t => 10 ≤ t ∧ t ≤ 14) h.1 (by omega) (by omega) (by omega) (fun t h => by omega)
theorem frM.row {μ : PM} {t j : Nat} {x : Int32} (h : 11 ≤ t) (h2 : t ≤ 14) : frM μ (pu μ t 0 j x) := ⟨fun t' mm j' ht => pu_t (by omega), pu_t (by omega)⟩
theorem frM.fld {μ : PM} {j : Nat} {x : Int32} (h : j ≠ 6) : frM μ (pu μ 10 0 j x) := ⟨fun t' mm j' ht => pu_t (by omega), pu_j (by omega)⟩
theorem nI_s1 (n : Nat) : nI (n + 1) - nI 1 = nI n := by rw [pk_sub (by omega), Nat.add_sub_cancel]
section P20
variable {μ : PM} {m p : Nat} {rg cg : Nat → Int32} {r : List FR} {Q : Option PV → PM → Prop}
theorem m_body (hR : RM μ ((m, p, rg, cg) :: r)) (hl : r.length < 12) (hm : m < 8) (h : Q (some (pR 40 m)) μ) : Cl 85 [pR 10 0] μ Q := by
  refine Cl_in rfl ?_
  (repeat refine Ax_step rfl ?_)
  rw [hR.1, show ((m, p, rg, cg) :: r : List FR).length = r.length + 1 from rfl, nI_s1]
  refine Ax_ald r.length rfl rfl hl ?_
  rw [hR.2.1]
  refine Ax_aal m rfl rfl hm ?_
  exact Ax_rR rfl ⟨rfl, h⟩
theorem m_content {a : Nat} (hR : RM μ ((m, p, rg, cg) :: r)) (hl : r.length < 12) (ha : a < 4) (h : Q (some (pI (rg a))) μ) : Cl 86 [pR 10 0, pI (nI a)] μ Q := by
  refine Cl_in rfl ?_
  (repeat refine Ax_step rfl ?_)
  rw [hR.1, show ((m, p, rg, cg) :: r : List FR).length = r.length + 1 from rfl, nI_s1, pk_mul, nI_add]
  refine Ax_ald (r.length * 4 + a) rfl rfl (show r.length * 4 + a < 48 by omega) ?_
  rw [hR.2.2.2.1 a ha]
  exact Ax_rI rfl ⟨rfl, h⟩
theorem rm_place {q : Nat} (hR : RM μ ((m, p, rg, cg) :: r)) : RM (pu μ 12 0 r.length (nI q)) ((m, q, rg, cg) :: r) := by
  obtain ⟨h0, h1, h2, h3, h4, h5⟩ := hR
  refine ⟨by rw [pu_t (by omega)]; exact h0, by rw [pu_t (by omega)]; exact h1, pu_s, fun j hj => by rw [pu_t (by omega)]; exact h3 j hj, fun j hj => by rw [pu_t (by omega)]; exact h4 j hj, ?_⟩
  exact rpF_keep r (fun j hj => ⟨pu_t (by omega), pu_j (by omega)⟩) (fun j hj => ⟨pu_t (by omega), pu_t (by omega)⟩) h5
theorem rm_reg {a : Nat} {v : Int32} (hR : RM μ ((m, p, rg, cg) :: r)) (ha : a < 4) : RM (pu μ 13 0 (r.length * 4 + a) v) ((m, p, upd rg a v, cg) :: r) := by
  obtain ⟨h0, h1, h2, h3, h4, h5⟩ := hR
  refine ⟨by rw [pu_t (by omega)]; exact h0, by rw [pu_t (by omega)]; exact h1, by rw [pu_t (by omega)]; exact h2, fun j hj => ?_, fun j hj => by rw [pu_t (by omega)]; exact h4 j hj, ?_⟩
  · by_cases e : j = a
    · subst e; rw [upd_s]; exact pu_s
    · rw [upd_n e, pu_j (by omega)]; exact h3 j hj
  · exact rpF_keep r (fun j hj => ⟨pu_t (by omega), pu_t (by omega)⟩) (fun j hj => ⟨pu_j (by omega), pu_t (by omega)⟩) h5
theorem rm_cau {a : Nat} {v : Int32} (hR : RM μ ((m, p, rg, cg) :: r)) (ha : a < 4) : RM (pu μ 14 0 (r.length * 4 + a) v) ((m, p, rg, upd cg a v) :: r) := by
  obtain ⟨h0, h1, h2, h3, h4, h5⟩ := hR
  refine ⟨by rw [pu_t (by omega)]; exact h0, by rw [pu_t (by omega)]; exact h1, by rw [pu_t (by omega)]; exact h2, fun j hj => by rw [pu_t (by omega)]; exact h3 j hj, fun j hj => ?_, ?_⟩
  · by_cases e : j = a
    · subst e; rw [upd_s]; exact pu_s
    · rw [upd_n e, pu_j (by omega)]; exact h4 j hj
  · exact rpF_keep r (fun j hj => ⟨pu_t (by omega), pu_t (by omega)⟩) (fun j hj => ⟨pu_t (by omega), pu_j (by omega)⟩) h5
theorem resC_keep {μ μ' : PM} {o : RS} (h7 : μ' 10 0 7 = μ 10 0 7) (h8 : μ' 10 0 8 = μ 10 0 8) (h : resC μ o) : resC μ' o := by
  match o with
  | none => show μ' 10 0 8 = -1; rw [h8]; exact h
  | some (.inl v) => show μ' 10 0 7 = v ∧ μ' 10 0 8 = -1; rw [h7, h8]; exact h
  | some (.inr c) => show μ' 10 0 8 = nI c; rw [h8]; exact h
theorem m_goTo {q : Nat} {o : RS} (hR : RC μ ((m, p, rg, cg) :: r, o)) (hl : r.length < 12) (h : ∀ μ', RC μ' ((m, q, rg, cg) :: r, o) → frM μ μ' → Q none μ') : Cl 88 [pR 10 0, pI (nI q)] μ Q := by
  refine Cl_in rfl ?_
  (repeat refine Ax_step rfl ?_)
  rw [hR.1.1, show ((m, p, rg, cg) :: r : List FR).length = r.length + 1 from rfl, nI_s1]
  refine Ax_ast r.length rfl rfl hl ?_
  exact Ax_rV rfl ⟨rfl, h _ ⟨rm_place hR.1, resC_keep (pu_t (by omega)) (pu_t (by omega)) hR.2⟩ (frM.row (by omega) (by omega))⟩
theorem m_goOn {o : RS} (hR : RC μ ((m, p, rg, cg) :: r, o)) (hl : r.length < 12) (h : ∀ μ', RC μ' ((m, p + 1, rg, cg) :: r, o) → frM μ μ' → Q none μ') : Cl 89 [pR 10 0] μ Q := by
  refine Cl_in rfl ?_
  (repeat refine Ax_step rfl ?_)
  rw [hR.1.1, show ((m, p, rg, cg) :: r : List FR).length = r.length + 1 from rfl, nI_s1]
  refine Ax_ald r.length rfl rfl hl ?_
  (repeat refine Ax_step rfl ?_)
  rw [show μ 12 0 r.length = nI p from hR.1.2.2.1, nI_add]
  refine Ax_ast r.length rfl rfl hl ?_
  exact Ax_rV rfl ⟨rfl, h _ ⟨rm_place hR.1, resC_keep (pu_t (by omega)) (pu_t (by omega)) hR.2⟩ (frM.row (by omega) (by omega))⟩
theorem m_become {a : Nat} {v : Int32} {o : RS} (hR : RC μ ((m, p, rg, cg) :: r, o)) (hl : r.length < 12) (ha : a < 4) (h : ∀ μ', RC μ' ((m, p + 1, upd rg a v, cg) :: r, o) → frM μ μ' → Q none μ') : Cl 90 [pR 10 0, pI (nI a), pI v] μ Q := by
  refine Cl_in rfl ?_
  (repeat refine Ax_step rfl ?_)
  rw [hR.1.1, show ((m, p, rg, cg) :: r : List FR).length = r.length + 1 from rfl, nI_s1, pk_mul, nI_add]
  refine Ax_ast (r.length * 4 + a) rfl rfl (show r.length * 4 + a < 48 by omega) ?_
  (repeat refine Ax_step rfl ?_)
  refine Ax_call rfl (m_goOn (m := m) (p := p) (rg := upd rg a v) (cg := cg) (r := r) (o := o) ⟨rm_reg hR.1 ha, resC_keep (pu_t (by omega)) (pu_t (by omega)) hR.2⟩ hl (fun μ' h1 h2 => ?_))
  exact Ax_rV rfl ⟨rfl, h μ' h1 ((frM.row (by omega) (by omega)).tr h2)⟩
theorem m_enter {S : List FR} {m' : Nat} {x : Int32} {o : RS} (hR : RC μ (S, o)) (hl : S.length < 12) (h : ∀ μ', RC μ' ((m', 0, (fun j => if j = 0 then x else 0), (fun _ => -1)) :: S, o) → frM μ μ' → Q none μ') : Cl 82 [pR 10 0, pI (nI m'), pI x] μ Q := by
  obtain ⟨⟨h0, h1⟩, h2⟩ := hR
  refine Cl_in rfl ?_
  (repeat refine Ax_step rfl ?_)
  rw [h0, nI_add]
  refine Ax_ast S.length rfl rfl hl ?_
  (repeat refine Ax_step rfl ?_)
  refine Ax_ast S.length rfl rfl hl ?_
  (repeat refine Ax_step rfl ?_)
  generalize hμ1 : pu (pu (pu μ 10 0 5 (nI (S.length + 1))) 11 0 S.length (nI m')) 12 0 S.length (nI 0) = μ1
  have f1 : frM μ μ1 := by rw [← hμ1]; exact ((frM.fld (by omega)).tr (frM.row (by omega) (by omega))).tr (frM.row (by omega) (by omega))
  have k1 : ∀ t j, t ≠ 10 → t ≠ 11 → t ≠ 12 → μ1 t 0 j = μ t 0 j := fun t j a b c => by rw [← hμ1, pu_t c, pu_t b, pu_t a]
  have loop2 : ∀ rr k, k + rr = 4 → ∀ μk : PM, (∀ t mm j, t ≠ 13 → t ≠ 14 → μk t mm j = μ1 t mm j) → (∀ j, j < S.length * 4 → μk 13 0 j = μ 13 0 j ∧ μk 14 0 j = μ 14 0 j) → (∀ j, j < 4 → μk 13 0 (S.length * 4 + j) = if j = 0 then x else 0) → (∀ j, j < k → μk 14 0 (S.length * 4 + j) = -1) →
      Ax 82 71 [some (pR 10 0), some (pI (nI m')), some (pI x), some (pI (nI S.length)), some (pI (nI k))] [pI (nI 4), pI (nI k)] μk (fun y r' μ1 => y = 0 ∧ Q r' μ1) := by
    intro rr
    induction rr with
    | zero =>
      intro k hk μk hA hB hC hD
      refine Ax_br rfl (fun _ => ?_) (fun hb => absurd (nI_le (by omega) (by omega)) hb)
      have e5 : μk 10 0 5 = nI (S.length + 1) := by rw [hA 10 0 5 (by omega) (by omega), ← hμ1, pu_t (by omega), pu_t (by omega), pu_s]
      refine Ax_rV rfl ⟨rfl, h μk ⟨⟨e5, ?_, ?_, hC, fun j hj => hD j (by omega), ?_⟩, ?_⟩ ⟨fun t mm j ht => by rw [hA t mm j (by omega) (by omega)]; exact f1.1 t mm j ht, by rw [hA 10 0 6 (by omega) (by omega)]; exact f1.2⟩⟩
      · rw [hA 11 0 _ (by omega) (by omega), ← hμ1, pu_t (by omega), pu_s]
      · rw [hA 12 0 _ (by omega) (by omega), ← hμ1, pu_s]
      · refine rpF_keep S (fun j hj => ⟨?_, ?_⟩) hB h1
        · rw [hA 11 0 j (by omega) (by omega), ← hμ1, pu_t (by omega), pu_j (by omega), pu_t (by omega)]
        · show μk 12 0 j = μ 12 0 j
          rw [hA 12 0 j (by omega) (by omega), ← hμ1, pu_j (by omega), pu_t (by omega), pu_t (by omega)]
      · refine resC_keep ?_ ?_ h2
        · rw [hA 10 0 7 (by omega) (by omega), ← hμ1, pu_t (by omega), pu_t (by omega), pu_j (by omega)]
        · rw [hA 10 0 8 (by omega) (by omega), ← hμ1, pu_t (by omega), pu_t (by omega), pu_j (by omega)]
    | succ rr ih =>
      intro k hk μk hA hB hC hD
      refine Ax_br rfl (fun hb => absurd hb (nI_ge (by omega) (by omega))) (fun _ => ?_)
      (repeat refine Ax_step rfl ?_)
      rw [pk_mul, nI_add]
      refine Ax_ast (S.length * 4 + k) rfl rfl (show S.length * 4 + k < 48 by omega) ?_
      (repeat refine Ax_step rfl ?_)
      rw [nI_add]
      refine ih (k + 1) (by omega) _ (fun t mm j a b => by rw [pu_t b]; exact hA t mm j a b) (fun j hj => ⟨by rw [pu_t (by omega)]; exact (hB j hj).1, by rw [pu_j (by omega)]; exact (hB j hj).2⟩) (fun j hj => by rw [pu_t (by omega)]; exact hC j hj) (fun j hj => ?_)
      by_cases e : j = k
      · subst e; exact pu_s
      · rw [pu_j (by omega)]; exact hD j (by omega)
  have loop1 : ∀ rr k, k + rr = 4 → ∀ μk : PM, (∀ t mm j, t ≠ 13 → μk t mm j = μ1 t mm j) → (∀ j, j < S.length * 4 → μk 13 0 j = μ 13 0 j) → (∀ j, j < k → μk 13 0 (S.length * 4 + j) = if j = 0 then x else 0) →
      Ax 82 35 [some (pR 10 0), some (pI (nI m')), some (pI x), some (pI (nI S.length)), some (pI (nI k))] [pI (nI 4), pI (nI k)] μk (fun y r' μ1 => y = 0 ∧ Q r' μ1) := by
    intro rr
    induction rr with
    | zero =>
      intro k hk μk hA hB hC
      refine Ax_br rfl (fun _ => ?_) (fun hb => absurd (nI_le (by omega) (by omega)) hb)
      (repeat refine Ax_step rfl ?_)
      exact loop2 4 0 (by omega) μk (fun t mm j a _ => hA t mm j a) (fun j hj => ⟨hB j hj, by rw [hA 14 0 j (by omega)]; exact k1 14 j (by omega) (by omega) (by omega)⟩) (fun j hj => hC j (by omega)) (fun j hj => by omega)
    | succ rr ih =>
      intro k hk μk hA hB hC
      refine Ax_br rfl (fun hb => absurd hb (nI_ge (by omega) (by omega))) (fun _ => ?_)
      (repeat refine Ax_step rfl ?_)
      have put : ∀ v : Int32, v = (if k = 0 then x else 0) → Ax 82 58 [some (pR 10 0), some (pI (nI m')), some (pI x), some (pI (nI S.length)), some (pI (nI k))] [pI v, pI (nI S.length * nI 4 + nI k), pR 13 0] μk (fun y r' μ1 => y = 0 ∧ Q r' μ1) := by
        intro v hv
        rw [pk_mul, nI_add]
        refine Ax_ast (S.length * 4 + k) rfl rfl (show S.length * 4 + k < 48 by omega) ?_
        (repeat refine Ax_step rfl ?_)
        rw [nI_add]
        refine ih (k + 1) (by omega) _ (fun t mm j a => by rw [pu_t a]; exact hA t mm j a) (fun j hj => by rw [pu_j (by omega)]; exact hB j hj) (fun j hj => ?_)
        by_cases e : j = k
        · subst e; rw [pu_s]; exact hv
        · rw [pu_j (by omega)]; exact hC j (by omega)
      refine Ax_br rfl (fun hb => ?_) (fun hb => ?_)
      · (repeat refine Ax_step rfl ?_)
        refine put _ ?_
        rw [if_neg]
        · rfl
        · rintro rfl; exact hb rfl
      · (repeat refine Ax_step rfl ?_)
        refine put _ ?_
        rw [if_pos]
        rcases Nat.eq_zero_or_pos k with z | z
        · exact z
        · exact absurd (nI_ne0 z (by omega)) hb
  exact loop1 4 0 (by omega) μ1 (fun _ _ _ _ => rfl) (fun j hj => k1 13 j (by omega) (by omega) (by omega)) (fun j hj => by omega)
end P20
