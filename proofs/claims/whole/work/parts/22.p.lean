/-! run. -/
def frT (μ μ' : PM) : Prop := ∀ t mm j, ¬ (10 ≤ t ∧ t ≤ 14) → μ' t mm j = μ t mm j
theorem frT.ts {μ μ' : PM} (h : frT μ μ') : ts μ μ' := ts.of (S := fun t => 10 ≤ t ∧ t ≤ 14) h (by omega) (by omega) (by omega) (fun t h => by omega)
/-- the first frame of a run -/
def fr0 (m : Nat) (x : Int32) : List FR := [(m, 0, (fun j => if j = 0 then x else 0), (fun _ => -1))]
/-- how a run of m with x and so much fuel ends, and what fuel is left -/
def rnS (μ : PM) (m : Nat) (x : Int32) (fuel : Nat) : (List FR × RS) × Nat := ruS μ fuel (enS μ 12 (fr0 m x, none))
def cmO : RS → Int32
  | some (.inr c) => nI c
  | _ => -1
theorem ts_rnS {μ μ' : PM} (h : ts μ μ') (m : Nat) (x : Int32) (fuel : Nat) : rnS μ' m x fuel = rnS μ m x fuel := by unfold rnS; rw [ts_enS h, ts_ruS h]
theorem ts_wok {μ μ' : PM} (h : ts μ μ') {S : List FR × RS} (hW : wok μ S) : wok μ' S := by
  have fo : ∀ f, fok μ f → fok μ' f := fun f k => ⟨by rw [ts_mct h]; exact k.1, k.2.1, fun j hj => by rw [ts_kct h]; exact k.2.2 j hj⟩
  have ac : ∀ f, atC μ f → atC μ' f := fun f k => ⟨by rw [ts_szm h]; exact k.1, by rw [ts_opc h]; exact k.2⟩
  obtain ⟨h1, h2, h3, h4⟩ := hW
  refine ⟨?_, h2, h3, fun c e => by rw [ts_kct h]; exact h4 c e⟩
  obtain ⟨St, rs⟩ := S
  match St with
  | [] => trivial
  | f :: r => exact ⟨fo f h1.1, fun g hg => ⟨fo g (h1.2 g hg).1, ac g (h1.2 g hg).2⟩⟩
section P22
variable {μ : PM}
theorem fr0_wok {m : Nat} {x : Int32} (hm : m < mct μ) : wok μ (fr0 m x, none) := by
  refine ⟨⟨⟨hm, Nat.zero_le _, fun j _ => Or.inl rfl⟩, fun g hg => by cases hg⟩, by show 1 ≤ 12; omega, ⟨fun z => (by cases z), fun z => absurd rfl z⟩, fun c z => (by cases z)⟩
theorem m_start {Q : Option PV → PM → Prop} {m fuel : Nat} {x : Int32} (hT : TI μ) (hm : m < mct μ) (hf : fuel ≤ 3000) (h : ∀ μ', frT μ μ' → RC μ' (rnS μ m x fuel).1 → μ' 10 0 6 = nI (fuel - (rnS μ m x fuel).2) → (rnS μ m x fuel).2 ≤ fuel → wok μ (rnS μ m x fuel).1 → Q none μ') : Cl 81 [pR 10 0, pI (nI m), pI x, pI (nI fuel)] μ Q := by
  have loop : ∀ (n u : Nat) (S : List FR × RS) (μ0 : PM), u + n = fuel → wok μ S → (∀ m p rg cg r, S.1 = (m, p, rg, cg) :: r → p < szm μ m) → RC μ0 S → frT μ μ0 → μ0 10 0 6 = nI u → (∀ μ', frT μ μ' → RC μ' (ruS μ n S).1 → μ' 10 0 6 = nI (fuel - (ruS μ n S).2) → (ruS μ n S).2 ≤ fuel → wok μ (ruS μ n S).1 → Q none μ') →
      Ax 81 30 [some (pR 10 0), some (pI (nI m)), some (pI x), some (pI (nI fuel))] [pI (nI fuel), pI (μ0 10 0 6)] μ0 (fun y r' μ1 => y = 0 ∧ Q r' μ1) := by
    intro n
    induction n with
    | zero =>
      intro u S μ0 hu hW hE hR hfr h6 h
      rw [h6]
      refine Ax_br rfl (fun _ => ?_) (fun hb => absurd (nI_le (by omega) (by omega)) hb)
      refine Ax_rV rfl ⟨rfl, h μ0 hfr hR (by rw [h6]; show nI u = nI (fuel - 0); rw [show u = fuel - 0 by omega]) (Nat.zero_le _) hW⟩
    | succ n ih =>
      intro u S μ0 hu hW hE hR hfr h6 h
      rw [h6]
      refine Ax_br rfl (fun hb => absurd hb (nI_ge (by omega) (by omega))) (fun _ => ?_)
      (repeat refine Ax_step rfl ?_)
      rw [hR.1.1]
      have hts := frT.ts hfr
      have hT0 := ts_TI hts hT
      obtain ⟨St, rs⟩ := S
      match St with
      | [] =>
        refine Ax_br rfl (fun _ => ?_) (fun hb => absurd (show nI 0 ≤ 0 by decide) hb)
        exact Ax_rV rfl ⟨rfl, h μ0 hfr hR (by rw [h6]; show nI u = nI (fuel - (n + 1)); rw [show u = fuel - (n + 1) by omega]) (by show n + 1 ≤ fuel; omega) hW⟩
      | (m1, p, rg, cg) :: r =>
        have hl' : ((m1, p, rg, cg) :: r : List FR).length = r.length + 1 := rfl
        have hl12 : r.length + 1 ≤ 12 := hW.2.1
        have hp := hE m1 p rg cg r rfl
        have hrs : rs = none := by
          cases rs with
          | none => rfl
          | some x => exact absurd (hW.2.2.1.mpr (fun z => by cases z)) (fun z => by cases z)
        subst hrs
        refine Ax_br rfl (fun hb => absurd hb (nI_nle (by rw [hl']; omega) (by rw [hl']; omega))) (fun _ => ?_)
        (repeat refine Ax_step rfl ?_)
        refine Ax_call rfl (m_ins hT0 (ts_wok hts hW).1 (by rw [ts_szm hts]; exact hp) hR (by omega) (fun μ1 k1 k2 => ?_))
        rw [ts_stS hts] at k1
        have hW1 := st_wok hT hW.1 hp hl12
        have fr1 : frT μ μ1 := fun t mm j ht => (k2.1 t mm j ht).trans (hfr t mm j ht)
        have hts1 := frT.ts fr1
        (repeat refine Ax_step rfl ?_)
        refine Ax_call rfl (m_ends (ts_TI hts1 hT) (ts_wok hts1 hW1) k1 (fun μ2 k3 k4 => ?_))
        rw [ts_enS hts1, ← en_st 12 _ hW1.2.1] at k3
        obtain ⟨hW2, hE2⟩ := en_wok hT 12 _ hW1 hW1.2.1
        (repeat refine Ax_step rfl ?_)
        have e6 : μ2 10 0 6 = nI u := by rw [k4.2, k2.2]; exact h6
        rw [e6, nI_add]
        refine ih (u + 1) _ _ (by omega) hW2 hE2 ⟨⟨by rw [pu_j (by omega)]; exact k3.1.1, rpF_same (fun j => pu_t (by omega)) (fun j => pu_t (by omega)) (fun j => pu_t (by omega)) (fun j => pu_t (by omega)) k3.1.2⟩, resC_keep (pu_j (by omega)) (pu_j (by omega)) k3.2⟩ (fun t mm j ht => by rw [pu_t (by omega), k4.1 t mm j ht]; exact fr1 t mm j ht) pu_s h
  refine Cl_in rfl ?_
  (repeat refine Ax_step rfl ?_)
  have fr1 : frT μ (pu (pu μ 10 0 5 (nI 0)) 10 0 8 (-1)) := fun t mm j ht => by rw [pu_t (by omega), pu_t (by omega)]
  have hR1 : RC (pu (pu μ 10 0 5 (nI 0)) 10 0 8 (-1)) ([], none) := ⟨⟨by rw [pu_j (by omega), pu_s]; rfl, trivial⟩, pu_s⟩
  refine Ax_call rfl (m_enter hR1 (by show 0 < 12; omega) (fun μ2 k1 k2 => ?_))
  (repeat refine Ax_step rfl ?_)
  have fr2 : frT μ μ2 := fun t mm j ht => (k2.1 t mm j ht).trans (fr1 t mm j ht)
  have hts2 := frT.ts fr2
  have hW2 := fr0_wok (x := x) hm
  refine Ax_call rfl (m_ends (S := (fr0 m x, none)) (ts_TI hts2 hT) (ts_wok hts2 hW2) k1 (fun μ3 k3 k4 => ?_))
  rw [ts_enS hts2, ← en_st 12 _ hW2.2.1] at k3
  obtain ⟨hW3, hE3⟩ := en_wok hT 12 _ hW2 hW2.2.1
  (repeat refine Ax_step rfl ?_)
  refine loop fuel 0 _ _ (by omega) hW3 hE3 ⟨⟨by rw [pu_j (by omega)]; exact k3.1.1, rpF_same (fun j => pu_t (by omega)) (fun j => pu_t (by omega)) (fun j => pu_t (by omega)) (fun j => pu_t (by omega)) k3.1.2⟩, resC_keep (pu_j (by omega)) (pu_j (by omega)) k3.2⟩ (fun t mm j ht => by rw [pu_t (by omega), k4.1 t mm j ht]; exact fr2 t mm j ht) pu_s h
/-- what a run leaves behind in the class -/
def rnP (μ μ' : PM) (m : Nat) (x : Int32) (fuel : Nat) : Prop := frT μ μ' ∧ μ' 10 0 6 = nI (fuel - (rnS μ m x fuel).2) ∧ μ' 10 0 8 = cmO (rnS μ m x fuel).1.2 ∧ (rnS μ m x fuel).2 ≤ fuel ∧ wok μ (rnS μ m x fuel).1
theorem t_run {Q : Nat → Option PV → PM → Prop} {x y z : Int32} (hT : TI μ) (h3 : (∀ m, m < mct μ → x ≠ nI m) → Q 3 none μ) (h1 : ∀ m, m < mct μ → x = nI m → (∀ f, f ≤ 3000 → z ≠ nI f) → Q 1 none μ)
    (h4 : ∀ μ' m f, m < mct μ → x = nI m → f ≤ 3000 → z = nI f → rnP μ μ' m y f → (rnS μ m y f).1.1 ≠ [] → Q 4 none μ')
    (h2 : ∀ μ' m f c, m < mct μ → x = nI m → f ≤ 3000 → z = nI f → rnP μ μ' m y f → (rnS μ m y f).1.2 = some (.inr c) → Q 2 none μ')
    (h : ∀ μ' m f v, m < mct μ → x = nI m → f ≤ 3000 → z = nI f → rnP μ μ' m y f → (rnS μ m y f).1.2 = some (.inl v) → Q 0 (some (pI v)) μ') : Ct 11 [pR 0 0, pI x, pI y, pI z] μ Q := by
  refine Ct_in rfl ?_
  (repeat refine Ax_step rfl ?_)
  refine Ax_call rfl (c_hasMethod hT (fun m hm e => ?_) (fun no => ?_))
  · subst e
    refine Ax_br rfl (fun _ => ?_) (fun hb => absurd (by decide) hb)
    (repeat refine Ax_step rfl ?_)
    refine Ax_br rfl (fun hb => ?_) (fun hb => ?_)
    · refine Ax_rX rfl (h1 m hm rfl (fun f hf e => ?_))
      rw [e] at hb
      exact nI_pos (by omega) hb
    · (repeat refine Ax_step rfl ?_)
      refine Ax_br rfl (fun hb2 => ?_) (fun hb2 => ?_)
      · obtain ⟨f, hf, e⟩ : ∃ f, f < 3001 ∧ z = nI f := nI_yes (by omega) hb (fun w => by
          have h1 := Int32.le_iff_toInt_le.mp hb2
          have h2 := Int32.le_iff_toInt_le.mp w
          rw [nI_toInt (by omega)] at h1 h2
          omega)
        subst e
        (repeat refine Ax_step rfl ?_)
        refine Ax_call rfl (m_start hT hm (show f ≤ 3000 by omega) (fun μ' fr hR h6 hle hW => ?_))
        (repeat refine Ax_step rfl ?_)
        refine Ax_call rfl (Cl_in rfl ?_)
        (repeat refine Ax_step rfl ?_)
        rw [hR.1.1]
        have hl12 := hW.2.1
        have hk := hT.k.2.2
        generalize hF : rnS μ m y f = F at hR h6 hle hW hl12
        obtain ⟨⟨St, rs⟩, rem⟩ := F
        have post : μ' 10 0 8 = cmO rs → rnP μ μ' m y f := fun e => ⟨fr, by rw [hF]; exact h6, by rw [hF]; exact e, by rw [hF]; exact hle, by rw [hF]; exact hW⟩
        match St with
        | g :: r =>
          have hrs : rs = none := by
            cases rs with
            | none => rfl
            | some x => exact absurd (hW.2.2.1.mpr (fun z => by cases z)) (fun z => by cases z)
          subst hrs
          have hl' : (g :: r : List FR).length = r.length + 1 := rfl
          have hl2 : r.length + 1 ≤ 12 := hl12
          refine Ax_br rfl (fun hb => absurd hb (nI_nle (by rw [hl']; omega) (by rw [hl']; omega))) (fun _ => ?_)
          (repeat refine Ax_step rfl ?_)
          refine Ax_rZ rfl (Or.inr rfl) ⟨rfl, ?_⟩
          refine Ax_br rfl (fun hb => absurd hb (by decide)) (fun _ => ?_)
          exact Ax_rX rfl (h4 μ' m f hm rfl (by omega) rfl (post hR.2) (by rw [hF]; intro z; cases z))
        | [] =>
          refine Ax_br rfl (fun _ => ?_) (fun hb => absurd (show nI 0 ≤ 0 by decide) hb)
          (repeat refine Ax_step rfl ?_)
          refine Ax_rZ rfl (Or.inl rfl) ⟨rfl, ?_⟩
          refine Ax_br rfl (fun _ => ?_) (fun hb => absurd rfl hb)
          (repeat refine Ax_step rfl ?_)
          match rs with
          | none => exact absurd rfl (hW.2.2.1.mp rfl)
          | some (.inl v) =>
            rw [hR.2.2]
            refine Ax_br rfl (fun _ => ?_) (fun hb => absurd rfl hb)
            (repeat refine Ax_step rfl ?_)
            rw [hR.2.1]
            exact Ax_rI rfl (h μ' m f v hm rfl (by omega) rfl (post hR.2.2) (by rw [hF]))
          | some (.inr c) =>
            have hc := hW.2.2.2 c rfl
            rw [show μ' 10 0 8 = nI c from hR.2]
            refine Ax_br rfl (fun hb => absurd hb (nI_ne1 (by omega))) (fun _ => ?_)
            exact Ax_rX rfl (h2 μ' m f c hm rfl (by omega) rfl (post hR.2) (by rw [hF]))
      · refine Ax_rX rfl (h1 m hm rfl (fun f hf e => ?_))
        rw [e] at hb2
        exact hb2 (nI_le hf (by omega))
  · refine Ax_br rfl (fun hb => absurd rfl hb) (fun _ => ?_)
    exact Ax_rX rfl (h3 no)
end P22
