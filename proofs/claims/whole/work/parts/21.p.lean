/-! giving back, throwing, an instruction, a whole run of the class. -/
section P21
variable {μ : PM} {m p : Nat} {rg cg : Nat → Int32} {r : List FR} {Q : Option PV → PM → Prop}
theorem rm_pop {f : FR} {S : List FR} (h : RM μ (f :: S)) : RM (pu μ 10 0 5 (nI S.length)) S := by
  obtain ⟨m, p, rg, cg⟩ := f
  exact ⟨pu_s, rpF_same (fun j => pu_t (by omega)) (fun j => pu_t (by omega)) (fun j => pu_t (by omega)) (fun j => pu_t (by omega)) h.2.2.2.2.2⟩
theorem m_giveBack {f : FR} {v : Int32} (hT : TI μ) (hS : sok μ (f :: r)) (hR : RC μ (f :: r, none)) (hl : r.length < 12) (h : ∀ μ', RC μ' (gvS μ v (f :: r)) → frM μ μ' → Q none μ') : Cl 93 [pR 10 0, pI v] μ Q := by
  refine Cl_in rfl ?_
  (repeat refine Ax_step rfl ?_)
  rw [hR.1.1, show (f :: r : List FR).length = r.length + 1 from rfl, nI_s1, pu_s]
  have h1 : RC (pu μ 10 0 5 (nI r.length)) (r, none) := ⟨rm_pop hR.1, resC_keep (pu_j (by omega)) (pu_j (by omega)) hR.2⟩
  have f1 : frM μ (pu μ 10 0 5 (nI r.length)) := frM.fld (by omega)
  match r with
  | [] =>
    refine Ax_br rfl (fun hb => absurd rfl hb) (fun _ => ?_)
    (repeat refine Ax_step rfl ?_)
    refine Ax_rV rfl ⟨rfl, h _ ⟨⟨?_, trivial⟩, ⟨pu_s, ?_⟩⟩ (f1.tr (frM.fld (by omega)))⟩
    · rw [pu_j (by omega)]; exact h1.1.1
    · rw [pu_j (by omega)]; exact h1.2
  | (m, p, rg, cg) :: r =>
    have hl' : ((m, p, rg, cg) :: r : List FR).length = r.length + 1 := rfl
    rw [hl'] at hl
    obtain ⟨⟨g1, g2, g3⟩, g4⟩ := hS.2 (m, p, rg, cg) List.mem_cons_self
    have hm8 : m < 8 := by have := hT.m.2; have : m < mct μ := g1; omega
    have hs := (hT.s hm8).2
    have hp : p < szm μ m := g4.1
    obtain ⟨k, hc, hk, -, -, -, -, h6, -⟩ := hT.i hm8 hp
    have hk6 : k = 6 := by have := nI_self hc (by omega); have e : opc μ m p = 6 := g4.2; unfold opc tn at e; omega
    obtain ⟨⟨x, hx, e⟩, -⟩ := h6 hk6
    refine Ax_br rfl (fun _ => ?_) (fun hb => absurd (nI_ne0 (by omega) (by omega)) hb)
    (repeat refine Ax_step rfl ?_)
    refine Ax_call rfl (m_body h1.1 (by omega) hm8 ?_)
    (repeat refine Ax_step rfl ?_)
    rw [h1.1.1, hl', nI_s1]
    refine Ax_ald r.length rfl rfl (show r.length < 12 by omega) ?_
    rw [show pu μ 10 0 5 (nI (r.length + 1)) 12 0 r.length = nI p from h1.1.2.2.1]
    refine Ax_ald p rfl rfl (show p < 24 by omega) ?_
    (repeat refine Ax_step rfl ?_)
    rw [pu_t (show 42 ≠ 10 by omega), e]
    refine Ax_call rfl (m_become h1 (by omega) hx (fun μ' k1 k2 => ?_))
    refine Ax_rV rfl ⟨rfl, h μ' ?_ (f1.tr k2)⟩
    show RC μ' ((m, p + 1, upd rg (oa μ m p) v, cg) :: r, none)
    rw [show oa μ m p = x from nI_self e (by omega)]
    exact k1
theorem m_throw {c : Nat} (hT : TI μ) (hc : c < kct μ) : ∀ (S : List FR) (μ0 : PM) (z z2 : Option PV), (∀ g ∈ S, fok μ g) → S.length ≤ 12 → RC μ0 (S, none) → frM μ μ0 → (∀ μ', RC μ' (thS μ c S) → frM μ μ' → Q none μ') → Ax 95 4 [some (pR 10 0), some (pI (nI c)), z, z2] [pI (μ0 10 0 5)] μ0 (fun y r' μ1 => y = 0 ∧ Q r' μ1)
  | [], μ0, z, z2, _, _, hR, hf, h => by
    rw [hR.1.1]
    refine Ax_br rfl (fun _ => ?_) (fun hb => absurd (by decide) hb)
    (repeat refine Ax_step rfl ?_)
    refine Ax_rV rfl ⟨rfl, h _ ⟨⟨?_, trivial⟩, pu_s⟩ (hf.tr (frM.fld (by omega)))⟩
    rw [pu_j (by omega)]; exact hR.1.1
  | (m, p, rg, cg) :: r, μ0, z, z2, hok, hl, hR, hf, h => by
    have hl' : ((m, p, rg, cg) :: r : List FR).length = r.length + 1 := rfl
    rw [hl'] at hl
    have hts := hf.ts
    have hT0 := ts_TI hts hT
    have hk := hT.k
    have hfo := hok (m, p, rg, cg) List.mem_cons_self
    have hm8 : m < 8 := by have := hT.m.2; have : m < mct μ := hfo.1; omega
    rw [hR.1.1, hl']
    refine Ax_br rfl (fun hb => absurd hb (nI_nle (by omega) (by omega))) (fun _ => ?_)
    (repeat refine Ax_step rfl ?_)
    refine Ax_call rfl (m_body hR.1 (by omega) hm8 ?_)
    (repeat refine Ax_step rfl ?_)
    rw [hR.1.1, hl', nI_s1]
    refine Ax_ald r.length rfl rfl (show r.length < 12 by omega) ?_
    rw [show μ0 12 0 r.length = nI p from hR.1.2.2.1]
    (repeat refine Ax_step rfl ?_)
    refine Ax_call rfl (c_catcher (hT0.h hm8).1 (hT0.h hm8).2 (hT0.hk hm8) (by omega) ?_)
    have ec : catF (cp μ0 m (nI p) c) 0 (hcm μ0 m) = cat μ m p c := ts_cat hts m p c
    rw [ec]
    (repeat refine Ax_step rfl ?_)
    cases hz : cat μ m p c with
    | none =>
      have e2 : thS μ c ((m, p, rg, cg) :: r) = thS μ c r := by
        show (match cat μ m p c with | some h => _ | none => thS μ c r) = _
        rw [hz]
      rw [e2] at h
      refine Ax_br rfl (fun _ => ?_) (fun hb => absurd rfl hb)
      (repeat refine Ax_step rfl ?_)
      rw [hR.1.1, hl', nI_s1]
      exact m_throw hT hc r _ _ _ (fun g hg => hok g (List.mem_cons_of_mem _ hg)) (by omega) ⟨rm_pop hR.1, resC_keep (pu_j (by omega)) (pu_j (by omega)) hR.2⟩ (hf.tr (frM.fld (by omega))) h
    | some k =>
      have hk4 := hT.cat_lt hm8 hz
      have hkk := catF_lt _ _ _ hz
      obtain ⟨-, -, -, t, ht, e⟩ := hT.hd hm8 (show k < hcm μ m by omega)
      have e2 : thS μ c ((m, p, rg, cg) :: r) = ((m, t, rg, upd cg k (nI c)) :: r, none) := by
        show (match cat μ m p c with | some h => ((m, tn (μ 47 m h), rg, upd cg h (nI c)) :: r, none) | none => thS μ c r) = _
        rw [hz]
        show ((m, tn (μ 47 m k), rg, upd cg k (nI c)) :: r, none) = _
        rw [show tn (μ 47 m k) = t from nI_self e (by omega)]
      rw [e2] at h
      refine Ax_br rfl (fun hb => absurd hb (nI_ne1 (by omega))) (fun _ => ?_)
      (repeat refine Ax_step rfl ?_)
      rw [hR.1.1, hl', nI_s1, pk_mul]
      show Ax 95 56 _ [pI (nI c), pI (nI (r.length * 4) + nI k), pR 14 0] _ _
      rw [nI_add]
      refine Ax_ast (r.length * 4 + k) rfl rfl (show r.length * 4 + k < 48 by omega) ?_
      (repeat refine Ax_step rfl ?_)
      refine Ax_ald k rfl rfl (show k < 4 by omega) ?_
      rw [pu_t (show 47 ≠ 14 by omega), hf.1 47 m k (by omega), e]
      refine Ax_call rfl (m_goTo (m := m) (p := p) (rg := rg) (cg := upd cg k (nI c)) (r := r) (o := none) ⟨rm_cau hR.1 hk4, resC_keep (pu_t (by omega)) (pu_t (by omega)) hR.2⟩ (by omega) (fun μ' k1 k2 => ?_))
      exact Ax_rV rfl ⟨rfl, h μ' k1 ((hf.tr (frM.row (by omega) (by omega))).tr k2)⟩
theorem m_throwHere {c : Nat} {S : List FR} (hT : TI μ) (hc : c < kct μ) (hok : ∀ g ∈ S, fok μ g) (hl : S.length ≤ 12) (hR : RC μ (S, none)) (h : ∀ μ', RC μ' (thS μ c S) → frM μ μ' → Q none μ') : Cl 95 [pR 10 0, pI (nI c)] μ Q := by
  refine Cl_in rfl ?_
  (repeat refine Ax_step rfl ?_)
  exact m_throw hT hc S μ _ _ hok hl hR (frM.rf μ) h
theorem sok_all {S : List FR} (h : sok μ S) : ∀ g ∈ S, fok μ g := by
  match S with
  | [] => intro g hg; cases hg
  | f :: r =>
    intro g hg
    rcases List.mem_cons.mp hg with rfl | hg
    · exact h.1
    · exact (h.2 g hg).1
set_option maxHeartbeats 1000000 in
theorem m_ins (hT : TI μ) (hS : sok μ ((m, p, rg, cg) :: r)) (hp : p < szm μ m) (hR : RC μ ((m, p, rg, cg) :: r, none)) (hl : r.length < 12) (h : ∀ μ', RC μ' (stS μ ((m, p, rg, cg) :: r)) → frM μ μ' → Q none μ') : Cl 87 [pR 10 0] μ Q := by
  have hfo := hS.1
  have hmc : m < mct μ := hfo.1
  have hm8 : m < 8 := by have := hT.m.2; omega
  have hs := (hT.s hm8).2
  have hkc := hT.k
  have hl' : ((m, p, rg, cg) :: r : List FR).length = r.length + 1 := rfl
  obtain ⟨k, hc, hk10, h0, h1, h4, h5, h6, h7⟩ := hT.i hm8 hp
  have hop : opc μ m p = k := nI_self hc (by omega)
  refine Cl_in rfl ?_
  (repeat refine Ax_step rfl ?_)
  refine Ax_call rfl (m_body hR.1 hl hm8 ?_)
  (repeat refine Ax_step rfl ?_)
  rw [hR.1.1, hl', nI_s1]
  refine Ax_ald r.length rfl rfl (show r.length < 12 by omega) ?_
  rw [show μ 12 0 r.length = nI p from hR.1.2.2.1]
  (repeat refine Ax_step rfl ?_)
  refine Ax_ald p rfl rfl (show p < 24 by omega) ?_
  (repeat refine Ax_step rfl ?_)
  refine Ax_ald p rfl rfl (show p < 24 by omega) ?_
  (repeat refine Ax_step rfl ?_)
  refine Ax_ald p rfl rfl (show p < 24 by omega) ?_
  refine Ax_sw rfl ?_
  rw [psw_at hc (by omega) rfl]
  unfold stS at h
  dsimp only at h
  rw [hop] at h
  match k, hk10 with
  | 0, _ =>
    obtain ⟨x, hx, e⟩ := h0 (by omega)
    rw [show oa μ m p = x from nI_self e (by omega)] at h
    show Ax 87 88 _ _ _ _
    rw [e]
    (repeat refine Ax_step rfl ?_)
    refine Ax_call rfl (m_become hR hl hx (fun μ' k1 k2 => ?_))
    (repeat refine Ax_step rfl ?_)
    exact Ax_rV rfl ⟨rfl, h μ' k1 k2⟩
  | 1, _ =>
    obtain ⟨⟨x, hx, e⟩, y, hy, e2⟩ := h1 (by omega)
    rw [show oa μ m p = x from nI_self e (by omega), show ob μ m p = y from nI_self e2 (by omega)] at h
    show Ax 87 98 _ _ _ _
    rw [e, e2]
    (repeat refine Ax_step rfl ?_)
    refine Ax_call rfl (m_content hR.1 hl hx ?_)
    (repeat refine Ax_step rfl ?_)
    refine Ax_call rfl (m_content hR.1 hl hy ?_)
    (repeat refine Ax_step rfl ?_)
    refine Ax_call rfl (m_become hR hl hx (fun μ' k1 k2 => ?_))
    (repeat refine Ax_step rfl ?_)
    exact Ax_rV rfl ⟨rfl, h μ' k1 k2⟩
  | 2, _ =>
    obtain ⟨⟨x, hx, e⟩, y, hy, e2⟩ := h1 (by omega)
    rw [show oa μ m p = x from nI_self e (by omega), show ob μ m p = y from nI_self e2 (by omega)] at h
    show Ax 87 118 _ _ _ _
    rw [e, e2]
    (repeat refine Ax_step rfl ?_)
    refine Ax_call rfl (m_content hR.1 hl hx ?_)
    (repeat refine Ax_step rfl ?_)
    refine Ax_call rfl (m_content hR.1 hl hy ?_)
    (repeat refine Ax_step rfl ?_)
    refine Ax_call rfl (m_become hR hl hx (fun μ' k1 k2 => ?_))
    (repeat refine Ax_step rfl ?_)
    exact Ax_rV rfl ⟨rfl, h μ' k1 k2⟩
  | 3, _ =>
    obtain ⟨⟨x, hx, e⟩, y, hy, e2⟩ := h1 (by omega)
    rw [show oa μ m p = x from nI_self e (by omega), show ob μ m p = y from nI_self e2 (by omega)] at h
    show Ax 87 138 _ _ _ _
    rw [e, e2]
    (repeat refine Ax_step rfl ?_)
    refine Ax_call rfl (Cl_in rfl ?_)
    (repeat refine Ax_step rfl ?_)
    refine Ax_call rfl (m_content hR.1 hl hy ?_)
    (repeat refine Ax_step rfl ?_)
    refine Ax_br rfl (fun hb => ?_) (fun hb => ?_)
    · (repeat refine Ax_step rfl ?_)
      refine Ax_call rfl (m_content hR.1 hl hx ?_)
      (repeat refine Ax_step rfl ?_)
      refine Ax_div rfl hb ?_
      refine Ax_call rfl (m_become hR hl hx (fun μ' k1 k2 => ?_))
      refine Ax_rV rfl ⟨rfl, ?_⟩
      (repeat refine Ax_step rfl ?_)
      refine Ax_rV rfl ⟨rfl, h μ' ?_ k2⟩
      show RC μ' (if rg y = 0 then _ else _)
      rw [if_neg hb]
      exact k1
    · have hb0 : rg y = 0 := Decidable.byContradiction hb
      (repeat refine Ax_step rfl ?_)
      refine Ax_call rfl (m_throwHere hT (by omega) (sok_all hS) (by rw [hl']; omega) hR (fun μ' k1 k2 => ?_))
      (repeat refine Ax_step rfl ?_)
      refine Ax_rV rfl ⟨rfl, ?_⟩
      (repeat refine Ax_step rfl ?_)
      refine Ax_rV rfl ⟨rfl, h μ' ?_ k2⟩
      show RC μ' (if rg y = 0 then _ else _)
      rw [if_pos hb0]
      exact k1
  | 4, _ =>
    obtain ⟨x, hx, e⟩ := h4 rfl
    rw [show oa μ m p = x from nI_self e (by omega)] at h
    show Ax 87 148 _ _ _ _
    rw [e]
    (repeat refine Ax_step rfl ?_)
    refine Ax_call rfl (m_goTo hR hl (fun μ' k1 k2 => ?_))
    (repeat refine Ax_step rfl ?_)
    exact Ax_rV rfl ⟨rfl, h μ' k1 k2⟩
  | 5, _ =>
    obtain ⟨⟨x, hx, e⟩, y, hy, e2⟩ := h5 rfl
    rw [show oa μ m p = x from nI_self e (by omega), show ob μ m p = y from nI_self e2 (by omega)] at h
    show Ax 87 156 _ _ _ _
    rw [e, e2]
    (repeat refine Ax_step rfl ?_)
    refine Ax_call rfl (m_content hR.1 hl hx ?_)
    (repeat refine Ax_step rfl ?_)
    refine Ax_br rfl (fun hb => ?_) (fun hb => ?_)
    · (repeat refine Ax_step rfl ?_)
      rw [nI_add]
      refine Ax_call rfl (m_goTo hR hl (fun μ' k1 k2 => ?_))
      (repeat refine Ax_step rfl ?_)
      refine Ax_rV rfl ⟨rfl, h μ' ?_ k2⟩
      show RC μ' ((m, if rg x = 0 then y else p + 1, rg, cg) :: r, none)
      rw [if_neg hb]
      exact k1
    · have hb0 : rg x = 0 := Decidable.byContradiction hb
      (repeat refine Ax_step rfl ?_)
      refine Ax_call rfl (m_goTo hR hl (fun μ' k1 k2 => ?_))
      (repeat refine Ax_step rfl ?_)
      refine Ax_rV rfl ⟨rfl, h μ' ?_ k2⟩
      show RC μ' ((m, if rg x = 0 then y else p + 1, rg, cg) :: r, none)
      rw [if_pos hb0]
      exact k1
  | 6, _ =>
    obtain ⟨⟨x, hx, e⟩, y, hy, e2⟩ := h6 rfl
    rw [show oa μ m p = x from nI_self e (by omega), show ob μ m p = y from nI_self e2 (by omega)] at h
    show Ax 87 179 _ _ _ _
    rw [e, e2]
    (repeat refine Ax_step rfl ?_)
    refine Ax_call rfl (Cl_in rfl ?_)
    (repeat refine Ax_step rfl ?_)
    rw [hR.1.1, hl']
    refine Ax_br rfl (fun hb => ?_) (fun hb => ?_)
    · have hlt : r.length + 1 < 12 := (nI_ltI (by omega) (by omega)).mp hb
      (repeat refine Ax_step rfl ?_)
      refine Ax_call rfl (c_hasMethod hT (fun b hb2 eb => ?_) (fun no => ?_))
      · have eb2 := (nI_eq (by omega) (by have := hT.m.2; omega)).mp eb
        subst eb2
        refine Ax_br rfl (fun hb => absurd hb (by decide)) (fun _ => ?_)
        (repeat refine Ax_step rfl ?_)
        refine Ax_call rfl (m_content hR.1 hl hx ?_)
        (repeat refine Ax_step rfl ?_)
        refine Ax_call rfl (m_enter hR (by rw [hl']; omega) (fun μ' k1 k2 => ?_))
        (repeat refine Ax_step rfl ?_)
        refine Ax_rV rfl ⟨rfl, ?_⟩
        (repeat refine Ax_step rfl ?_)
        refine Ax_rV rfl ⟨rfl, h μ' ?_ k2⟩
        show RC μ' (if r.length + 1 = 12 then _ else if y < mct μ then _ else _)
        rw [if_neg (by omega), if_pos hb2]
        exact k1
      · refine Ax_br rfl (fun _ => ?_) (fun hb => absurd rfl hb)
        (repeat refine Ax_step rfl ?_)
        refine Ax_call rfl (m_become hR hl hx (fun μ' k1 k2 => ?_))
        refine Ax_rV rfl ⟨rfl, ?_⟩
        (repeat refine Ax_step rfl ?_)
        refine Ax_rV rfl ⟨rfl, h μ' ?_ k2⟩
        show RC μ' (if r.length + 1 = 12 then _ else if y < mct μ then _ else _)
        rw [if_neg (by omega), if_neg (fun z => no y z rfl)]
        exact k1
    · have hge : r.length + 1 = 12 := by have : ¬ r.length + 1 < 12 := fun z => hb (nI_lt z (by omega)); omega
      (repeat refine Ax_step rfl ?_)
      refine Ax_call rfl (m_throwHere hT (by omega) (sok_all hS) (by rw [hl']; omega) hR (fun μ' k1 k2 => ?_))
      (repeat refine Ax_step rfl ?_)
      refine Ax_rV rfl ⟨rfl, ?_⟩
      (repeat refine Ax_step rfl ?_)
      refine Ax_rV rfl ⟨rfl, h μ' ?_ k2⟩
      show RC μ' (if r.length + 1 = 12 then _ else if y < mct μ then _ else _)
      rw [if_pos hge]
      exact k1
  | 7, _ =>
    obtain ⟨x, hx, e⟩ := h7 rfl
    rw [show oa μ m p = x from nI_self e (by omega)] at h
    show Ax 87 189 _ _ _ _
    rw [e]
    (repeat refine Ax_step rfl ?_)
    refine Ax_call rfl (m_throwHere hT hx (sok_all hS) (by rw [hl']; omega) hR (fun μ' k1 k2 => ?_))
    (repeat refine Ax_step rfl ?_)
    exact Ax_rV rfl ⟨rfl, h μ' k1 k2⟩
  | 8, _ =>
    obtain ⟨x, hx, e⟩ := h0 (by omega)
    rw [show oa μ m p = x from nI_self e (by omega)] at h
    show Ax 87 197 _ _ _ _
    rw [e]
    (repeat refine Ax_step rfl ?_)
    refine Ax_call rfl (Cl_in rfl ?_)
    (repeat refine Ax_step rfl ?_)
    rw [hR.1.1, hl', nI_s1, pk_mul, nI_add]
    refine Ax_ald (r.length * 4 + x) rfl rfl (show r.length * 4 + x < 48 by omega) ?_
    rw [show μ 14 0 (r.length * 4 + x) = cg x from hR.1.2.2.2.2.1 x hx]
    (repeat refine Ax_step rfl ?_)
    refine Ax_br rfl (fun hb => ?_) (fun hb => ?_)
    · rcases hfo.2.2 x hx with z | ⟨c, hcc, z⟩
      · exact absurd z hb
      · have z' : cg x = nI c := z
        (repeat refine Ax_step rfl ?_)
        rw [z']
        refine Ax_call rfl (m_throwHere hT hcc (sok_all hS) (by rw [hl']; omega) hR (fun μ' k1 k2 => ?_))
        refine Ax_rV rfl ⟨rfl, ?_⟩
        (repeat refine Ax_step rfl ?_)
        refine Ax_rV rfl ⟨rfl, h μ' ?_ k2⟩
        show RC μ' (if cg x = -1 then _ else thS μ (tn (cg x)) _)
        rw [if_neg hb, show tn (cg x) = c from nI_self z' (by omega)]
        exact k1
    · have hb0 : cg x = -1 := Decidable.byContradiction hb
      (repeat refine Ax_step rfl ?_)
      refine Ax_call rfl (m_goOn hR hl (fun μ' k1 k2 => ?_))
      (repeat refine Ax_step rfl ?_)
      refine Ax_rV rfl ⟨rfl, ?_⟩
      (repeat refine Ax_step rfl ?_)
      refine Ax_rV rfl ⟨rfl, h μ' ?_ k2⟩
      show RC μ' (if cg x = -1 then _ else _)
      rw [if_pos hb0]
      exact k1
  | 9, _ =>
    obtain ⟨x, hx, e⟩ := h0 (by omega)
    rw [show oa μ m p = x from nI_self e (by omega)] at h
    show Ax 87 205 _ _ _ _
    rw [e]
    (repeat refine Ax_step rfl ?_)
    refine Ax_call rfl (m_content hR.1 hl hx ?_)
    (repeat refine Ax_step rfl ?_)
    refine Ax_call rfl (m_giveBack hT hS hR hl (fun μ' k1 k2 => ?_))
    exact Ax_rV rfl ⟨rfl, h μ' k1 k2⟩
  | n + 10, h => omega
/-- giveAtEnds -/
theorem m_ends {S : List FR × RS} (hT : TI μ) (hW : wok μ S) (hR : RC μ S) (h : ∀ μ', RC μ' (enS μ S.1.length S) → frM μ μ' → Q none μ') : Cl 83 [pR 10 0] μ Q := by
  have loop : ∀ (n : Nat) (S : List FR × RS) (μ0 : PM), S.1.length = n → wok μ S → RC μ0 S → frM μ μ0 → (∀ μ', RC μ' (enS μ n S) → frM μ μ' → Q none μ') → Ax 83 6 [some (pR 10 0), some (pI (nI n))] [pI (nI n)] μ0 (fun y r' μ1 => y = 0 ∧ Q r' μ1) := by
    intro n
    induction n with
    | zero =>
      intro S μ0 hn hW hR hf h
      refine Ax_br rfl (fun _ => ?_) (fun hb => absurd (by decide) hb)
      exact Ax_rV rfl ⟨rfl, h μ0 hR hf⟩
    | succ n ih =>
      intro S μ0 hn hW hR hf h
      obtain ⟨St, rs⟩ := S
      match St with
      | [] => cases hn
      | (m, p, rg, cg) :: r =>
        have hl' : ((m, p, rg, cg) :: r : List FR).length = r.length + 1 := rfl
        have hrn : r.length = n := by have : r.length + 1 = n + 1 := hn; omega
        have hl12 : r.length + 1 ≤ 12 := hW.2.1
        have hts := hf.ts
        have hT0 := ts_TI hts hT
        have hfo := hW.1.1
        have hm8 : m < 8 := by have := hT.m.2; have : m < mct μ := hfo.1; omega
        have hs := hT.s hm8
        have hrs : rs = none := by
          cases rs with
          | none => rfl
          | some x => exact absurd (hW.2.2.1.mpr (fun z => by cases z)) (fun z => by cases z)
        subst hrs
        refine Ax_br rfl (fun hb => absurd hb (nI_nle (by omega) (by omega))) (fun _ => ?_)
        (repeat refine Ax_step rfl ?_)
        have hp24 : p ≤ 24 := hfo.2.1
        refine Ax_call rfl (Cl_in rfl ?_)
        (repeat refine Ax_step rfl ?_)
        rw [hR.1.1, hl']
        refine Ax_br rfl (fun hb => absurd hb (nI_nle (by omega) (by omega))) (fun _ => ?_)
        (repeat refine Ax_step rfl ?_)
        rw [hR.1.1, hl', nI_s1]
        refine Ax_ald r.length rfl rfl (show r.length < 12 by omega) ?_
        rw [show μ0 12 0 r.length = nI p from hR.1.2.2.1]
        (repeat refine Ax_step rfl ?_)
        refine Ax_call rfl (m_body hR.1 (by omega) hm8 ?_)
        (repeat refine Ax_step rfl ?_)
        rw [hf.1 40 m 3 (by omega), hs.1]
        refine Ax_br rfl (fun hb => ?_) (fun hb => ?_)
        · have hlt : p < szm μ m := (nI_ltI (by omega) (by omega)).mp hb
          (repeat refine Ax_step rfl ?_)
          refine Ax_rZ rfl (Or.inl rfl) ⟨rfl, ?_⟩
          refine Ax_br rfl (fun _ => ?_) (fun hb => absurd rfl hb)
          refine Ax_rV rfl ⟨rfl, h μ0 ?_ hf⟩
          show RC μ0 (if szm μ m ≤ p then _ else _)
          rw [if_neg (by omega)]
          exact hR
        · have hge : szm μ m ≤ p := by
            rcases Nat.lt_or_ge p (szm μ m) with z | z
            · exact absurd (nI_lt z (by omega)) hb
            · exact z
          (repeat refine Ax_step rfl ?_)
          refine Ax_rZ rfl (Or.inr rfl) ⟨rfl, ?_⟩
          refine Ax_br rfl (fun hb => absurd hb (by decide)) (fun _ => ?_)
          (repeat refine Ax_step rfl ?_)
          refine Ax_call rfl (m_content (a := 0) hR.1 (by omega) (by omega) ?_)
          (repeat refine Ax_step rfl ?_)
          have hS0 : sok μ0 ((m, p, rg, cg) :: r) := by
            refine ⟨⟨by rw [ts_mct hts]; exact hfo.1, hfo.2.1, fun j hj => by rw [ts_kct hts]; exact hfo.2.2 j hj⟩, fun g hg => ?_⟩
            obtain ⟨k1, k2⟩ := hW.1.2 g hg
            exact ⟨⟨by rw [ts_mct hts]; exact k1.1, k1.2.1, fun j hj => by rw [ts_kct hts]; exact k1.2.2 j hj⟩, by rw [ts_szm hts]; exact k2.1, by rw [ts_opc hts]; exact k2.2⟩
          refine Ax_call rfl (m_giveBack hT0 hS0 hR (by omega) (fun μ' k1 k2 => ?_))
          (repeat refine Ax_step rfl ?_)
          rw [ts_gvS hts] at k1
          obtain ⟨g1, g2⟩ := gv_wok hT (v := rg 0) hW.1 hW.2.1
          have e1 : nI (n + 1) + (-1) = nI n := pk_m1 n
          rw [e1]
          refine ih _ μ' (by rw [g2]; exact hrn) g1 k1 (hf.tr k2) (fun μ'' k3 k4 => h μ'' ?_ k4)
          show RC μ'' (if szm μ m ≤ p then _ else _)
          rw [if_pos hge]
          exact k3
  refine Cl_in rfl ?_
  (repeat refine Ax_step rfl ?_)
  rw [hR.1.1]
  exact loop S.1.length S μ rfl hW hR (frM.rf μ) h
theorem en_st : ∀ (n : Nat) (S : List FR × RS), S.1.length ≤ n → enS μ n S = enS μ S.1.length S
  | 0, S, h => by rw [show S.1.length = 0 by omega]
  | n + 1, S, h => by
    obtain ⟨St, rs⟩ := S
    match St with
    | [] => rfl
    | (m, p, rg, cg) :: r =>
      show (if szm μ m ≤ p then enS μ n (gvS μ (rg 0) ((m, p, rg, cg) :: r)) else ((m, p, rg, cg) :: r, rs)) = (if szm μ m ≤ p then enS μ r.length (gvS μ (rg 0) ((m, p, rg, cg) :: r)) else ((m, p, rg, cg) :: r, rs))
      have hg : (gvS μ (rg 0) ((m, p, rg, cg) :: r)).1.length = r.length := by
        match r with
        | [] => rfl
        | (m', p', rg', cg') :: r => rfl
      have hl : r.length + 1 ≤ n + 1 := h
      rw [en_st n _ (by rw [hg]; omega), hg]
end P21
