/-! What the reference answers when it is asked. -/
/-- what a question leaves in the reference -/
def aR (μ0 μ μ' : PM) : Prop := frR μ μ' ∧ μ' 16 0 0 = 0 ∧ μ' 16 0 13 = 0 ∧ FM μ0 μ'
section P27
variable {μ0 μ : PM} {x y w : Int32} {Q : Option PV → PM → Prop}
theorem FM_lv (hT : TI μ0) (hF : FM μ0 μ) {m i c : Nat} (hm : m < mct μ0) (hi : i < szm μ0 m) (hc : c < kct μ0) : (∀ k, ls μ0 k m i c → lv μ m i c = k) ∧ (lv μ m i c < 1000000 → ls μ0 (lv μ m i c) m i c) ∧ μ 27 0 (ix m i c) = nI (lv μ m i c) ∧ lv μ m i c ≤ 1000000 := by
  obtain ⟨f1, f2⟩ := hF m i c hm hi hc
  have hm8 : m < 8 := by have := hT.m.2; omega
  have g1 : ∀ k, ls μ0 k m i c → lv μ m i c = k := fun k hk => nI_self (f1 k hk) (by have := ls_41 hT hm8 hi hk; omega)
  by_cases h : ∃ k, wy μ0 k m i c
  · obtain ⟨k, hk⟩ := h
    obtain ⟨n, -, hn⟩ := wy_ex hk
    have e := g1 n hn
    have := ls_41 hT hm8 hi hn
    exact ⟨g1, fun _ => by rw [e]; exact hn, by rw [e]; exact f1 n hn, by omega⟩
  · have e : lv μ m i c = 1000000 := nI_self (f2 (fun k hk => h ⟨k, hk⟩)) (by omega)
    exact ⟨g1, fun z => by omega, by rw [e]; exact f2 (fun k hk => h ⟨k, hk⟩), by omega⟩
theorem FM_LB (hT : TI μ0) (hF : FM μ0 μ) : LB μ0 μ := fun _ _ _ hm hi hc => (FM_lv hT hF hm hi hc).2.2
theorem dl_mct (hT : TI μ0) {n d c : Nat} (hd : d < 40) (h : dw μ0 n d c) : d / 5 < mct μ0 := by
  obtain ⟨j, hj, -⟩ := h
  rcases Nat.lt_or_ge (d / 5) (mct μ0) with z | z
  · exact z
  · rw [(hT.out (by omega) z).1] at hj; omega
theorem r_nearF {d c : Nat} (hT : TI μ0) (hR : TR μ0 μ) (hF : FM μ0 μ) (hd : d < 40) (hm : d / 5 < mct μ0) (hc : c < kct μ0) (h1 : ∀ n, dl μ0 n d c → Q (some (pI (nI n))) μ) (h0 : (∀ k, ¬ dw μ0 k d c) → Q (some (pI (nI 1000000))) μ) : Cl 29 [pR 16 0, pI (nI (d / 5)), pI (hdI d), pI (nI c)] μ Q := by
  refine r_nearest hT hR (FM_LB hT hF) hd hm hc (fun v k1 k2 k3 => ?_)
  have low : ∀ k, dw μ0 k d c → v ≤ k := by
    rintro k ⟨j, z1, z2, z3⟩
    obtain ⟨n, hn, hl⟩ := wy_ex z3
    have := (FM_lv hT hF hm z1 hc).1 n hl
    have := k3 j z1 z2
    omega
  rcases Nat.lt_or_ge v 1000000 with z | z
  · obtain ⟨j, g1, g2, g3⟩ := k2 z
    have hl := (FM_lv hT hF hm g1 hc).2.1 (by omega)
    rw [g3] at hl
    exact h1 v ⟨⟨j, g1, g2, hl.1⟩, fun k hk hw => by have := low k hw; omega⟩
  · rw [show v = 1000000 by omega]
    refine h0 (fun k hw => ?_)
    obtain ⟨n, hn, hdl⟩ := dw_ex hw
    have := dl_40 hT hd hdl
    have := low n hdl.1
    omega
theorem msk_s {P : Nat → Prop} {v : Int32} {c : Nat} (hc : c < 32) (h : ∀ b, b < 32 → (bt v b = true ↔ b < c ∧ P b)) : (P c → ∀ b, b < 32 → (bt (v ||| nI 1 <<< (nI c &&& 31)) b = true ↔ b < c + 1 ∧ P b)) ∧ (¬ P c → ∀ b, b < 32 → (bt v b = true ↔ b < c + 1 ∧ P b)) := by
  refine ⟨fun hp b hb => ?_, fun hp b hb => ?_⟩
  · rw [b_or, bt_shl hc hb, Bool.or_eq_true, h b hb, decide_eq_true_eq]
    constructor
    · rintro (⟨z1, z2⟩ | rfl)
      · exact ⟨by omega, z2⟩
      · exact ⟨by omega, hp⟩
    · rintro ⟨z1, z2⟩
      by_cases e : b = c
      · exact Or.inr e
      · exact Or.inl ⟨by omega, z2⟩
  · rw [h b hb]
    constructor
    · rintro ⟨z1, z2⟩; exact ⟨by omega, z2⟩
    · rintro ⟨z1, z2⟩
      refine ⟨?_, z2⟩
      by_cases e : b = c
      · subst e; exact absurd z2 hp
      · omega
theorem r_raisedAt {m i : Nat} (hT : TI μ0) (hR : TR μ0 μ) (hF : FM μ0 μ) (hm : m < mct μ0) (hi : i < szm μ0 m) (h : ∀ v, raM μ0 m i v → Q (some (pI v)) μ) : Cl 33 [pR 16 0, pI (nI m), pI (nI i)] μ Q := by
  have hm8 : m < 8 := by have := hT.m.2; omega
  have hs := (hT.s hm8).2
  have hk := hT.k
  have loop : ∀ r c, c + r = kct μ0 → ∀ v : Int32, (∀ b, b < 32 → (bt v b = true ↔ b < c ∧ ∃ k, wy μ0 k m i b)) → Ax 33 11 [some (pR 16 0), some (pI (nI m)), some (pI (nI i)), some (pI v), some (pI (nI c))] [pI (μ 16 0 1), pI (nI c)] μ (fun y r' μ1 => y = 0 ∧ Q r' μ1) := by
    intro r
    induction r with
    | zero =>
      intro c hc v hv
      rw [hR.k]
      refine Ax_br rfl (fun _ => ?_) (fun hb => absurd (nI_le (by omega) (by omega)) hb)
      (repeat refine Ax_step rfl ?_)
      refine Ax_rI rfl ⟨rfl, h v (fun b hb => ?_)⟩
      rw [hv b hb]
      constructor
      · rintro ⟨-, z⟩; exact z
      · rintro ⟨k, z⟩; exact ⟨by have := wy_lt hT k hm8 hi z; omega, k, z⟩
    | succ r ih =>
      intro c hc v hv
      rw [hR.k]
      refine Ax_br rfl (fun hb => absurd hb (nI_ge (by omega) (by omega))) (fun _ => ?_)
      obtain ⟨f1, f2, f3, f4⟩ := FM_lv hT hF hm hi (show c < kct μ0 by omega)
      (repeat refine Ax_step rfl ?_)
      rw [pk_mul, nI_add, pk_mul, nI_add]
      refine Ax_ald (ix m i c) rfl rfl (show ix m i c < 1920 by unfold ix; omega) ?_
      rw [f3]
      obtain ⟨s1, s2⟩ := msk_s (P := fun b => ∃ k, wy μ0 k m i b) (c := c) (by omega) hv
      (repeat refine Ax_step rfl ?_)
      refine Ax_br rfl (fun hb => ?_) (fun hb => ?_)
      · have hge : 1000000 ≤ lv μ m i c := (nI_leI (by omega) (by omega)).mp hb
        (repeat refine Ax_step rfl ?_)
        rw [nI_add]
        refine ih (c + 1) (by omega) v (s2 ?_)
        rintro ⟨k, z⟩
        obtain ⟨n, hn, hl⟩ := wy_ex z
        have := ls_41 hT hm8 hi hl
        have := f1 n hl
        omega
      · have hlt : lv μ m i c < 1000000 := by
          rcases Nat.lt_or_ge (lv μ m i c) 1000000 with z | z
          · exact z
          · exact absurd (nI_le z (by omega)) hb
        (repeat refine Ax_step rfl ?_)
        rw [nI_add]
        exact ih (c + 1) (by omega) _ (s1 ⟨_, (f2 hlt).1⟩)
  refine Cl_in rfl ?_
  (repeat refine Ax_step rfl ?_)
  exact loop (kct μ0) 0 (by omega) _ (fun b hb => by rw [nI_0, b_0]; simp)
theorem r_where {d : Nat} (hT : TI μ0) (hR : TR μ0 μ) (hF : FM μ0 μ) (hd : d < 40) (hm : d / 5 < mct μ0) (h : ∀ v, thM μ0 d v → Q (some (pI v)) μ) : Cl 34 [pR 16 0, pI (nI (d / 5)), pI (hdI d)] μ Q := by
  have hk := hT.k
  have loop : ∀ r c, c + r = kct μ0 → ∀ v : Int32, (∀ b, b < 32 → (bt v b = true ↔ b < c ∧ ∃ k, dw μ0 k d b)) → Ax 34 11 [some (pR 16 0), some (pI (nI (d / 5))), some (pI (hdI d)), some (pI v), some (pI (nI c))] [pI (μ 16 0 1), pI (nI c)] μ (fun y r' μ1 => y = 0 ∧ Q r' μ1) := by
    intro r
    induction r with
    | zero =>
      intro c hc v hv
      rw [hR.k]
      refine Ax_br rfl (fun _ => ?_) (fun hb => absurd (nI_le (by omega) (by omega)) hb)
      (repeat refine Ax_step rfl ?_)
      refine Ax_rI rfl ⟨rfl, h v (fun b hb => ?_)⟩
      rw [hv b hb]
      constructor
      · rintro ⟨-, z⟩; exact z
      · rintro ⟨k, z⟩; exact ⟨by have := dw_lt hT hd z; omega, k, z⟩
    | succ r ih =>
      intro c hc v hv
      rw [hR.k]
      refine Ax_br rfl (fun hb => absurd hb (nI_ge (by omega) (by omega))) (fun _ => ?_)
      (repeat refine Ax_step rfl ?_)
      obtain ⟨s1, s2⟩ := msk_s (P := fun b => ∃ k, dw μ0 k d b) (c := c) (by omega) hv
      refine Ax_call rfl (r_nearF hT hR hF hd hm (by omega) (fun n hn => ?_) (fun no => ?_))
      · have hn40 := dl_40 hT hd hn
        (repeat refine Ax_step rfl ?_)
        refine Ax_br rfl (fun hb => absurd hb (nI_ge (by omega) (by omega))) (fun _ => ?_)
        (repeat refine Ax_step rfl ?_)
        rw [nI_add]
        exact ih (c + 1) (by omega) _ (s1 ⟨n, hn.1⟩)
      · (repeat refine Ax_step rfl ?_)
        refine Ax_br rfl (fun _ => ?_) (fun hb => absurd (nI_le (by omega) (by omega)) hb)
        (repeat refine Ax_step rfl ?_)
        rw [nI_add]
        exact ih (c + 1) (by omega) _ (s2 (fun ⟨k, z⟩ => no k z))
  refine Cl_in rfl ?_
  (repeat refine Ax_step rfl ?_)
  exact loop (kct μ0) 0 (by omega) _ (fun b hb => by rw [nI_0, b_0]; simp)
theorem hdI_4 (m : Nat) : hdI (m * 5 + 4) = -1 := by unfold hdI; rw [if_pos (by omega)]
theorem hdI_h {m h : Nat} (hh : h < 4) : hdI (m * 5 + h) = nI h := by unfold hdI; rw [if_neg (by omega), show (m * 5 + h) % 5 = h by omega]
theorem r_askS (hT : TI μ0) (hR : TR μ0 μ) (hf : μ 16 0 13 = 0 → FM μ0 μ) (h : ∀ μ', aR μ0 μ μ' → TR μ0 μ' → Q none μ') : Cl 32 [pR 16 0] (pu μ 16 0 0 (nI 0)) Q := by
  refine r_settle hT (hR.th (by omega) (by omega)) (fun z => ?_) (fun μ' fr t0 s0 hF => ?_)
  · rw [pu_j (by omega)] at z
    have := hf z
    intro m i c hm hi hc
    rw [pu_t (by omega)]; exact this m i c hm hi hc
  · have hfr : frR μ μ' := ⟨fun t mm j h27 h16 => by rw [fr.1 t mm j h27 h16, pu_t h16], fun j h13 h0 => by rw [fr.2 j h13 h0, pu_j h0]⟩
    exact h μ' ⟨hfr, by rw [t0, pu_s]; rfl, s0, hF⟩ (hfr.tr hR)
theorem r_out (hT : TI μ0) (hR : TR μ0 μ) (hf : μ 16 0 13 = 0 → FM μ0 μ) (h1 : ∀ μ' m v, aR μ0 μ μ' → m < mct μ0 → x = nI m → thM μ0 (m * 5 + 4) v → Q (some (pI v)) μ') (h0 : ∀ μ', aR μ0 μ μ' → (∀ m, m < mct μ0 → x ≠ nI m) → Q (some (pI 0)) μ') : Cl 35 [pR 16 0, pI x] μ Q := by
  refine Cl_in rfl ?_
  (repeat refine Ax_step rfl ?_)
  refine Ax_call rfl (r_askS hT hR hf (fun μ' ha hR' => ?_))
  (repeat refine Ax_step rfl ?_)
  refine Ax_call rfl (r_isMethod hT hR' (fun m hm e => ?_) (fun no => ?_))
  · subst e
    have hm8 : m < 8 := by have := hT.m.2; omega
    refine Ax_br rfl (fun hb => absurd hb (by decide)) (fun _ => ?_)
    (repeat refine Ax_step rfl ?_)
    have hdm : (m * 5 + 4) / 5 = m := by omega
    have := r_where (d := m * 5 + 4) (Q := fun r μ1 => Ax 35 23 [some (pR 16 0), some (pI (nI m))] (ppu r []) μ1 (fun y r' μ1 => y = 0 ∧ Q r' μ1)) hT hR' ha.2.2.2 (by omega) (by rw [hdm]; exact hm) (fun v hv => by
      (repeat refine Ax_step rfl ?_)
      exact Ax_rI rfl ⟨rfl, h1 μ' m v ha hm rfl hv⟩)
    rw [hdm, hdI_4] at this
    exact Ax_call rfl this
  · refine Ax_br rfl (fun _ => ?_) (fun hb => absurd rfl hb)
    (repeat refine Ax_step rfl ?_)
    exact Ax_rI rfl ⟨rfl, h0 μ' ha no⟩
theorem r_raises (hT : TI μ0) (hR : TR μ0 μ) (hf : μ 16 0 13 = 0 → FM μ0 μ) (h1 : ∀ μ' m i v, aR μ0 μ μ' → m < mct μ0 → x = nI m → i < szm μ0 m → y = nI i → raM μ0 m i v → Q (some (pI v)) μ') (h0 : ∀ μ', aR μ0 μ μ' → (∀ m i, m < mct μ0 → x = nI m → i < szm μ0 m → y ≠ nI i) → Q (some (pI 0)) μ') : Cl 36 [pR 16 0, pI x, pI y] μ Q := by
  refine Cl_in rfl ?_
  (repeat refine Ax_step rfl ?_)
  refine Ax_call rfl (r_askS hT hR hf (fun μ' ha hR' => ?_))
  (repeat refine Ax_step rfl ?_)
  refine Ax_call rfl (r_isPlace hT hR' (fun m i hm e hi e2 => ?_) (fun no => ?_))
  · subst e
    subst e2
    refine Ax_br rfl (fun hb => absurd hb (by decide)) (fun _ => ?_)
    (repeat refine Ax_step rfl ?_)
    refine Ax_call rfl (r_raisedAt hT hR' ha.2.2.2 hm hi (fun v hv => ?_))
    (repeat refine Ax_step rfl ?_)
    exact Ax_rI rfl ⟨rfl, h1 μ' m i v ha hm rfl hi rfl hv⟩
  · refine Ax_br rfl (fun _ => ?_) (fun hb => absurd rfl hb)
    (repeat refine Ax_step rfl ?_)
    exact Ax_rI rfl ⟨rfl, h0 μ' ha no⟩
theorem r_catches (hT : TI μ0) (hR : TR μ0 μ) (hf : μ 16 0 13 = 0 → FM μ0 μ) (h1 : ∀ μ' m i v, aR μ0 μ μ' → m < mct μ0 → x = nI m → i < hcm μ0 m → y = nI i → thM μ0 (m * 5 + i) v → Q (some (pI v)) μ') (h0 : ∀ μ', aR μ0 μ μ' → (∀ m i, m < mct μ0 → x = nI m → i < hcm μ0 m → y ≠ nI i) → Q (some (pI 0)) μ') : Cl 37 [pR 16 0, pI x, pI y] μ Q := by
  refine Cl_in rfl ?_
  (repeat refine Ax_step rfl ?_)
  refine Ax_call rfl (r_askS hT hR hf (fun μ' ha hR' => ?_))
  (repeat refine Ax_step rfl ?_)
  refine Ax_call rfl (r_isMethod hT hR' (fun m hm e => ?_) (fun no => ?_))
  · subst e
    have hm8 : m < 8 := by have := hT.m.2; omega
    have hh := hT.h hm8
    have h0' : (∀ i, i < hcm μ0 m → y ≠ nI i) → Q (some (pI 0)) μ' := fun h => h0 μ' ha (fun m' i hm' e hi => by
      have := (nI_eq (by omega) (by have := hT.m.2; omega)).mp e
      subst this
      exact h i hi)
    refine Ax_br rfl (fun hb => absurd hb (by decide)) (fun _ => ?_)
    (repeat refine Ax_step rfl ?_)
    refine Ax_br rfl (fun hb => ?_) (fun hb => ?_)
    · (repeat refine Ax_step rfl ?_)
      exact Ax_rI rfl ⟨rfl, h0' (nI_no (by omega) (Or.inl hb))⟩
    · (repeat refine Ax_step rfl ?_)
      refine Ax_ald m rfl rfl hm8 ?_
      rw [hR'.h hm8, hh.1]
      refine Ax_br rfl (fun hb2 => ?_) (fun hb2 => ?_)
      · (repeat refine Ax_step rfl ?_)
        exact Ax_rI rfl ⟨rfl, h0' (nI_no (by omega) (Or.inr hb2))⟩
      · obtain ⟨i, hi, e⟩ := nI_yes (by omega) hb hb2
        subst e
        (repeat refine Ax_step rfl ?_)
        have hdm : (m * 5 + i) / 5 = m := by omega
        have := r_where (d := m * 5 + i) (Q := fun r μ1 => Ax 37 37 [some (pR 16 0), some (pI (nI m)), some (pI (nI i))] (ppu r []) μ1 (fun y r' μ1 => y = 0 ∧ Q r' μ1)) hT hR' ha.2.2.2 (by omega) (by rw [hdm]; exact hm) (fun v hv => by
          (repeat refine Ax_step rfl ?_)
          exact Ax_rI rfl ⟨rfl, h1 μ' m i v ha hm rfl hi rfl hv⟩)
        rw [hdm, hdI_h (by omega)] at this
        exact Ax_call rfl this
  · refine Ax_br rfl (fun _ => ?_) (fun hb => absurd rfl hb)
    (repeat refine Ax_step rfl ?_)
    exact Ax_rI rfl ⟨rfl, h0 μ' ha (fun m i hm e _ => absurd e (no m hm))⟩
theorem r_wayOf (hT : TI μ0) (hR : TR μ0 μ) (hf : μ 16 0 13 = 0 → FM μ0 μ) (h1 : ∀ μ' m c n, aR μ0 μ μ' → TR μ0 μ' → m < mct μ0 → x = nI m → c < kct μ0 → y = nI c → dl μ0 n (m * 5 + 4) c → Q (some (pI (nI n))) μ') (h0 : ∀ μ', aR μ0 μ μ' → TR μ0 μ' → (∀ m c n, m < mct μ0 → x = nI m → c < kct μ0 → y = nI c → ¬ dl μ0 n (m * 5 + 4) c) → Q (some (pI 0)) μ') : Cl 38 [pR 16 0, pI x, pI y] (pu μ 16 0 0 (nI 0)) Q := by
  refine Cl_in rfl ?_
  (repeat refine Ax_step rfl ?_)
  refine Ax_call rfl (r_askS hT hR hf (fun μ' ha hR' => ?_))
  (repeat refine Ax_step rfl ?_)
  have none0 : (∀ m c n, m < mct μ0 → x = nI m → c < kct μ0 → y = nI c → ¬ dl μ0 n (m * 5 + 4) c) → Ax 38 36 [some (pR 16 0), some (pI x), some (pI y), some (pI (nI 1000000))] [pI (nI 1000000), pI (nI 1000000)] μ' (fun y r' μ1 => y = 0 ∧ Q r' μ1) := by
    intro no
    refine Ax_br rfl (fun _ => ?_) (fun hb => absurd (nI_le (by omega) (by omega)) hb)
    (repeat refine Ax_step rfl ?_)
    exact Ax_rI rfl ⟨rfl, h0 μ' ha hR' no⟩
  refine Ax_call rfl (r_isMethod hT hR' (fun m hm e => ?_) (fun no => ?_))
  · subst e
    have hm8 : m < 8 := by have := hT.m.2; omega
    refine Ax_br rfl (fun hb => absurd hb (by decide)) (fun _ => ?_)
    (repeat refine Ax_step rfl ?_)
    refine Ax_call rfl (r_isKind hT hR' (fun c hc e => ?_) (fun no => ?_))
    · subst e
      have hk := hT.k
      refine Ax_br rfl (fun hb => absurd hb (by decide)) (fun _ => ?_)
      (repeat refine Ax_step rfl ?_)
      have hdm : (m * 5 + 4) / 5 = m := by omega
      have := r_nearF (d := m * 5 + 4) (Q := fun r μ1 => Ax 38 27 [some (pR 16 0), some (pI (nI m)), some (pI (nI c)), none] (ppu r []) μ1 (fun y r' μ1 => y = 0 ∧ Q r' μ1)) hT hR' ha.2.2.2 (by omega) (by rw [hdm]; exact hm) hc (fun n hn => by
        have hn40 := dl_40 hT (by omega) hn
        (repeat refine Ax_step rfl ?_)
        refine Ax_br rfl (fun hb => absurd hb (nI_ge (by omega) (by omega))) (fun _ => ?_)
        (repeat refine Ax_step rfl ?_)
        exact Ax_rI rfl ⟨rfl, h1 μ' m c n ha hR' hm rfl hc rfl hn⟩) (fun no => by
        (repeat refine Ax_step rfl ?_)
        refine none0 (fun m' c' n hm' e hc' e2 hd => ?_)
        have e3 := (nI_eq (by omega) (by have := hT.m.2; omega)).mp e
        have e4 := (nI_eq (by omega) (by have := hT.k.2.2; omega)).mp e2
        subst e3
        subst e4
        exact no n hd.1)
      rw [hdm, hdI_4] at this
      exact Ax_call rfl this
    · refine Ax_br rfl (fun _ => ?_) (fun hb => absurd rfl hb)
      (repeat refine Ax_step rfl ?_)
      exact none0 (fun m' c' n _ _ hc' e2 _ => no c' hc' e2)
  · refine Ax_br rfl (fun _ => ?_) (fun hb => absurd rfl hb)
    (repeat refine Ax_step rfl ?_)
    exact none0 (fun m' c' n hm' e _ _ _ => no m' hm' e)
theorem r_way (hT : TI μ0) (hR : TR μ0 μ) (hf : μ 16 0 13 = 0 → FM μ0 μ) (h1 : ∀ μ' m c n, aR μ0 μ μ' → m < mct μ0 → x = nI m → c < kct μ0 → y = nI c → dl μ0 n (m * 5 + 4) c → Q (some (pI (nI n))) μ') (h0 : ∀ μ', aR μ0 μ μ' → (∀ m c n, m < mct μ0 → x = nI m → c < kct μ0 → y = nI c → ¬ dl μ0 n (m * 5 + 4) c) → Q (some (pI 0)) μ') : Cl 39 [pR 16 0, pI x, pI y] μ Q := by
  refine Cl_in rfl ?_
  (repeat refine Ax_step rfl ?_)
  refine Ax_call rfl (r_wayOf hT hR hf (fun μ' m c n ha hR' hm e hc e2 hd => ?_) (fun μ' ha hR' no => ?_))
  · exact Ax_rI rfl ⟨rfl, h1 μ' m c n ha hm e hc e2 hd⟩
  · exact Ax_rI rfl ⟨rfl, h0 μ' ha no⟩
/-- the number one below -/
def wv : Nat → Int32
  | 0 => -1
  | r + 1 => nI r
theorem wv_eq (r : Nat) : nI r - nI 1 = wv r := by
  cases r with
  | zero => rfl
  | succ r => exact nI_s1 r
theorem wv_dn (r : Nat) : nI r + (-1) = wv r := by
  rw [← wv_eq, Int32.sub_eq_add_neg]; rfl
theorem r_first {d c n : Nat} (hT : TI μ0) (hR : TR μ0 μ) (hF : FM μ0 μ) (hd : d < 40) (hc : c < kct μ0) (hn : dl μ0 n d c) (h : ∀ j, nst μ0 d c j n → Q (some (pI (nI j))) μ) : Cl 40 [pR 16 0, pI (nI (d / 5)), pI (hdI d), pI (nI c), pI (nI n)] μ Q := by
  have hm := dl_mct hT hd hn.1
  have hm8 : d / 5 < 8 := by omega
  have hs := hT.s hm8
  have hk := hT.k
  have hn40 := dl_40 hT hd hn
  have key : ∀ j, j < szm μ0 (d / 5) → thr μ0 (d / 5) j c = d → (lv μ (d / 5) j c = n ↔ wy μ0 n (d / 5) j c) := by
    intro j hj ht
    obtain ⟨f1, f2, -, -⟩ := FM_lv hT hF hm hj hc
    constructor
    · intro e
      have := f2 (by omega)
      rw [e] at this; exact this.1
    · intro hw
      exact f1 n ⟨hw, fun k hk hw' => hn.2 k hk ⟨j, hj, ht, hw'⟩⟩
  generalize hme : d / 5 = m at *
  have loop : ∀ r, r ≤ szm μ0 m → ∀ be : Int32, ((be = -1 ∧ ∀ j, r ≤ j → j < szm μ0 m → thr μ0 m j c = d → ¬ wy μ0 n m j c) ∨ ∃ j, be = nI j ∧ r ≤ j ∧ j < szm μ0 m ∧ thr μ0 m j c = d ∧ wy μ0 n m j c ∧ ∀ j', r ≤ j' → j' < j → thr μ0 m j' c = d → ¬ wy μ0 n m j' c) → Ax 40 15 [some (pR 16 0), some (pI (nI m)), some (pI (hdI d)), some (pI (nI c)), some (pI (nI n)), some (pI be), some (pI (wv r))] [pI (wv r)] μ (fun y r' μ1 => y = 0 ∧ Q r' μ1) := by
    intro r
    induction r with
    | zero =>
      intro hr be hI
      refine Ax_br rfl (fun _ => ?_) (fun hb => absurd (by decide) hb)
      (repeat refine Ax_step rfl ?_)
      refine Ax_rI rfl ⟨rfl, ?_⟩
      rcases hI with ⟨-, no⟩ | ⟨j, rfl, g1, g2, g3, g4, g5⟩
      · obtain ⟨⟨j, z1, z2, z3⟩, -⟩ := hn
        rw [hme] at z1 z2 z3
        exact absurd z3 (no j (by omega) z1 z2)
      · refine h j ?_
        unfold nst
        rw [hme]
        exact ⟨g2, g3, g4, hn, fun j' hj' ht => g5 j' (by omega) hj' ht⟩
    | succ r ih =>
      intro hr be hI
      refine Ax_br rfl (fun hb => absurd hb (nI_pos (by omega))) (fun _ => ?_)
      (repeat refine Ax_step rfl ?_)
      obtain ⟨-, -, f3, f4⟩ := FM_lv hT hF hm (show r < szm μ0 m by omega) hc
      refine Ax_ald (ix m r c) rfl (by show nI 10 * (nI 24 * nI m + nI r) + nI c = _; rw [pk_mul, nI_add, pk_mul, nI_add]; rfl) (show ix m r c < 1920 by unfold ix; omega) ?_
      rw [f3]
      (repeat refine Ax_step rfl ?_)
      have skip : ¬ (thr μ0 m r c = d ∧ wy μ0 n m r c) → Ax 40 57 [some (pR 16 0), some (pI (nI m)), some (pI (hdI d)), some (pI (nI c)), some (pI (nI n)), some (pI be), some (pI (nI r))] [] μ (fun y r' μ1 => y = 0 ∧ Q r' μ1) := by
        intro hno
        (repeat refine Ax_step rfl ?_)
        rw [wv_dn]
        refine ih (by omega) be ?_
        rcases hI with ⟨e, no⟩ | ⟨j, e, g1, g2, g3, g4, g5⟩
        · refine Or.inl ⟨e, fun j h1 h2 h3 hw => ?_⟩
          by_cases ej : j = r
          · subst ej; exact hno ⟨h3, hw⟩
          · exact no j (by omega) h2 h3 hw
        · refine Or.inr ⟨j, e, by omega, g2, g3, g4, fun j' h1 h2 h3 hw => ?_⟩
          by_cases ej : j' = r
          · subst ej; exact hno ⟨h3, hw⟩
          · exact g5 j' (by omega) h2 h3 hw
      refine Ax_br rfl (fun hb => ?_) (fun hb => ?_)
      · refine skip (fun z => hb ?_)
        rw [(key r (by omega) z.1).mpr z.2]
      · have hl : lv μ m r c = n := (nI_eq (by omega) (by omega)).mp (Decidable.byContradiction hb)
        (repeat refine Ax_step rfl ?_)
        refine Ax_call rfl (r_catcher hT hR hm8 hc ?_)
        (repeat refine Ax_step rfl ?_)
        refine Ax_br rfl (fun hb2 => ?_) (fun hb2 => ?_)
        · exact skip (fun z => hb2 ((hd_thr hT hm8 hme).mpr z.1))
        · have ht : thr μ0 m r c = d := (hd_thr hT hm8 hme).mp (Decidable.byContradiction hb2)
          have hw := (key r (by omega) ht).mp hl
          (repeat refine Ax_step rfl ?_)
          rw [show wv (r + 1) + -1 = wv r from wv_dn r]
          exact ih (by omega) (nI r) (Or.inr ⟨r, rfl, Nat.le_refl _, by omega, ht, hw, fun j' h1 h2 => by omega⟩)
  refine Cl_in rfl ?_
  (repeat refine Ax_step rfl ?_)
  refine Ax_ald m rfl rfl hm8 ?_
  rw [hR.s hm8, hs.1]
  (repeat refine Ax_step rfl ?_)
  rw [wv_eq]
  exact loop (szm μ0 m) (Nat.le_refl _) (-1) (Or.inl ⟨rfl, fun j h1 h2 => by omega⟩)
theorem r_step (hT : TI μ0) (hR : TR μ0 μ) (hf : μ 16 0 13 = 0 → FM μ0 μ) (h1 : ∀ μ' m c n k p, aR μ0 μ μ' → m < mct μ0 → x = nI m → c < kct μ0 → y = nI c → dl μ0 n (m * 5 + 4) c → k < n → w = nI k → pth μ0 c k (m * 5 + 4) p → Q (some (pI (nI p))) μ') (h0 : ∀ μ', aR μ0 μ μ' → (∀ m c n k, m < mct μ0 → x = nI m → c < kct μ0 → y = nI c → dl μ0 n (m * 5 + 4) c → k < n → w ≠ nI k) → Q (some (pI (-1))) μ') : Cl 41 [pR 16 0, pI x, pI y, pI w] μ Q := by
  have n40 : ∀ m c n, m < mct μ0 → dl μ0 n (m * 5 + 4) c → n ≤ 40 := fun m c n hm hd => dl_40 hT (by have := hT.m.2; omega) hd
  refine Cl_in rfl ?_
  (repeat refine Ax_step rfl ?_)
  refine Ax_call rfl (r_wayOf hT hR hf (fun μ' m c n ha hR' hm e hc e2 hd => ?_) (fun μ' ha hR' no => ?_))
  · have hn40 := n40 m c n hm hd
    subst e
    subst e2
    have hmc := hT.m.2
    have hk := hT.k
    have no0 : (∀ k, k < n → w ≠ nI k) → (∀ m' c' n' k, m' < mct μ0 → nI m = nI m' → c' < kct μ0 → nI c = nI c' → dl μ0 n' (m' * 5 + 4) c' → k < n' → w ≠ nI k) := by
      intro hno m' c' n' k hm' e hc' e2 hd' hk'
      have e3 := (nI_eq (by omega) (by omega)).mp e
      have e4 := (nI_eq (by omega) (by omega)).mp e2
      subst e3
      subst e4
      have := dl_fun hd hd'
      subst this
      exact hno k hk'
    (repeat refine Ax_step rfl ?_)
    refine Ax_br rfl (fun hb => ?_) (fun hb => ?_)
    · (repeat refine Ax_step rfl ?_)
      exact Ax_rI rfl ⟨rfl, h0 μ' ha (no0 (nI_no (by omega) (Or.inl hb)))⟩
    · (repeat refine Ax_step rfl ?_)
      refine Ax_br rfl (fun hb2 => ?_) (fun hb2 => ?_)
      · obtain ⟨k, hkn, ew⟩ := nI_yes (n := n) (by omega) hb (Int32.not_le.mpr hb2)
        subst ew
        (repeat refine Ax_step rfl ?_)
        have loop : ∀ r i, i + r = k → ∀ (d n' : Nat) (j : Nat) (z : Option PV), d < 40 → nst μ0 d c j n' → n = i + n' → (∀ p, p < 192 → pth μ0 c r d p → Q (some (pI (nI p))) μ') → Ax 41 50 [some (pR 16 0), some (pI (nI m)), some (pI (nI c)), some (pI (nI k)), some (pI (nI n)), some (pI (nI (d / 5))), some (pI (hdI d)), some (pI (nI j)), some (pI (nI i)), z] [pI (nI k), pI (nI i)] μ' (fun y r' μ1 => y = 0 ∧ Q r' μ1) := by
          intro r
          induction r with
          | zero =>
            intro i hi d n' j z hd40 hn hni hq
            have hj := hn.1
            have hs := (hT.s (show d / 5 < 8 by omega)).2
            refine Ax_br rfl (fun _ => ?_) (fun hb => absurd (nI_le (by omega) (by omega)) hb)
            (repeat refine Ax_step rfl ?_)
            rw [pk_mul, nI_add]
            refine Ax_rI rfl ⟨rfl, hq _ (by omega) ⟨j, n', hn, by omega⟩⟩
          | succ r ih =>
            intro i hi d n' j z hd40 hn hni hq
            have hj := hn.1
            have hm8 : d / 5 < 8 := by omega
            have hs := (hT.s hm8).2
            obtain ⟨v, rfl⟩ : ∃ v, n' = v + 1 := ⟨n' - 1, by omega⟩
            obtain ⟨d', s1, s2⟩ := nst_src hn (by omega)
            have hd' := src_lt hT hm8 hj s1
            obtain ⟨i1, i2, i3⟩ := hR'.i hm8 (show j < 24 by omega)
            obtain ⟨q, hcd, hq10, g0, g1, g4, g5, g6, g7⟩ := hT.i hm8 hj
            have hop : opc μ0 (d / 5) j = q := nI_self hcd (by omega)
            have hat : 24 * (d / 5) + j < 192 := by omega
            refine Ax_br rfl (fun hb => absurd hb (nI_ge (by omega) (by omega))) (fun _ => ?_)
            (repeat refine Ax_step rfl ?_)
            rw [pk_mul, nI_add]
            refine Ax_ald (24 * (d / 5) + j) rfl rfl hat ?_
            rw [i1, hcd]
            (repeat refine Ax_step rfl ?_)
            have rest : ∀ z : Option PV, Ax 41 127 [some (pR 16 0), some (pI (nI m)), some (pI (nI c)), some (pI (nI k)), some (pI (nI n)), some (pI (nI (d' / 5))), some (pI (hdI d')), some (pI (nI j)), some (pI (nI i)), z] [pI (nI n - nI i - nI 1), pI (nI c), pI (hdI d'), pI (nI (d' / 5)), pR 16 0] μ' (fun y r' μ1 => y = 0 ∧ Q r' μ1) := by
              intro z
              rw [show nI n - nI i - nI 1 = nI v by rw [hni, ← nI_add i (v + 1), Int32.add_comm (nI i), Int32.add_sub_cancel, nI_s1]]
              refine Ax_call rfl (r_first hT hR' ha.2.2.2 hd' hc s2 (fun j' hj' => ?_))
              (repeat refine Ax_step rfl ?_)
              rw [nI_add]
              exact ih (i + 1) (by omega) d' v j' _ hd' hj' (by omega) (fun p hp hpp => hq p hp ⟨j, v + 1, d', hn, s1, hpp⟩)
            unfold src at s1
            rw [hop] at s1
            refine Ax_br rfl (fun hb => ?_) (fun hb => ?_)
            · have h8 : q ≠ 8 := fun z => hb (by rw [z])
              by_cases h6 : q = 6
              · rw [if_pos h6] at s1
                obtain ⟨-, b, hb8, eb⟩ := g6 h6
                rw [show ob μ0 (d / 5) j = b from nI_self eb (by omega)] at s1
                have s1' : b * 5 + 4 = d' := Option.some.inj s1
                (repeat refine Ax_step rfl ?_)
                refine Ax_ald (24 * (d / 5) + j) rfl rfl hat ?_
                rw [i1, hcd]
                (repeat refine Ax_step rfl ?_)
                refine Ax_br rfl (fun _ => ?_) (fun hb => absurd (fun z => h8 ((nI_eq (by omega) (by omega)).mp z)) hb)
                (repeat refine Ax_step rfl ?_)
                refine Ax_ald (24 * (d / 5) + j) rfl rfl hat ?_
                rw [i3, eb]
                have := rest (some (pI (nI (24 * (d / 5) + j))))
                rw [← s1', hdI_4, show (b * 5 + 4) / 5 = b by omega] at this
                (repeat refine Ax_step rfl ?_)
                exact this
              · rw [if_neg h6, if_neg h8] at s1; cases s1
            · have h8 : q = 8 := (nI_eq (by omega) (by omega)).mp (Decidable.byContradiction hb)
              rw [if_neg (by omega), if_pos h8] at s1
              obtain ⟨a, ha4, ea⟩ := g0 (by omega)
              rw [show oa μ0 (d / 5) j = a from nI_self ea (by omega)] at s1
              have s1' : d / 5 * 5 + a = d' := Option.some.inj s1
              (repeat refine Ax_step rfl ?_)
              refine Ax_ald (24 * (d / 5) + j) rfl rfl hat ?_
              rw [i2, ea]
              (repeat refine Ax_step rfl ?_)
              refine Ax_ald (24 * (d / 5) + j) rfl rfl hat ?_
              rw [i1, hcd]
              (repeat refine Ax_step rfl ?_)
              refine Ax_br rfl (fun hb => absurd (by rw [h8]) hb) (fun _ => ?_)
              have := rest (some (pI (nI (24 * (d / 5) + j))))
              rw [← s1', hdI_h ha4, show (d / 5 * 5 + a) / 5 = d / 5 by omega] at this
              (repeat refine Ax_step rfl ?_)
              exact this
        have hdm : (m * 5 + 4) / 5 = m := by omega
        have := r_first (Q := fun r μ1 => Ax 41 42 [some (pR 16 0), some (pI (nI m)), some (pI (nI c)), some (pI (nI k)), some (pI (nI n)), some (pI (nI m)), some (pI (-1)), none, none, none] (ppu r []) μ1 (fun y r' μ1 => y = 0 ∧ Q r' μ1)) hT hR' ha.2.2.2 (show m * 5 + 4 < 40 by omega) hc hd (fun j hj => by
          (repeat refine Ax_step rfl ?_)
          have := loop k 0 (by omega) (m * 5 + 4) n j none (by omega) hj (by omega) (fun p _ hpp => h1 μ' m c n k p ha hm rfl hc rfl hd hkn rfl hpp)
          rw [hdm, hdI_4] at this
          exact this)
        rw [hdm, hdI_4] at this
        exact Ax_call rfl this
      · (repeat refine Ax_step rfl ?_)
        exact Ax_rI rfl ⟨rfl, h0 μ' ha (no0 (nI_no (by omega) (Or.inr (Int32.not_lt.mp hb2))))⟩
  · (repeat refine Ax_step rfl ?_)
    have no' : (∀ m c n k, m < mct μ0 → x = nI m → c < kct μ0 → y = nI c → dl μ0 n (m * 5 + 4) c → k < n → w ≠ nI k) := fun m c n k a1 a2 a3 a4 a5 => absurd a5 (no m c n a1 a2 a3 a4)
    refine Ax_br rfl (fun hb => ?_) (fun hb => ?_)
    · (repeat refine Ax_step rfl ?_)
      exact Ax_rI rfl ⟨rfl, h0 μ' ha no'⟩
    · (repeat refine Ax_step rfl ?_)
      refine Ax_br rfl (fun hb2 => absurd hb2 hb) (fun hb2 => ?_)
      (repeat refine Ax_step rfl ?_)
      exact Ax_rI rfl ⟨rfl, h0 μ' ha no'⟩
theorem r_thrown (h : Q (some (pI (μ 16 0 0))) μ) : Cl 14 [pR 16 0] μ Q := by
  refine Cl_in rfl ?_
  (repeat refine Ax_step rfl ?_)
  exact Ax_rI rfl ⟨rfl, h⟩
theorem r_spent (h : Q (some (pI (μ 16 0 20))) (pu μ 16 0 0 (nI 0))) : Cl 50 [pR 16 0] μ Q := by
  refine Cl_in rfl ?_
  (repeat refine Ax_step rfl ?_)
  rw [pu_j (by omega)]
  exact Ax_rI rfl ⟨rfl, h⟩
theorem r_escaped (h : Q (some (pI (μ 16 0 21))) (pu μ 16 0 0 (nI 0))) : Cl 51 [pR 16 0] μ Q := by
  refine Cl_in rfl ?_
  (repeat refine Ax_step rfl ?_)
  rw [pu_j (by omega)]
  exact Ax_rI rfl ⟨rfl, h⟩
end P27
