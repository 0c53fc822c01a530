/-! lower, settle. -/
def tot (f : Nat → Int32) : Nat → Nat
  | 0 => 0
  | n + 1 => tot f n + tn (f n)
theorem tot_eq {f g : Nat → Int32} : ∀ (n : Nat), (∀ j, j < n → g j = f j) → tot g n = tot f n
  | 0, _ => rfl
  | n + 1, h => by show tot g n + tn (g n) = tot f n + tn (f n); rw [tot_eq n (fun j hj => h j (by omega)), h n (by omega)]
theorem tot_lt {f g : Nat → Int32} {k : Nat} : ∀ (n : Nat), k < n → (∀ j, j ≠ k → g j = f j) → tn (g k) < tn (f k) → tot g n < tot f n
  | 0, h, _, _ => by omega
  | n + 1, h, he, hl => by
    show tot g n + tn (g n) < tot f n + tn (f n)
    by_cases e : k = n
    · subst e
      rw [tot_eq k (fun j hj => he j (by omega))]; omega
    · have := tot_lt n (by omega) he hl
      rw [he n (by omega)]; omega
theorem ix_inj {m i c m' i' c' : Nat} (hi : i < 24) (hi' : i' < 24) (hc : c < 10) (hc' : c' < 10) (h : ix m i c = ix m' i' c') : m = m' ∧ i = i' ∧ c = c' := by
  unfold ix at h
  omega
def fxC (μ0 μ : PM) (m i c : Nat) : Prop := ∃ w, RK μ0 μ m i c w ∧ lv μ m i c ≤ w
def FM (μ0 μ : PM) : Prop := ∀ m i c, m < mct μ0 → i < szm μ0 m → c < kct μ0 → (∀ k, ls μ0 k m i c → μ 27 0 (ix m i c) = nI k) ∧ ((∀ k, ¬ wy μ0 k m i c) → μ 27 0 (ix m i c) = nI 1000000)
section P26
variable {μ0 μ : PM} {Q : Option PV → PM → Prop}
theorem fx_all (hT : TI μ0) (hI : LI μ0 μ) (hf : ∀ m i c, m < mct μ0 → i < szm μ0 m → c < kct μ0 → fxC μ0 μ m i c) : FM μ0 μ := by
  have hmc := hT.m.2
  have comp : ∀ n m i c, m < mct μ0 → i < szm μ0 m → c < kct μ0 → wy μ0 n m i c → lv μ m i c ≤ n := by
    intro n
    induction n with
    | zero => intro m i c _ _ _ h; exact h.elim
    | succ n ih =>
      intro m i c hm hi hc hw
      obtain ⟨w, ⟨k1, k2, k3, k4⟩, hle⟩ := hf m i c hm hi hc
      rcases Nat.eq_zero_or_pos n with z | z
      · subst z
        have := k2 hw
        omega
      · obtain ⟨d, hs, j, hj, ht, hw2⟩ := (wy_s z).mp hw
        have hd := src_lt hT (by omega) hi hs
        have hd5 : d / 5 < mct μ0 := by
          rcases Nat.lt_or_ge (d / 5) (mct μ0) with z | z
          · exact z
          · rw [(hT.out (by omega) z).1] at hj; omega
        have := ih (d / 5) j c hd5 hj hc hw2
        have := k3 d j hs hj ht
        omega
  intro m i c hm hi hc
  obtain ⟨hB, hS⟩ := hI
  obtain ⟨b1, b2⟩ := hB m i c hm hi hc
  refine ⟨fun k hl => ?_, fun no => ?_⟩
  · have h1 := comp k m i c hm hi hc hl.1
    have h41 := ls_41 hT (by omega) hi hl
    have h2 := hS m i c hm hi hc (by omega)
    rcases Nat.lt_or_ge (lv μ m i c) k with z | z
    · exact absurd h2 (hl.2 _ z)
    · rw [b1, show lv μ m i c = k by omega]
  · rw [b1]
    rcases Nat.lt_or_ge (lv μ m i c) 1000000 with z | z
    · exact absurd (hS m i c hm hi hc z) (no _)
    · rw [show lv μ m i c = 1000000 by omega]
/-- a lower number is laid -/
theorem li_put {m i c w : Nat} (hT : TI μ0) (hI : LI μ0 μ) (hm : m < mct μ0) (hi : i < szm μ0 m) (hc : c < kct μ0) (hK : RK μ0 μ m i c w) (hw : w < lv μ m i c) : LI μ0 (pu μ 27 0 (ix m i c) (nI w)) ∧ tot (pu μ 27 0 (ix m i c) (nI w) 27 0) 1920 < tot (μ 27 0) 1920 := by
  have hmc := hT.m.2
  have hkc := hT.k.2.2
  obtain ⟨hB, hS⟩ := hI
  obtain ⟨b1, b2⟩ := hB m i c hm hi hc
  have hs := (hT.s (show m < 8 by omega)).2
  have here : lv (pu μ 27 0 (ix m i c) (nI w)) m i c = w := by
    unfold lv
    rw [pu_s]; exact nI_clamp (by omega)
  have other : ∀ a b d, a < mct μ0 → b < szm μ0 a → d < kct μ0 → ¬ (a = m ∧ b = i ∧ d = c) → pu μ 27 0 (ix m i c) (nI w) 27 0 (ix a b d) = μ 27 0 (ix a b d) := by
    intro a b d ha hb hd hne
    have hs2 := (hT.s (show a < 8 by omega)).2
    exact pu_j (fun z => hne (ix_inj (by omega) (by omega) (by omega) (by omega) z))
  have hwy : wy μ0 w m i c := by
    obtain ⟨-, -, -, k4⟩ := hK
    rcases k4 (by omega) with ⟨rfl, ho⟩ | ⟨d, j, z1, z2, z3, z4⟩
    · exact ho
    · have hd := src_lt hT (by omega) hi z1
      have hd5 : d / 5 < mct μ0 := by
        rcases Nat.lt_or_ge (d / 5) (mct μ0) with z | z
        · exact z
        · rw [(hT.out (by omega) z).1] at z2; omega
      have hw2 := hS (d / 5) j c hd5 z2 hc (by omega)
      rw [z4, Nat.add_comm]
      exact (wy_s (wy_pos hw2)).mpr ⟨d, z1, j, z2, z3, hw2⟩
  refine ⟨⟨fun a b d ha hb hd => ?_, fun a b d ha hb hd hlt => ?_⟩, ?_⟩
  · by_cases e : a = m ∧ b = i ∧ d = c
    · obtain ⟨rfl, rfl, rfl⟩ := e
      rw [here, pu_s]; exact ⟨rfl, by omega⟩
    · have h1 := other a b d ha hb hd e
      have h2 : lv (pu μ 27 0 (ix m i c) (nI w)) a b d = lv μ a b d := congrArg tn h1
      rw [h1, h2]; exact hB a b d ha hb hd
  · by_cases e : a = m ∧ b = i ∧ d = c
    · obtain ⟨rfl, rfl, rfl⟩ := e
      rw [here]; exact hwy
    · have h2 : lv (pu μ 27 0 (ix m i c) (nI w)) a b d = lv μ a b d := congrArg tn (other a b d ha hb hd e)
      rw [h2] at hlt ⊢
      exact hS a b d ha hb hd hlt
  · refine tot_lt (k := ix m i c) 1920 (by unfold ix; omega) (fun j hj => pu_j hj) ?_
    show lv (pu μ 27 0 (ix m i c) (nI w)) m i c < lv μ m i c
    rw [here]; exact hw
/-- where lower stands: what was laid, what was looked at -/
def loI (μ0 μ μk : PM) (P : Nat → Nat → Nat → Prop) (b : Int32) : Prop := LI μ0 μk ∧ (∀ t mm j, t ≠ 27 → μk t mm j = μ t mm j) ∧ ((b = 0 ∧ (∀ j, μk 27 0 j = μ 27 0 j) ∧ ∀ m i c, m < mct μ0 → i < szm μ0 m → c < kct μ0 → P m i c → fxC μ0 μ m i c) ∨ (b = 1 ∧ tot (μk 27 0) 1920 < tot (μ 27 0) 1920))
theorem loI.to {μk : PM} {P P' : Nat → Nat → Nat → Prop} {b : Int32} (h : loI μ0 μ μk P b) (hp : ∀ m i c, m < mct μ0 → i < szm μ0 m → c < kct μ0 → P' m i c → P m i c) : loI μ0 μ μk P' b := by
  obtain ⟨h1, h2, h3⟩ := h
  refine ⟨h1, h2, ?_⟩
  rcases h3 with ⟨a, b, c⟩ | z
  · exact Or.inl ⟨a, b, fun m i d hm hi hd h => c m i d hm hi hd (hp m i d hm hi hd h)⟩
  · exact Or.inr z
theorem RK_same {μk : PM} (hs : ∀ j, μk 27 0 j = μ 27 0 j) {m i c w : Nat} (h : RK μ0 μk m i c w) : RK μ0 μ m i c w := by
  have e : ∀ a b d, lv μk a b d = lv μ a b d := fun a b d => congrArg tn (hs _)
  obtain ⟨h1, h2, h3, h4⟩ := h
  simp only [e] at h3 h4
  exact ⟨h1, h2, h3, h4⟩
theorem r_lower (hT : TI μ0) (hR : TR μ0 μ) (hI : LI μ0 μ) (h0 : ∀ μ', LI μ0 μ' → (∀ t mm j, t ≠ 27 → μ' t mm j = μ t mm j) → FM μ0 μ' → Q (some (pI 0)) μ') (h1 : ∀ μ', LI μ0 μ' → (∀ t mm j, t ≠ 27 → μ' t mm j = μ t mm j) → tot (μ' 27 0) 1920 < tot (μ 27 0) 1920 → Q (some (pI 1)) μ') : Cl 31 [pR 16 0] μ Q := by
  have hmc := hT.m.2
  have hkc := hT.k
  have trk : ∀ μk : PM, (∀ t mm j, t ≠ 27 → μk t mm j = μ t mm j) → TR μ0 μk := fun μk hk => hR.keep (hk 16 0 1 (by omega)) (hk 16 0 3 (by omega)) (fun t j a b => hk t 0 j (by omega))
  have outer : ∀ r m, m + r = mct μ0 → ∀ (b : Int32) (μk : PM) (z1 z2 z3 z4 : Option PV), loI μ0 μ μk (fun a _ _ => a < m) b → Ax 31 9 [some (pR 16 0), some (pI b), some (pI (nI m)), z1, z2, z3, z4] [pI (μk 16 0 3), pI (nI m)] μk (fun y r' μ1 => y = 0 ∧ Q r' μ1) := by
    intro r
    induction r with
    | zero =>
      intro m hm b μk z1 z2 z3 z4 hl
      rw [(trk μk hl.2.1).m]
      refine Ax_br rfl (fun _ => ?_) (fun hb => absurd (nI_le (by omega) (by omega)) hb)
      (repeat refine Ax_step rfl ?_)
      obtain ⟨k1, k2, ⟨rfl, k3, k4⟩ | ⟨rfl, k3⟩⟩ := hl
      · refine Ax_rZ rfl (Or.inl rfl) ⟨rfl, h0 μk k1 k2 ?_⟩
        have hf : FM μ0 μ := fx_all hT hI (fun a i c ha hi hc => k4 a i c ha hi hc (by omega))
        intro a i c ha hi hc
        rw [k3]; exact hf a i c ha hi hc
      · exact Ax_rZ rfl (Or.inr rfl) ⟨rfl, h1 μk k1 k2 k3⟩
    | succ r ih =>
      intro m hm b μk z1 z2 z3 z4 hl
      rw [(trk μk hl.2.1).m]
      have hm8 : m < 8 := by omega
      have hs := hT.s hm8
      refine Ax_br rfl (fun hb => absurd hb (nI_ge (by omega) (by omega))) (fun _ => ?_)
      (repeat refine Ax_step rfl ?_)
      have mid : ∀ r2 i, i + r2 = szm μ0 m → ∀ (b : Int32) (μk : PM) (z2 z3 z4 : Option PV), loI μ0 μ μk (fun a i' _ => a < m ∨ (a = m ∧ i' < i)) b → Ax 31 20 [some (pR 16 0), some (pI b), some (pI (nI m)), some (pI (nI i)), z2, z3, z4] [pI (nI m), pR 18 0, pI (nI i)] μk (fun y r' μ1 => y = 0 ∧ Q r' μ1) := by
        intro r2
        induction r2 with
        | zero =>
          intro i hi b μk z2 z3 z4 hl
          refine Ax_ald m rfl rfl hm8 ?_
          rw [(trk μk hl.2.1).s hm8, hs.1]
          refine Ax_br rfl (fun _ => ?_) (fun hb => absurd (nI_le (by omega) (by omega)) hb)
          (repeat refine Ax_step rfl ?_)
          rw [nI_add]
          refine ih (m + 1) (by omega) b μk _ _ _ _ (hl.to (fun a i' c ha hi' hc hp => ?_))
          by_cases e : a = m
          · subst e; exact Or.inr ⟨rfl, by omega⟩
          · exact Or.inl (by omega)
        | succ r2 ih2 =>
          intro i hi b μk z2 z3 z4 hl
          refine Ax_ald m rfl rfl hm8 ?_
          rw [(trk μk hl.2.1).s hm8, hs.1]
          refine Ax_br rfl (fun hb => absurd hb (nI_ge (by omega) (by omega))) (fun _ => ?_)
          (repeat refine Ax_step rfl ?_)
          have inner : ∀ r3 c, c + r3 = kct μ0 → ∀ (b : Int32) (μk : PM) (z3 z4 : Option PV), loI μ0 μ μk (fun a i' c' => a < m ∨ (a = m ∧ (i' < i ∨ (i' = i ∧ c' < c)))) b → Ax 31 33 [some (pR 16 0), some (pI b), some (pI (nI m)), some (pI (nI i)), some (pI (nI c)), z3, z4] [pI (μk 16 0 1), pI (nI c)] μk (fun y r' μ1 => y = 0 ∧ Q r' μ1) := by
            intro r3
            induction r3 with
            | zero =>
              intro c hc b μk z3 z4 hl
              rw [(trk μk hl.2.1).k]
              refine Ax_br rfl (fun _ => ?_) (fun hb => absurd (nI_le (by omega) (by omega)) hb)
              (repeat refine Ax_step rfl ?_)
              rw [nI_add]
              refine ih2 (i + 1) (by omega) b μk _ _ _ (hl.to (fun a i' c' ha hi' hc' hp => ?_))
              rcases hp with z | ⟨z1, z2⟩
              · exact Or.inl z
              · by_cases e : i' = i
                · exact Or.inr ⟨z1, Or.inr ⟨e, by omega⟩⟩
                · exact Or.inr ⟨z1, Or.inl (by omega)⟩
            | succ r3 ih3 =>
              intro c hc b μk z3 z4 hl
              have hRk := trk μk hl.2.1
              rw [hRk.k]
              refine Ax_br rfl (fun hb => absurd hb (nI_ge (by omega) (by omega))) (fun _ => ?_)
              (repeat refine Ax_step rfl ?_)
              obtain ⟨k1, k2, k3⟩ := hl
              have hmm : m < mct μ0 := by omega
              have hii : i < szm μ0 m := by omega
              have hcc : c < kct μ0 := by omega
              refine Ax_call rfl (r_reckon hT hRk k1.1 hmm hii hcc (fun w hw => ?_))
              obtain ⟨b1, b2⟩ := k1.1 m i c hmm hii hcc
              (repeat refine Ax_step rfl ?_)
              rw [pk_mul, nI_add, pk_mul, nI_add]
              refine Ax_ald (ix m i c) rfl rfl (show ix m i c < 1920 by unfold ix; omega) ?_
              rw [b1]
              have hw1 := hw.1
              refine Ax_br rfl (fun hb => ?_) (fun hb => ?_)
              · have hle : lv μk m i c ≤ w := (nI_leI (by omega) (by omega)).mp hb
                (repeat refine Ax_step rfl ?_)
                rw [nI_add]
                refine ih3 (c + 1) (by omega) b μk _ _ ⟨k1, k2, ?_⟩
                rcases k3 with ⟨e, s1, s2⟩ | z
                · refine Or.inl ⟨e, s1, fun a i' c' ha hi' hc' hp => ?_⟩
                  by_cases ee : a = m ∧ i' = i ∧ c' = c
                  · obtain ⟨rfl, rfl, rfl⟩ := ee
                    exact ⟨w, RK_same s1 hw, by rw [← show lv μk a i' c' = lv μ a i' c' from congrArg tn (s1 _)]; exact hle⟩
                  · refine s2 a i' c' ha hi' hc' ?_
                    omega
                · exact Or.inr z
              · have hlt : w < lv μk m i c := by
                  rcases Nat.lt_or_ge w (lv μk m i c) with z | z
                  · exact z
                  · exact absurd (nI_le z (by omega)) hb
                (repeat refine Ax_step rfl ?_)
                refine Ax_ast (ix m i c) rfl rfl (show ix m i c < 1920 by unfold ix; omega) ?_
                (repeat refine Ax_step rfl ?_)
                rw [nI_add]
                obtain ⟨g1, g2⟩ := li_put hT k1 hmm hii hcc hw hlt
                refine ih3 (c + 1) (by omega) 1 _ _ _ ⟨g1, fun t mm j ht => by rw [pu_t ht]; exact k2 t mm j ht, Or.inr ⟨rfl, ?_⟩⟩
                rcases k3 with ⟨-, s1, -⟩ | ⟨-, z⟩
                · rw [← tot_eq (f := μ 27 0) (g := μk 27 0) 1920 (fun j _ => s1 j)]; exact g2
                · omega
          refine inner (kct μ0) 0 (by omega) b μk _ _ (hl.to (fun a i' c' ha hi' hc' hp => ?_))
          rcases hp with z | ⟨z1, z2 | ⟨_, z2⟩⟩
          · exact Or.inl z
          · exact Or.inr ⟨z1, z2⟩
          · omega
      refine mid (szm μ0 m) 0 (by omega) b μk _ _ _ (hl.to (fun a i' c' ha hi' hc' hp => ?_))
      rcases hp with z | ⟨_, z⟩
      · exact z
      · omega
  refine Cl_in rfl ?_
  (repeat refine Ax_step rfl ?_)
  exact outer (mct μ0) 0 (by omega) 0 μ _ _ _ _ ⟨hI, fun _ _ _ _ => rfl, Or.inl ⟨rfl, fun _ => rfl, fun a _ _ _ _ _ hp => by omega⟩⟩
/-- what a question leaves in the reference -/
def frR (μ μ' : PM) : Prop := (∀ t mm j, t ≠ 27 → t ≠ 16 → μ' t mm j = μ t mm j) ∧ ∀ j, j ≠ 13 → j ≠ 0 → μ' 16 0 j = μ 16 0 j
theorem frR.tr {μ μ' : PM} (h : frR μ μ') (hR : TR μ0 μ) : TR μ0 μ' := hR.keep (h.2 1 (by omega) (by omega)) (h.2 3 (by omega) (by omega)) (fun t j a b => h.1 t 0 j (by omega) (by omega))
theorem r_settle (hT : TI μ0) (hR : TR μ0 μ) (hf : μ 16 0 13 = 0 → FM μ0 μ) (h : ∀ μ', frR μ μ' → μ' 16 0 0 = μ 16 0 0 → μ' 16 0 13 = 0 → FM μ0 μ' → Q none μ') : Cl 32 [pR 16 0] μ Q := by
  have trk : ∀ μk : PM, (∀ t mm j, t ≠ 27 → μk t mm j = μ t mm j) → TR μ0 μk := fun μk hk => hR.keep (hk 16 0 1 (by omega)) (hk 16 0 3 (by omega)) (fun t j a b => hk t 0 j (by omega))
  refine Cl_in rfl ?_
  (repeat refine Ax_step rfl ?_)
  refine Ax_br rfl (fun hb => ?_) (fun hb => ?_)
  · (repeat refine Ax_step rfl ?_)
    have fin : ∀ (μk : PM) (z : Option PV), (∀ t mm j, t ≠ 27 → μk t mm j = μ t mm j) → FM μ0 μk → Ax 32 45 [some (pR 16 0), z] [] μk (fun y r' μ1 => y = 0 ∧ Q r' μ1) := by
      intro μk z hk hF
      (repeat refine Ax_step rfl ?_)
      refine Ax_putz rfl rfl (Or.inl rfl) ?_
      refine Ax_rV rfl ⟨rfl, h _ ⟨fun t mm j h27 h16 => by rw [pu_t h16]; exact hk t mm j h27, fun j h13 _ => by rw [pu_j h13]; exact hk 16 0 j (by omega)⟩ (by rw [pu_j (by omega)]; exact hk 16 0 0 (by omega)) pu_s ?_⟩
      intro m i c hm hi hc
      rw [pu_t (by omega)]; exact hF m i c hm hi hc
    have lo : ∀ n (μk : PM), tot (μk 27 0) 1920 ≤ n → (∀ t mm j, t ≠ 27 → μk t mm j = μ t mm j) → LI μ0 μk → Ax 32 34 [some (pR 16 0), some (pI 1)] [pI 1] μk (fun y r' μ1 => y = 0 ∧ Q r' μ1) := by
      intro n
      induction n with
      | zero =>
        intro μk hn hk hI
        refine Ax_br rfl (fun hb => absurd hb (by decide)) (fun _ => ?_)
        (repeat refine Ax_step rfl ?_)
        refine Ax_call rfl (r_lower hT (trk μk hk) hI (fun μ' g1 g2 g3 => ?_) (fun μ' g1 g2 g3 => by omega))
        (repeat refine Ax_step rfl ?_)
        refine Ax_br rfl (fun _ => ?_) (fun hb => absurd rfl hb)
        exact fin μ' _ (fun t mm j ht => (g2 t mm j ht).trans (hk t mm j ht)) g3
      | succ n ih =>
        intro μk hn hk hI
        refine Ax_br rfl (fun hb => absurd hb (by decide)) (fun _ => ?_)
        (repeat refine Ax_step rfl ?_)
        refine Ax_call rfl (r_lower hT (trk μk hk) hI (fun μ' g1 g2 g3 => ?_) (fun μ' g1 g2 g3 => ?_))
        · (repeat refine Ax_step rfl ?_)
          refine Ax_br rfl (fun _ => ?_) (fun hb => absurd rfl hb)
          exact fin μ' _ (fun t mm j ht => (g2 t mm j ht).trans (hk t mm j ht)) g3
        · (repeat refine Ax_step rfl ?_)
          exact ih μ' (by omega) (fun t mm j ht => (g2 t mm j ht).trans (hk t mm j ht)) g1
    have fill : ∀ r k, k + r = 1920 → ∀ μk : PM, (∀ t mm j, t ≠ 27 → μk t mm j = μ t mm j) → (∀ j, j < k → μk 27 0 j = nI 1000000) → Ax 32 14 [some (pR 16 0), some (pI (nI k))] [pI (nI 1920), pI (nI k)] μk (fun y r' μ1 => y = 0 ∧ Q r' μ1) := by
      intro r
      induction r with
      | zero =>
        intro k hk μk hA hB
        refine Ax_br rfl (fun _ => ?_) (fun hb => absurd (nI_le (by omega) (by omega)) hb)
        (repeat refine Ax_step rfl ?_)
        have hall : ∀ m i c, m < mct μ0 → i < szm μ0 m → c < kct μ0 → μk 27 0 (ix m i c) = nI 1000000 := by
          intro m i c hm hi hc
          have h1 := hT.m.2
          have h2 := hT.k.2.2
          have h3 := (hT.s (show m < 8 by omega)).2
          exact hB _ (by unfold ix; omega)
        refine lo _ μk (Nat.le_refl _) hA ⟨fun m i c hm hi hc => ?_, fun m i c hm hi hc hlt => ?_⟩
        · have e : lv μk m i c = 1000000 := nI_self (hall m i c hm hi hc) (by omega)
          rw [e]; exact ⟨hall m i c hm hi hc, by omega⟩
        · have e : lv μk m i c = 1000000 := nI_self (hall m i c hm hi hc) (by omega)
          omega
      | succ r ih =>
        intro k hk μk hA hB
        refine Ax_br rfl (fun hb => absurd hb (nI_ge (by omega) (by omega))) (fun _ => ?_)
        (repeat refine Ax_step rfl ?_)
        refine Ax_ast k rfl rfl (show k < 1920 by omega) ?_
        (repeat refine Ax_step rfl ?_)
        rw [nI_add]
        refine ih (k + 1) (by omega) _ (fun t mm j ht => by rw [pu_t ht]; exact hA t mm j ht) (fun j hj => ?_)
        by_cases e : j = k
        · subst e; exact pu_s
        · rw [pu_j e]; exact hB j (by omega)
    exact fill 1920 0 (by omega) μ (fun _ _ _ _ => rfl) (fun j hj => by omega)
  · have h0 : μ 16 0 13 = 0 := Decidable.byContradiction hb
    exact Ax_rV rfl ⟨rfl, h μ ⟨fun _ _ _ _ _ => rfl, fun _ _ _ => rfl⟩ rfl h0 (hf h0)⟩
end P26
