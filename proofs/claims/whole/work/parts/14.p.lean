/-! A round over all instructions; refresh. -/
def prs (μ : PM) (m i a b : Nat) : Prop := (a < m ∧ b < szm μ a) ∨ (a = m ∧ b < i)
def rdP (μ0 μk : PM) (P : Nat → Nat → Prop) (S : Nat → Nat → Nat → Bool) (len : Int32) : Prop :=
  (∀ t mm j, t ≠ 5 → t ≠ 6 → t ≠ 9 → μk t mm j = μ0 t mm j) ∧
  (∀ a b c, a < 8 → b < 24 → c < 32 → (bt (μk 5 0 (a * 24 + b)) c = true ↔ bt (μ0 5 0 (a * 24 + b)) c = true ∨ (P a b ∧ S a b c = true))) ∧
  (∀ a b c, a < 8 → b < 24 → c < 10 → (P a b ∧ S a b c = true ∧ bt (μ0 5 0 (a * 24 + b)) c = false → μk 6 0 (c * 192 + (a * 24 + b)) = len) ∧ (¬ (P a b ∧ S a b c = true ∧ bt (μ0 5 0 (a * 24 + b)) c = false) → μk 6 0 (c * 192 + (a * 24 + b)) = μ0 6 0 (c * 192 + (a * 24 + b)))) ∧
  (∀ d c, d < 40 → c < 32 → (bt (μk 9 0 d) c = true ↔ bt (μ0 9 0 d) c = true ∨ ∃ a b, a < 8 ∧ b < 24 ∧ P a b ∧ S a b c = true ∧ bt (μ0 5 0 (a * 24 + b)) c = false ∧ thr μ0 a b c = d))
theorem rdP.ts {μ0 μk : PM} {P : Nat → Nat → Prop} {S : Nat → Nat → Nat → Bool} {len : Int32} (h : rdP μ0 μk P S len) : ts μ0 μk :=
  ⟨fun m j => h.1 1 m j (by omega) (by omega) (by omega), fun m j => h.1 2 m j (by omega) (by omega) (by omega), fun m j => h.1 15 m j (by omega) (by omega) (by omega), fun t m j ht => h.1 t m j (by omega) (by omega) (by omega)⟩
theorem rd_0 (μ : PM) (S : Nat → Nat → Nat → Bool) (len : Int32) : rdP μ μ (prs μ 0 0) S len := by
  have no : ∀ a b, ¬ prs μ 0 0 a b := fun a b h => by rcases h with h | h <;> omega
  refine ⟨fun _ _ _ _ _ _ => rfl, fun a b c _ _ _ => ⟨Or.inl, fun h => h.elim id (fun z => absurd z.1 (no a b))⟩, fun a b c _ _ _ => ⟨fun z => absurd z.1 (no a b), fun _ => rfl⟩, fun d c _ _ => ⟨Or.inl, fun h => h.elim id ?_⟩⟩
  rintro ⟨a, b, -, -, z, -⟩
  exact absurd z (no a b)
theorem rd_congr {μ0 μk : PM} {P P' : Nat → Nat → Prop} {S : Nat → Nat → Nat → Bool} {len : Int32} (h : rdP μ0 μk P S len) (e : ∀ a b c, a < 8 → b < 24 → ((P a b ∧ S a b c = true) ↔ (P' a b ∧ S a b c = true))) : rdP μ0 μk P' S len := by
  obtain ⟨h1, h2, h3, h4⟩ := h
  refine ⟨h1, fun a b c ha hb hc => ?_, fun a b c ha hb hc => ⟨fun z => ?_, fun z => ?_⟩, fun d c hd hc => ?_⟩
  · rw [h2 a b c ha hb hc, e a b c ha hb]
  · exact (h3 a b c ha hb hc).1 ⟨((e a b c ha hb).mpr ⟨z.1, z.2.1⟩).1, z.2⟩
  · exact (h3 a b c ha hb hc).2 (fun y => z ⟨((e a b c ha hb).mp ⟨y.1, y.2.1⟩).1, y.2⟩)
  · rw [h4 d c hd hc]
    constructor
    · rintro (z | ⟨a, b, ha, hb, z1, z2, z3⟩)
      · exact Or.inl z
      · exact Or.inr ⟨a, b, ha, hb, ((e a b c ha hb).mp ⟨z1, z2⟩).1, z2, z3⟩
    · rintro (z | ⟨a, b, ha, hb, z1, z2, z3⟩)
      · exact Or.inl z
      · exact Or.inr ⟨a, b, ha, hb, ((e a b c ha hb).mpr ⟨z1, z2⟩).1, z2, z3⟩
theorem rd_step {μ0 μk μ' : PM} {S : Nat → Nat → Nat → Bool} {len set : Int32} {m i : Nat} (h : rdP μ0 μk (prs μ0 m i) S len) (hm : m < 8) (hi : i < 24) (hn : ntP μk μ' m i set len) (hs : ∀ c, c < 32 → bt set c = S m i c) : rdP μ0 μ' (prs μ0 m (i + 1)) S len := by
  have hts := h.ts
  obtain ⟨h1, h2, h3, h4⟩ := h
  obtain ⟨n1, n2, n3, n4, n5⟩ := hn
  have self : ¬ prs μ0 m i m i := fun z => by rcases z with z | z <;> omega
  have grow : ∀ a b, ¬ (a = m ∧ b = i) → (prs μ0 m (i + 1) a b ↔ prs μ0 m i a b) := by
    intro a b hab
    unfold prs
    constructor
    · rintro (z | ⟨z1, z2⟩)
      · exact Or.inl z
      · exact Or.inr ⟨z1, by omega⟩
    · rintro (z | ⟨z1, z2⟩)
      · exact Or.inl z
      · exact Or.inr ⟨z1, by omega⟩
  have here : prs μ0 m (i + 1) m i := Or.inr ⟨rfl, by omega⟩
  have hold : ∀ c, c < 32 → bt (μk 5 0 (m * 24 + i)) c = bt (μ0 5 0 (m * 24 + i)) c := by
    intro c hc
    have := h2 m i c hm hi hc
    cases hz : bt (μ0 5 0 (m * 24 + i)) c with
    | true => exact this.mpr (Or.inl hz)
    | false =>
      cases hy : bt (μk 5 0 (m * 24 + i)) c with
      | false => rfl
      | true => rcases this.mp hy with z | z; rw [hz] at z; cases z; exact absurd z.1 self
  refine ⟨fun t mm j a b c => (n1 t mm j a b c).trans (h1 t mm j a b c), fun a b c ha hb hc => ?_, fun a b c ha hb hc => ?_, fun d c hd hc => ?_⟩
  · by_cases hab : a = m ∧ b = i
    · obtain ⟨rfl, rfl⟩ := hab
      rw [n3 c hc, hold c hc, hs c hc, Bool.or_eq_true]
      constructor
      · rintro (z | z)
        · exact Or.inl z
        · exact Or.inr ⟨here, z⟩
      · rintro (z | z)
        · exact Or.inl z
        · exact Or.inr z.2
    · rw [n2 (a * 24 + b) (by omega), h2 a b c ha hb hc, grow a b hab]
  · by_cases hab : a = m ∧ b = i
    · obtain ⟨rfl, rfl⟩ := hab
      rw [n4 c (a * 24 + b) hc (by omega), hs c (by omega), hold c (by omega)]
      constructor
      · intro z; rw [if_pos ⟨rfl, z.2⟩]
      · intro z
        rw [if_neg (fun y => z ⟨here, y.2⟩)]
        exact (h3 a b c ha hb hc).2 (fun y => self y.1)
    · rw [n4 c (a * 24 + b) hc (by omega), if_neg (by omega), grow a b hab]
      exact h3 a b c ha hb hc
  · rw [n5 d c hd hc, Bool.or_eq_true, h4 d c hd hc, hs c hc, hold c hc, ts_thr hts]
    simp only [Bool.and_eq_true, Bool.not_eq_true', decide_eq_true_eq]
    constructor
    · rintro ((z | ⟨a, b, ha, hb, z1, z2, z3⟩) | ⟨⟨z1, z2⟩, z3⟩)
      · exact Or.inl z
      · exact Or.inr ⟨a, b, ha, hb, (grow a b (fun y => self (by rw [y.1, y.2] at z1; exact z1))).mpr z1, z2, z3⟩
      · exact Or.inr ⟨m, i, hm, hi, here, z1, z2, z3⟩
    · rintro (z | ⟨a, b, ha, hb, z1, z2, z3, z4⟩)
      · exact Or.inl (Or.inl z)
      · by_cases hab : a = m ∧ b = i
        · obtain ⟨rfl, rfl⟩ := hab
          exact Or.inr ⟨⟨z2, z3⟩, z4⟩
        · exact Or.inl (Or.inr ⟨a, b, ha, hb, (grow a b hab).mp z1, z2, z3, z4⟩)
theorem rd_skip {μ0 μk : PM} {S : Nat → Nat → Nat → Bool} {len : Int32} {m i : Nat} (h : rdP μ0 μk (prs μ0 m i) S len) (hs : ∀ c, S m i c = false) : rdP μ0 μk (prs μ0 m (i + 1)) S len := by
  refine rd_congr h (fun a b c _ _ => ?_)
  unfold prs
  constructor
  · rintro ⟨z | z, y⟩
    · exact ⟨Or.inl z, y⟩
    · exact ⟨Or.inr ⟨z.1, by omega⟩, y⟩
  · rintro ⟨z | z, y⟩
    · exact ⟨Or.inl z, y⟩
    · by_cases hb : b = i
      · rw [z.1, hb, hs c] at y; cases y
      · exact ⟨Or.inr ⟨z.1, by omega⟩, y⟩
theorem rd_line {μ0 μk : PM} {S : Nat → Nat → Nat → Bool} {len : Int32} {m : Nat} (h : rdP μ0 μk (prs μ0 m (szm μ0 m)) S len) : rdP μ0 μk (prs μ0 (m + 1) 0) S len := by
  refine rd_congr h (fun a b c _ _ => ?_)
  unfold prs
  constructor
  · rintro ⟨z | z, y⟩
    · exact ⟨Or.inl ⟨by omega, z.2⟩, y⟩
    · exact ⟨Or.inl ⟨by omega, by rw [z.1]; exact z.2⟩, y⟩
  · rintro ⟨z | z, y⟩
    · by_cases e : a = m
      · exact ⟨Or.inr ⟨e, by rw [← e]; exact z.2⟩, y⟩
      · exact ⟨Or.inl ⟨by omega, z.2⟩, y⟩
    · omega
theorem c_raiseOwn {μ : PM} {Q : Option PV → PM → Prop} (hT : TI μ) (hq : ∀ μ', rdP μ μ' (prs μ 8 0) (own μ) (nI 1) → Q none μ') : Cl 72 [pR 4 0] μ Q := by
  have outer : ∀ r m, m + r = 8 → ∀ μk, rdP μ μk (prs μ m 0) (own μ) (nI 1) → ∀ x : Option PV, Ax 72 5 [some (pR 4 0), some (pI (nI m)), x] [pI (nI 8), pI (nI m)] μk (fun y r' μ1 => y = 0 ∧ Q r' μ1) := by
    intro r
    induction r with
    | zero =>
      intro m hm μk hk x
      refine Ax_br rfl (fun _ => ?_) (fun hb => absurd (nI_le (by omega) (by omega)) hb)
      (repeat refine Ax_step rfl ?_)
      rw [show m = 8 by omega] at hk
      exact Ax_rV rfl ⟨rfl, hq μk hk⟩
    | succ r ih =>
      intro m hm μk hk x
      refine Ax_br rfl (fun hb => absurd hb (nI_ge (by omega) (by omega))) (fun _ => ?_)
      (repeat refine Ax_step rfl ?_)
      have inner : ∀ r2 i, i + r2 = szm μ m → ∀ μk, rdP μ μk (prs μ m i) (own μ) (nI 1) → Ax 72 19 [some (pR 4 0), some (pI (nI m)), some (pI (nI i))] [pI (nI m), pR 3 0, pI (nI i)] μk (fun y r' μ1 => y = 0 ∧ Q r' μ1) := by
        intro r2
        have hsz := (hT.s (show m < 8 by omega)).2
        induction r2 with
        | zero =>
          intro i hi μk hk
          refine Ax_aal m rfl rfl (by omega) ?_
          (repeat refine Ax_step rfl ?_)
          rw [hk.1 40 m 3 (by omega) (by omega) (by omega), (hT.s (show m < 8 by omega)).1]
          refine Ax_br rfl (fun _ => ?_) (fun hb => absurd (nI_le (by omega) (by omega)) hb)
          (repeat refine Ax_step rfl ?_)
          rw [nI_add]
          rw [show i = szm μ m by omega] at hk
          exact ih (m + 1) (by omega) μk (rd_line hk) _
        | succ r2 ih2 =>
          intro i hi μk hk
          refine Ax_aal m rfl rfl (by omega) ?_
          (repeat refine Ax_step rfl ?_)
          rw [hk.1 40 m 3 (by omega) (by omega) (by omega), (hT.s (show m < 8 by omega)).1]
          refine Ax_br rfl (fun hb => absurd hb (nI_ge (by omega) (by omega))) (fun _ => ?_)
          (repeat refine Ax_step rfl ?_)
          have hTk := ts_TI hk.ts hT
          refine Ax_call rfl (c_own hTk (by omega) (by rw [ts_szm hk.ts]; omega) (fun x hx => ?_))
          (repeat refine Ax_step rfl ?_)
          simp only [ts_own hk.ts] at hx
          refine Ax_call rfl (c_note hTk (by omega) (by omega) (fun c h10 h32 => ?_) (fun μ' hn => ?_))
          · rw [hx c h32]
            cases hz : own μ m i c with
            | false => rfl
            | true => have := own_lt hT (by omega) (by omega) hz; have := hT.k.2.2; omega
          · (repeat refine Ax_step rfl ?_)
            rw [nI_add]
            exact ih2 (i + 1) (by omega) μ' (rd_step hk (by omega) (by omega) hn hx)
      exact inner (szm μ m) 0 (by omega) μk hk
  refine Cl_in rfl ?_
  (repeat refine Ax_step rfl ?_)
  exact outer 8 0 (by omega) μ (rd_0 μ _ _) _
/-- what a round with these fresh classes gives -/
def frS (μ : PM) (m i c : Nat) : Bool := match src μ m i with
  | some d => bt (μ 8 0 d) c
  | none => false
theorem c_raiseFresh {μ : PM} {len : Int32} {Q : Option PV → PM → Prop} (hT : TI μ) (h8 : ∀ d c, d < 40 → 10 ≤ c → c < 32 → bt (μ 8 0 d) c = false) (hq : ∀ μ', rdP μ μ' (prs μ 8 0) (frS μ) len → Q none μ') : Cl 73 [pR 4 0, pI len] μ Q := by
  have outer : ∀ r m, m + r = 8 → ∀ μk, rdP μ μk (prs μ m 0) (frS μ) len → ∀ x z : Option PV, Ax 73 5 [some (pR 4 0), some (pI len), some (pI (nI m)), x, z] [pI (nI 8), pI (nI m)] μk (fun y r' μ1 => y = 0 ∧ Q r' μ1) := by
    intro r
    induction r with
    | zero =>
      intro m hm μk hk x z
      refine Ax_br rfl (fun _ => ?_) (fun hb => absurd (nI_le (by omega) (by omega)) hb)
      (repeat refine Ax_step rfl ?_)
      rw [show m = 8 by omega] at hk
      exact Ax_rV rfl ⟨rfl, hq μk hk⟩
    | succ r ih =>
      intro m hm μk hk x z
      refine Ax_br rfl (fun hb => absurd hb (nI_ge (by omega) (by omega))) (fun _ => ?_)
      (repeat refine Ax_step rfl ?_)
      have inner : ∀ r2 i, i + r2 = szm μ m → ∀ μk, rdP μ μk (prs μ m i) (frS μ) len → ∀ z : Option PV, Ax 73 19 [some (pR 4 0), some (pI len), some (pI (nI m)), some (pI (nI i)), z] [pI (nI m), pR 3 0, pI (nI i)] μk (fun y r' μ1 => y = 0 ∧ Q r' μ1) := by
        intro r2
        have hsz := (hT.s (show m < 8 by omega)).2
        induction r2 with
        | zero =>
          intro i hi μk hk z
          refine Ax_aal m rfl rfl (by omega) ?_
          (repeat refine Ax_step rfl ?_)
          rw [hk.1 40 m 3 (by omega) (by omega) (by omega), (hT.s (show m < 8 by omega)).1]
          refine Ax_br rfl (fun _ => ?_) (fun hb => absurd (nI_le (by omega) (by omega)) hb)
          (repeat refine Ax_step rfl ?_)
          rw [nI_add]
          rw [show i = szm μ m by omega] at hk
          exact ih (m + 1) (by omega) μk (rd_line hk) _ _
        | succ r2 ih2 =>
          intro i hi μk hk z
          refine Ax_aal m rfl rfl (by omega) ?_
          (repeat refine Ax_step rfl ?_)
          rw [hk.1 40 m 3 (by omega) (by omega) (by omega), (hT.s (show m < 8 by omega)).1]
          refine Ax_br rfl (fun hb => absurd hb (nI_ge (by omega) (by omega))) (fun _ => ?_)
          (repeat refine Ax_step rfl ?_)
          have hTk := ts_TI hk.ts hT
          refine Ax_call rfl (c_source hTk (by omega) (by rw [ts_szm hk.ts]; omega) ?_)
          rw [ts_src hk.ts]
          (repeat refine Ax_step rfl ?_)
          cases hs : src μ m i with
          | none =>
            refine Ax_br rfl (fun _ => ?_) (fun hb => absurd rfl hb)
            (repeat refine Ax_step rfl ?_)
            rw [nI_add]
            exact ih2 (i + 1) (by omega) μk (rd_skip hk (fun c => by unfold frS; rw [hs])) _
          | some d =>
            have hd := src_lt hT (by omega) (by omega) hs
            refine Ax_br rfl (fun hb => ?_) (fun _ => ?_)
            · have : (nI d).toInt = -1 := congrArg Int32.toInt hb
              rw [nI_toInt (by omega)] at this
              omega
            · (repeat refine Ax_step rfl ?_)
              refine Ax_ald d rfl rfl hd ?_
              (repeat refine Ax_step rfl ?_)
              rw [hk.1 8 0 d (by omega) (by omega) (by omega)]
              refine Ax_call rfl (c_note hTk (by omega) (by omega) (fun c h10 h32 => h8 d c hd h10 h32) (fun μ' hn => ?_))
              (repeat refine Ax_step rfl ?_)
              rw [nI_add]
              exact ih2 (i + 1) (by omega) μ' (rd_step hk (by omega) (by omega) hn (fun c _ => by unfold frS; rw [hs])) _
      exact inner (szm μ m) 0 (by omega) μk hk _
  refine Cl_in rfl ?_
  (repeat refine Ax_step rfl ?_)
  exact outer 8 0 (by omega) μ (rd_0 μ _ _) _ _
