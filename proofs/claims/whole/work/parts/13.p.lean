/-! Ways, as the document says them; how long they can be; what a round adds. -/
def wy (μ : PM) : Nat → Nat → Nat → Nat → Prop
  | 0, _, _, _ => False
  | 1, m, i, c => own μ m i c = true
  | n + 2, m, i, c => ∃ d j, src μ m i = some d ∧ j < szm μ (d / 5) ∧ thr μ (d / 5) j c = d ∧ wy μ (n + 1) (d / 5) j c
/-- the shortest is k long -/
def ls (μ : PM) (k m i c : Nat) : Prop := wy μ k m i c ∧ ∀ j, j < k → ¬ wy μ j m i c
/-- a way of length k goes through door d -/
def dw (μ : PM) (k d c : Nat) : Prop := ∃ j, j < szm μ (d / 5) ∧ thr μ (d / 5) j c = d ∧ wy μ k (d / 5) j c
def dl (μ : PM) (k d c : Nat) : Prop := dw μ k d c ∧ ∀ j, j < k → ¬ dw μ j d c
theorem wy_ex {μ : PM} {k m i c : Nat} (h : wy μ k m i c) : ∃ n, n ≤ k ∧ ls μ n m i c := by
  obtain ⟨n, h1, h2⟩ := pk_least (fun n => wy μ n m i c) ⟨k, h⟩
  refine ⟨n, ?_, h1, h2⟩
  rcases Nat.lt_or_ge k n with z | z
  · exact absurd h (h2 k z)
  · exact z
theorem dw_ex {μ : PM} {k d c : Nat} (h : dw μ k d c) : ∃ n, n ≤ k ∧ dl μ n d c := by
  obtain ⟨n, h1, h2⟩ := pk_least (fun n => dw μ n d c) ⟨k, h⟩
  refine ⟨n, ?_, h1, h2⟩
  rcases Nat.lt_or_ge k n with z | z
  · exact absurd h (h2 k z)
  · exact z
theorem wy_pos {μ : PM} {k m i c : Nat} (h : wy μ k m i c) : 1 ≤ k := by
  cases k with
  | zero => exact h.elim
  | succ k => omega
/-- behind the first step -/
theorem wy_s {μ : PM} {k m i c : Nat} (hk : 1 ≤ k) : wy μ (k + 1) m i c ↔ ∃ d, src μ m i = some d ∧ dw μ k d c := by
  obtain ⟨n, rfl⟩ : ∃ n, k = n + 1 := ⟨k - 1, by omega⟩
  constructor
  · rintro ⟨d, j, h1, h2, h3, h4⟩; exact ⟨d, h1, j, h2, h3, h4⟩
  · rintro ⟨d, h1, j, h2, h3, h4⟩; exact ⟨d, j, h1, h2, h3, h4⟩
theorem dw_pos {μ : PM} {k d c : Nat} (h : dw μ k d c) : 1 ≤ k := by obtain ⟨j, -, -, h⟩ := h; exact wy_pos h
theorem src_lt {μ : PM} (hT : TI μ) {m i d : Nat} (hm : m < 8) (hi : i < szm μ m) (h : src μ m i = some d) : d < 40 := by
  obtain ⟨k, hc, hk, h0, h1, h4, h5, h6, h7⟩ := hT.i hm hi
  unfold src at h
  rw [show opc μ m i = k from nI_self hc (by omega)] at h
  by_cases e6 : k = 6
  · rw [if_pos e6] at h
    obtain ⟨-, y, hy, e⟩ := h6 e6
    rw [show ob μ m i = y from nI_self e (by omega)] at h
    cases h; omega
  · rw [if_neg e6] at h
    by_cases e8 : k = 8
    · rw [if_pos e8] at h
      obtain ⟨y, hy, e⟩ := h0 (Or.inr (Or.inl e8))
      rw [show oa μ m i = y from nI_self e (by omega)] at h
      cases h; omega
    · rw [if_neg e8] at h; cases h
theorem own_lt {μ : PM} (hT : TI μ) {m i c : Nat} (hm : m < 8) (hi : i < szm μ m) (h : own μ m i c = true) : c < kct μ := by
  obtain ⟨k, hc, hk, h0, h1, h4, h5, h6, h7⟩ := hT.i hm hi
  unfold own at h
  rw [show opc μ m i = k from nI_self hc (by omega)] at h
  simp only [Bool.or_eq_true, Bool.and_eq_true, decide_eq_true_eq] at h
  have := hT.k.2.1
  rcases h with (⟨e, e2⟩ | ⟨-, e2⟩) | ⟨-, e2⟩
  · obtain ⟨y, hy, e3⟩ := h7 e
    rw [show oa μ m i = y from nI_self e3 (by have := hT.k.2.2; omega)] at e2
    omega
  · omega
  · omega
theorem wy_lt {μ : PM} (hT : TI μ) : ∀ (k : Nat) {m i c : Nat}, m < 8 → i < szm μ m → wy μ k m i c → c < kct μ
  | 0, _, _, _, _, _, h => h.elim
  | 1, _, _, _, hm, hi, h => own_lt hT hm hi h
  | n + 2, _, _, _, hm, hi, h => by
    obtain ⟨d, j, h1, h2, h3, h4⟩ := h
    have := src_lt hT hm hi h1
    exact wy_lt hT (n + 1) (by omega) h2 h4
theorem dw_lt {μ : PM} (hT : TI μ) {k d c : Nat} (hd : d < 40) (h : dw μ k d c) : c < kct μ := by
  obtain ⟨j, h1, h2, h3⟩ := h
  exact wy_lt hT k (by omega) h1 h3
/-- a door whose shortest way is k + 1 long has a door behind it whose is k -/
theorem dl_down {μ : PM} (hT : TI μ) {k d c : Nat} (hd : d < 40) (hk : 1 ≤ k) (h : dl μ (k + 1) d c) : ∃ d', d' < 40 ∧ dl μ k d' c := by
  obtain ⟨⟨j, h1, h2, h3⟩, h4⟩ := h
  obtain ⟨d', g1, g2⟩ := (wy_s hk).mp h3
  refine ⟨d', src_lt hT (by omega) h1 g1, g2, fun n hn hw => ?_⟩
  exact h4 (n + 1) (by omega) ⟨j, h1, h2, (wy_s (dw_pos hw)).mpr ⟨d', g1, hw⟩⟩
theorem dl_all {μ : PM} (hT : TI μ) {c : Nat} : ∀ (k d : Nat), d < 40 → dl μ k d c → ∀ v, 1 ≤ v → v ≤ k → ∃ d', d' < 40 ∧ dl μ v d' c
  | 0, _, _, _, v, h1, h2 => by omega
  | k + 1, d, hd, h, v, h1, h2 => by
    by_cases hv : v = k + 1
    · subst hv; exact ⟨d, hd, h⟩
    · obtain ⟨d', hd', h'⟩ := dl_down hT hd (by omega) h
      exact dl_all hT k d' hd' h' v h1 (by omega)
/-- as many places as values -/
theorem pigeon : ∀ (N n : Nat) (P : Nat → Nat → Prop), (∀ d v w, P d v → P d w → v = w) → (∀ v, v < n → ∃ d, d < N ∧ P d v) → n ≤ N
  | 0, n, P, _, h => by
    rcases Nat.eq_zero_or_pos n with z | z
    · omega
    · obtain ⟨d, hd, -⟩ := h 0 z; omega
  | N + 1, n, P, hf, h => by
    by_cases hx : ∃ v0, v0 < n ∧ P N v0
    · obtain ⟨v0, h0, hp⟩ := hx
      have := pigeon N (n - 1) (fun d v => P d (if v < v0 then v else v + 1)) (fun d v w a b => by
        have e := hf d _ _ a b
        by_cases x : v < v0 <;> by_cases y : w < v0
        · rw [if_pos x, if_pos y] at e; exact e
        · rw [if_pos x, if_neg y] at e; omega
        · rw [if_neg x, if_pos y] at e; omega
        · rw [if_neg x, if_neg y] at e; omega) (fun v hv => by
        have hw : (if v < v0 then v else v + 1) < n ∧ (if v < v0 then v else v + 1) ≠ v0 := by
          by_cases x : v < v0
          · rw [if_pos x]; omega
          · rw [if_neg x]; omega
        obtain ⟨d, hd, hpd⟩ := h _ hw.1
        refine ⟨d, ?_, hpd⟩
        rcases Nat.lt_or_ge d N with z | z
        · exact z
        · have : d = N := by omega
          subst this
          exact absurd (hf d _ _ hpd hp) hw.2)
      omega
    · have := pigeon N n P hf (fun v hv => by
        obtain ⟨d, hd, hpd⟩ := h v hv
        refine ⟨d, ?_, hpd⟩
        rcases Nat.lt_or_ge d N with z | z
        · exact z
        · have : d = N := by omega
          subst this
          exact absurd ⟨v, hv, hpd⟩ hx)
      omega
theorem dl_fun {μ : PM} {d c v w : Nat} (h : dl μ v d c) (g : dl μ w d c) : v = w := by
  rcases Nat.lt_trichotomy v w with z | z | z
  · exact absurd h.1 (g.2 v z)
  · exact z
  · exact absurd g.1 (h.2 w z)
theorem dl_40 {μ : PM} (hT : TI μ) {k d c : Nat} (hd : d < 40) (h : dl μ k d c) : k ≤ 40 := by
  refine pigeon 40 k (fun d v => dl μ (v + 1) d c) (fun d v w a b => by have := dl_fun a b; omega) (fun v hv => ?_)
  exact dl_all hT k d hd h (v + 1) (by omega) (by omega)
theorem ls_41 {μ : PM} (hT : TI μ) {k m i c : Nat} (hm : m < 8) (hi : i < szm μ m) (h : ls μ k m i c) : k ≤ 41 := by
  rcases Nat.lt_or_ge k 2 with z | z
  · omega
  · obtain ⟨n, rfl⟩ : ∃ n, k = n + 1 := ⟨k - 1, by omega⟩
    obtain ⟨d, h1, h2⟩ := (wy_s (by omega)).mp h.1
    have hd := src_lt hT hm hi h1
    have : dl μ n d c := ⟨h2, fun v hv hw => h.2 (v + 1) (by omega) ((wy_s (dw_pos hw)).mpr ⟨d, h1, hw⟩)⟩
    have := dl_40 hT hd this
    omega
/-- the rows behind round L -/
def FS (μ : PM) (L : Nat) : Prop :=
  (∀ m i c, m < 8 → i < szm μ m → c < 32 → (bt (μ 5 0 (m * 24 + i)) c = true ↔ ∃ k, k ≤ L ∧ wy μ k m i c)) ∧
  (∀ m i c k, m < 8 → i < szm μ m → k ≤ L → ls μ k m i c → μ 6 0 (c * 192 + (m * 24 + i)) = nI k) ∧
  (∀ d c, d < 40 → c < 32 → (bt (μ 7 0 d) c = true ↔ ∃ k, k + 1 ≤ L ∧ dw μ k d c)) ∧
  (∀ d c, d < 40 → c < 32 → (bt (μ 9 0 d) c = true ↔ ∃ j, j < szm μ (d / 5) ∧ thr μ (d / 5) j c = d ∧ ls μ L (d / 5) j c))
/-- the rows as the text says -/
def FD (μ : PM) : Prop :=
  (∀ m i c, m < 8 → i < szm μ m → c < 32 → (bt (μ 5 0 (m * 24 + i)) c = true ↔ ∃ k, wy μ k m i c)) ∧
  (∀ m i c k, m < 8 → i < szm μ m → ls μ k m i c → μ 6 0 (c * 192 + (m * 24 + i)) = nI k) ∧
  (∀ d c, d < 40 → c < 32 → (bt (μ 7 0 d) c = true ↔ ∃ k, dw μ k d c))
theorem FS_41 {μ : PM} (hT : TI μ) (h : FS μ 41) : FD μ := by
  obtain ⟨h1, h2, h3, -⟩ := h
  refine ⟨fun m i c hm hi hc => ?_, fun m i c k hm hi hl => h2 m i c k hm hi (ls_41 hT hm hi hl) hl, fun d c hd hc => ?_⟩
  · rw [h1 m i c hm hi hc]
    constructor
    · rintro ⟨k, -, h⟩; exact ⟨k, h⟩
    · rintro ⟨k, h⟩
      obtain ⟨n, -, hn⟩ := wy_ex h
      exact ⟨n, ls_41 hT hm hi hn, hn.1⟩
  · rw [h3 d c hd hc]
    constructor
    · rintro ⟨k, -, h⟩; exact ⟨k, h⟩
    · rintro ⟨k, h⟩
      obtain ⟨n, -, hn⟩ := dw_ex h
      exact ⟨n, by have := dl_40 hT hd hn; omega, hn.1⟩
section TW
variable {μ μ' : PM}
theorem ts_wy (h : ts μ μ') : ∀ (k m i c : Nat), wy μ' k m i c ↔ wy μ k m i c
  | 0, _, _, _ => Iff.rfl
  | 1, m, i, c => by show own μ' m i c = true ↔ own μ m i c = true; rw [ts_own h]
  | n + 2, m, i, c => by
    show (∃ d j, src μ' m i = some d ∧ j < szm μ' (d / 5) ∧ thr μ' (d / 5) j c = d ∧ wy μ' (n + 1) (d / 5) j c) ↔ ∃ d j, src μ m i = some d ∧ j < szm μ (d / 5) ∧ thr μ (d / 5) j c = d ∧ wy μ (n + 1) (d / 5) j c
    simp only [ts_src h, ts_szm h, ts_thr h, ts_wy h (n + 1)]
theorem ts_ls (h : ts μ μ') (k m i c : Nat) : ls μ' k m i c ↔ ls μ k m i c := by unfold ls; simp only [ts_wy h]
theorem ts_dw (h : ts μ μ') (k d c : Nat) : dw μ' k d c ↔ dw μ k d c := by unfold dw; simp only [ts_wy h, ts_szm h, ts_thr h]
theorem ts_dl (h : ts μ μ') (k d c : Nat) : dl μ' k d c ↔ dl μ k d c := by unfold dl; simp only [ts_dw h]
end TW
/-- what has been opened: a class is fresh at a door where the door's shortest way is L long -/
theorem open_fs {μ μ' : PM} {L : Nat} (hT : TI μ) (hL : 1 ≤ L) (hF : FS μ L) (ho : odP μ μ') : ts μ μ' ∧ (∀ d c, d < 40 → c < 32 → (bt (μ' 8 0 d) c = true ↔ dl μ L d c)) ∧ (∀ d c, d < 40 → c < 32 → (bt (μ' 7 0 d) c = true ↔ ∃ k, k ≤ L ∧ dw μ k d c)) := by
  obtain ⟨h1, h2, h3, h4⟩ := hF
  have hts : ts μ μ' := ⟨fun m j => ho.1 1 m j (by omega) (by omega) (by omega), fun m j => ho.1 2 m j (by omega) (by omega) (by omega), fun m j => ho.1 15 m j (by omega) (by omega) (by omega), fun t m j ht => ho.1 t m j (by omega) (by omega) (by omega)⟩
  have key : ∀ d c, d < 40 → c < 32 → (bt (μ' 8 0 d) c = true ↔ dl μ L d c) := by
    intro d c hd hc
    rw [(ho.2 d hd).1, b_and, bt_not _ hc, Bool.and_eq_true, h4 d c hd hc, Bool.not_eq_true', ← Bool.not_eq_true, h3 d c hd hc]
    constructor
    · rintro ⟨⟨j, g1, g2, g3⟩, g4⟩
      exact ⟨⟨j, g1, g2, g3.1⟩, fun n hn hw => g4 ⟨n, by omega, hw⟩⟩
    · rintro ⟨⟨j, g1, g2, g3⟩, g4⟩
      refine ⟨⟨j, g1, g2, g3, fun n hn hw => g4 n hn ⟨j, g1, g2, hw⟩⟩, ?_⟩
      rintro ⟨k, hk, hw⟩
      exact g4 k (by omega) hw
  refine ⟨hts, key, fun d c hd hc => ?_⟩
  rw [(ho.2 d hd).2.1, b_or, Bool.or_eq_true, key d c hd hc, h3 d c hd hc]
  constructor
  · rintro (⟨k, hk, hw⟩ | h)
    · exact ⟨k, by omega, hw⟩
    · exact ⟨L, Nat.le_refl _, h.1⟩
  · rintro ⟨k, hk, hw⟩
    obtain ⟨n, hn, hd⟩ := dw_ex hw
    by_cases e : n = L
    · subst e; exact Or.inr hd
    · exact Or.inl ⟨n, by omega, hd.1⟩
/-- nothing fresh: all is found -/
theorem open_fd {μ μ' : PM} {L : Nat} (hT : TI μ) (hL : 1 ≤ L) (hF : FS μ L) (ho : odP μ μ') (hz : ∀ d, d < 40 → μ' 8 0 d = 0) : FD μ' := by
  obtain ⟨hts, h8, h7⟩ := open_fs hT hL hF ho
  obtain ⟨h1, h2, h3, h4⟩ := hF
  have hno : ∀ d c, d < 40 → c < 32 → ¬ dl μ L d c := fun d c hd hc h => by
    have := (h8 d c hd hc).mpr h
    rw [hz d hd, b_0] at this; cases this
  have hK := hT.k.2.2
  have dsh : ∀ k d c, d < 40 → dw μ k d c → ∃ n, n + 1 ≤ L ∧ dw μ n d c := by
    intro k
    induction k using Nat.strongRecOn with
    | _ k ih =>
      intro d c hd hw
      have hc := dw_lt hT hd hw
      obtain ⟨n, hn, hdl⟩ := dw_ex hw
      rcases Nat.lt_or_ge n L with z | z
      · exact ⟨n, by omega, hdl.1⟩
      · exfalso
        obtain ⟨d', hd', h'⟩ := dl_all hT n d hd hdl L hL z
        exact hno d' c hd' (by omega) h'
  have wsh : ∀ k m i c, m < 8 → i < szm μ m → wy μ k m i c → ∃ n, n ≤ L ∧ wy μ n m i c := by
    intro k m i c hm hi hw
    rcases Nat.lt_or_ge k 2 with z | z
    · exact ⟨k, by omega, hw⟩
    · obtain ⟨n, rfl⟩ : ∃ n, k = n + 1 := ⟨k - 1, by omega⟩
      obtain ⟨d, g1, g2⟩ := (wy_s (by omega)).mp hw
      obtain ⟨v, hv, hw2⟩ := dsh n d c (src_lt hT hm hi g1) g2
      exact ⟨v + 1, hv, (wy_s (dw_pos hw2)).mpr ⟨d, g1, hw2⟩⟩
  refine ⟨fun m i c hm hi hc => ?_, fun m i c k hm hi hl => ?_, fun d c hd hc => ?_⟩
  · rw [ts_szm hts] at hi
    rw [ho.1 5 0 _ (by omega) (by omega) (by omega), h1 m i c hm hi hc]
    simp only [ts_wy hts]
    constructor
    · rintro ⟨k, -, h⟩; exact ⟨k, h⟩
    · rintro ⟨k, h⟩; exact wsh k m i c hm hi h
  · rw [ts_szm hts] at hi
    rw [ts_ls hts] at hl
    rw [ho.1 6 0 _ (by omega) (by omega) (by omega)]
    refine h2 m i c k hm hi ?_ hl
    obtain ⟨n, hn, hw⟩ := wsh k m i c hm hi hl.1
    rcases Nat.lt_or_ge n k with z | z
    · exact absurd hw (hl.2 n z)
    · omega
  · rw [h7 d c hd hc]
    simp only [ts_dw hts]
    constructor
    · rintro ⟨k, -, h⟩; exact ⟨k, h⟩
    · rintro ⟨k, h⟩
      obtain ⟨n, hn, hw⟩ := dsh k d c hd h
      exact ⟨n, by omega, hw⟩
