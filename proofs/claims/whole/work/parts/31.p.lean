/-! What holds between the class and the reference before every call. -/
def MB (μ : PM) : Prop := ∀ b c, b < kct μ → kct μ ≤ c → c < 32 → bt (μ 15 0 b) c = false
def Rel (L : Nat) (μ : PM) : Prop := TI μ ∧ MB μ ∧ TR μ μ ∧ (μ 4 0 1 = 0 → FD μ) ∧ (μ 16 0 13 = 0 → FM μ μ) ∧ μ 10 0 6 = μ 16 0 20 ∧ μ 10 0 8 = μ 16 0 21 ∧ μ 38 0 0 = nI L
theorem TR_ts {μ0 μ0' μ : PM} (h : ts μ0 μ0') (hR : TR μ0 μ) : TR μ0' μ := by
  obtain ⟨a1, a2, a3, a4, a5, a6, a7, a8⟩ := hR
  have e15 : ∀ b, μ0' 15 0 b = μ0 15 0 b := fun b => h.2.2.1 0 b
  refine ⟨by rw [ts_kct h]; exact a1, by rw [ts_mct h]; exact a2, fun m hm => ?_, fun m i hm hi => ?_, fun m i hm hi => ?_, fun b hb => ?_, a7, fun c hc hk => ?_⟩
  · rw [h.2.2.2 40 m 3 (by omega), h.2.2.2 40 m 8 (by omega)]; exact a3 m hm
  · rw [h.2.2.2 41 m i (by omega), h.2.2.2 42 m i (by omega), h.2.2.2 43 m i (by omega)]; exact a4 m i hm hi
  · rw [h.2.2.2 44 m i (by omega), h.2.2.2 45 m i (by omega), h.2.2.2 46 m i (by omega), h.2.2.2 47 m i (by omega)]; exact a5 m i hm hi
  · rw [ts_kct h] at hb
    rw [e15]; exact a6 b hb
  · rw [ts_kct h] at hk
    obtain ⟨p, h1, h2, h3⟩ := a8 c hc hk
    refine ⟨p, h1, h2, fun b hb => ?_⟩
    rw [ts_kct h] at hb
    rw [e15]; exact h3 b hb
theorem FM_ts {μ0 μ0' μ : PM} (h : ts μ0 μ0') (hF : FM μ0 μ) : FM μ0' μ := by
  intro m i c hm hi hc
  rw [ts_mct h] at hm
  rw [ts_szm h] at hi
  rw [ts_kct h] at hc
  simp only [ts_ls h, ts_wy h]
  exact hF m i c hm hi hc
theorem MB_ts {μ μ' : PM} (h : ts μ μ') (hB : MB μ) : MB μ' := by
  intro b c hb hk hc
  rw [ts_kct h] at hb hk
  rw [h.2.2.1]; exact hB b c hb hk hc
/-- where the text stays -/
theorem Rel.q {L : Nat} {μ μ' : PM} (h : Rel L μ) (hts : ts μ μ') (hr : ∀ t j, 17 ≤ t → t ≤ 26 → μ' t 0 j = μ t 0 j) (h1 : μ' 16 0 1 = μ 16 0 1) (h3 : μ' 16 0 3 = μ 16 0 3) (h20 : μ' 10 0 6 = μ' 16 0 20) (h21 : μ' 10 0 8 = μ' 16 0 21) (h38 : μ' 38 0 0 = μ 38 0 0) (hD : μ' 4 0 1 = 0 → FD μ') (hF : μ' 16 0 13 = 0 → FM μ μ') : Rel L μ' := by
  obtain ⟨a1, a2, a3, a4, a5, a6, a7, a8⟩ := h
  exact ⟨ts_TI hts a1, MB_ts hts a2, TR_ts hts (a3.keep h1 h3 hr), hD, fun z => FM_ts hts (hF z), h20, h21, h38.trans a8⟩
theorem FM_keep {μ0 μ μ' : PM} (h : ∀ j, μ' 27 0 j = μ 27 0 j) (hF : FM μ0 μ) : FM μ0 μ' := by
  intro m i c hm hi hc
  rw [h]; exact hF m i c hm hi hc
theorem FD_keep {μ μ' : PM} (hts : ts μ μ') (h5 : ∀ j, μ' 5 0 j = μ 5 0 j) (h6 : ∀ j, μ' 6 0 j = μ 6 0 j) (h7 : ∀ j, μ' 7 0 j = μ 7 0 j) (hF : FD μ) : FD μ' := by
  obtain ⟨a1, a2, a3⟩ := hF
  refine ⟨fun m i c hm hi hc => ?_, fun m i c k hm hi hl => ?_, fun d c hd hc => ?_⟩
  · rw [ts_szm hts] at hi
    rw [h5]; simp only [ts_wy hts]; exact a1 m i c hm hi hc
  · rw [ts_szm hts] at hi
    rw [ts_ls hts] at hl
    rw [h6]; exact a2 m i c k hm hi hl
  · rw [h7]; simp only [ts_dw hts]; exact a3 d c hd hc
/-- only the reference's number of what it throws, or what the law keeps, is another -/
theorem Rel.th {L : Nat} {μ : PM} {v : Int32} (h : Rel L μ) : Rel L (pu μ 16 0 0 v) :=
  h.q (ts.pu (by omega) (by omega) (by omega) (by omega)) (fun t j _ _ => pu_t (by omega)) (pu_j (by omega)) (pu_j (by omega)) (by rw [pu_t (by omega), pu_j (by omega)]; exact h.2.2.2.2.2.1) (by rw [pu_t (by omega), pu_j (by omega)]; exact h.2.2.2.2.2.2.1) (pu_t (by omega)) (fun z => FD_keep (ts.pu (by omega) (by omega) (by omega) (by omega)) (fun j => pu_t (by omega)) (fun j => pu_t (by omega)) (fun j => pu_t (by omega)) (h.2.2.2.1 (by rw [pu_t (by omega)] at z; exact z))) (fun z => FM_keep (fun j => pu_t (by omega)) (h.2.2.2.2.1 (by rw [pu_j (by omega)] at z; exact z)))
theorem Rel.o {L : Nat} {μ : PM} {v : Int32} (h : Rel L μ) : Rel L (pu μ 34 0 0 v) :=
  h.q (ts.pu (by omega) (by omega) (by omega) (by omega)) (fun t j _ _ => pu_t (by omega)) (pu_t (by omega)) (pu_t (by omega)) (by rw [pu_t (by omega), pu_t (by omega)]; exact h.2.2.2.2.2.1) (by rw [pu_t (by omega), pu_t (by omega)]; exact h.2.2.2.2.2.2.1) (pu_t (by omega)) (fun z => FD_keep (ts.pu (by omega) (by omega) (by omega) (by omega)) (fun j => pu_t (by omega)) (fun j => pu_t (by omega)) (fun j => pu_t (by omega)) (h.2.2.2.1 (by rw [pu_t (by omega)] at z; exact z))) (fun z => FM_keep (fun j => pu_t (by omega)) (h.2.2.2.2.1 (by rw [pu_t (by omega)] at z; exact z)))
/-- a class of exceptions, or a method, more: the ways stay -/
theorem wy_gen {μ μ' : PM} (hT : TI μ) (hs : ∀ m, szm μ' m = szm μ m) (hsrc : ∀ m i, src μ' m i = src μ m i) (hown : ∀ m i c, own μ' m i c = own μ m i c) (hthr : ∀ m j c, m < 8 → c < kct μ → thr μ' m j c = thr μ m j c) : ∀ (k m i c : Nat), m < 8 → i < szm μ m → (wy μ' k m i c ↔ wy μ k m i c)
  | 0, _, _, _, _, _ => Iff.rfl
  | 1, m, i, c, _, _ => by show own μ' m i c = true ↔ own μ m i c = true; rw [hown]
  | n + 2, m, i, c, hm, hi => by
    show (∃ d j, src μ' m i = some d ∧ j < szm μ' (d / 5) ∧ thr μ' (d / 5) j c = d ∧ wy μ' (n + 1) (d / 5) j c) ↔ ∃ d j, src μ m i = some d ∧ j < szm μ (d / 5) ∧ thr μ (d / 5) j c = d ∧ wy μ (n + 1) (d / 5) j c
    have no : ∀ d j, src μ m i = some d → j < szm μ (d / 5) → wy μ (n + 1) (d / 5) j c → c < kct μ := by
      intro d j h1 h2 h4
      have := wy_lt hT (n + 1) (by have := src_lt hT hm hi h1; omega) h2 h4
      omega
    constructor
    · rintro ⟨d, j, h1, h2, h3, h4⟩
      rw [hsrc] at h1
      rw [hs] at h2
      have hd := src_lt hT hm hi h1
      have h4' := (wy_gen hT hs hsrc hown hthr (n + 1) (d / 5) j c (by omega) h2).mp h4
      rw [hthr _ _ _ (by omega) (no d j h1 h2 h4')] at h3
      exact ⟨d, j, h1, h2, h3, h4'⟩
    · rintro ⟨d, j, h1, h2, h3, h4⟩
      have hd := src_lt hT hm hi h1
      refine ⟨d, j, by rw [hsrc]; exact h1, by rw [hs]; exact h2, ?_, (wy_gen hT hs hsrc hown hthr (n + 1) (d / 5) j c (by omega) h2).mpr h4⟩
      rw [hthr _ _ _ (by omega) (no d j h1 h2 h4)]; exact h3
theorem FD_gen {μ μ' : PM} (hT : TI μ) (hs : ∀ m, szm μ' m = szm μ m) (hsrc : ∀ m i, src μ' m i = src μ m i) (hown : ∀ m i c, own μ' m i c = own μ m i c) (hthr : ∀ m j c, m < 8 → c < kct μ → thr μ' m j c = thr μ m j c) (h5 : ∀ j, μ' 5 0 j = μ 5 0 j) (h6 : ∀ j, μ' 6 0 j = μ 6 0 j) (h7 : ∀ j, μ' 7 0 j = μ 7 0 j) (hF : FD μ) : FD μ' := by
  have hw := wy_gen hT hs hsrc hown hthr
  obtain ⟨a1, a2, a3⟩ := hF
  have hd : ∀ k d c, d < 40 → (dw μ' k d c ↔ dw μ k d c) := by
    intro k d c hd
    constructor
    · rintro ⟨j, h1, h2, h3⟩
      rw [hs] at h1
      have h3' := (hw k (d / 5) j c (by omega) h1).mp h3
      have := wy_lt hT k (show d / 5 < 8 by omega) h1 h3'
      rw [hthr _ _ _ (by omega) (by omega)] at h2
      exact ⟨j, h1, h2, h3'⟩
    · rintro ⟨j, h1, h2, h3⟩
      have := wy_lt hT k (show d / 5 < 8 by omega) h1 h3
      exact ⟨j, by rw [hs]; exact h1, by rw [hthr _ _ _ (by omega) (by omega)]; exact h2, (hw k (d / 5) j c (by omega) h1).mpr h3⟩
  refine ⟨fun m i c hm hi hc => ?_, fun m i c k hm hi hl => ?_, fun d c hd' hc => ?_⟩
  · rw [hs] at hi
    rw [h5, a1 m i c hm hi hc]
    constructor
    · rintro ⟨k, h⟩; exact ⟨k, (hw k m i c hm hi).mpr h⟩
    · rintro ⟨k, h⟩; exact ⟨k, (hw k m i c hm hi).mp h⟩
  · rw [hs] at hi
    rw [h6]
    exact a2 m i c k hm hi ⟨(hw k m i c hm hi).mp hl.1, fun j hj hh => hl.2 j hj ((hw j m i c hm hi).mpr hh)⟩
  · rw [h7, a3 d c hd' hc]
    constructor
    · rintro ⟨k, h⟩; exact ⟨k, (hd k d c hd').mpr h⟩
    · rintro ⟨k, h⟩; exact ⟨k, (hd k d c hd').mp h⟩
