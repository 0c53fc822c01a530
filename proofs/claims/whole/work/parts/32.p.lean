/-! The changes of the text keep it. -/
theorem catF_eq {p q : Nat → Bool} : ∀ (r h : Nat), (∀ k, h ≤ k → k < h + r → p k = q k) → catF p h r = catF q h r
  | 0, _, _ => rfl
  | r + 1, h, e => by
    unfold catF
    rw [e h (Nat.le_refl _) (by omega), catF_eq r (h + 1) (fun k h1 h2 => e k (by omega) (by omega))]
theorem vI_up {K : Nat} {c a b : Int32} (h : vI K c a b) : vI (K + 1) c a b := by
  obtain ⟨k, h1, h2, h3, h4, h5, h6, h7, h8⟩ := h
  refine ⟨k, h1, h2, h3, h4, h5, h6, h7, fun e => ?_⟩
  obtain ⟨x, hx, e⟩ := h8 e
  exact ⟨x, by omega, e⟩
theorem vH_up {K : Nat} {f l k t : Int32} (h : vH K f l k t) : vH (K + 1) f l k t := by
  obtain ⟨h1, h2, ⟨x, hx, e⟩, h4⟩ := h
  exact ⟨h1, h2, ⟨x, by omega, e⟩, h4⟩
theorem nI_tn {n : Nat} (h : n < 2 ^ 31) : tn (nI n) = n := nI_clamp h
section P32
variable {L : Nat} {μ μ1 : PM} {v w : Int32}
theorem Rel.kind {p : Nat} (h : Rel L μ) (hp : p < kct μ) (hK : kct μ < 10) (ha : kaP μ μ1 p) : Rel L (pu (pu (pu (pu (pu μ1 34 0 0 v) 16 0 0 w) 17 0 (kct μ) (nI p)) 16 0 1 (nI (kct μ + 1))) 16 0 13 (nI 1)) := by
  generalize hμ' : pu (pu (pu (pu (pu μ1 34 0 0 v) 16 0 0 w) 17 0 (kct μ) (nI p)) 16 0 1 (nI (kct μ + 1))) 16 0 13 (nI 1) = μ'
  obtain ⟨hT, hB, hR, hD, -, h6, h8, hL⟩ := h
  obtain ⟨k0, k1, k2, k3⟩ := ha
  have gA : ∀ t mm j, t ≠ 2 → t ≠ 15 → t ≠ 34 → t ≠ 16 → t ≠ 17 → μ' t mm j = μ t mm j := fun t mm j a b c d e => by rw [← hμ', pu_t d, pu_t d, pu_t e, pu_t d, pu_t c]; exact k0 t mm j a b
  have g2 : μ' 2 0 1 = nI (kct μ + 1) := by rw [← hμ', pu_t (by omega), pu_t (by omega), pu_t (by omega), pu_t (by omega), pu_t (by omega)]; exact k1
  have g15 : ∀ j, μ' 15 0 j = μ1 15 0 j := fun j => by rw [← hμ', pu_t (by omega), pu_t (by omega), pu_t (by omega), pu_t (by omega), pu_t (by omega)]
  have g17 : ∀ j, μ' 17 0 j = if j = kct μ then nI p else μ 17 0 j := fun j => by
    rw [← hμ', pu_t (by omega), pu_t (by omega)]
    by_cases e : j = kct μ
    · subst e; rw [pu_s, if_pos rfl]
    · rw [pu_j e, pu_t (by omega), pu_t (by omega), if_neg e]; exact k0 17 0 j (by omega) (by omega)
  have g16 : ∀ j, j ≠ 0 → j ≠ 1 → j ≠ 13 → μ' 16 0 j = μ 16 0 j := fun j a b c => by rw [← hμ', pu_j c, pu_j b, pu_t (by omega), pu_j a, pu_t (by omega)]; exact k0 16 0 j (by omega) (by omega)
  have g1 : μ' 16 0 1 = nI (kct μ + 1) := by rw [← hμ', pu_j (by omega), pu_s]
  have g13 : μ' 16 0 13 = nI 1 := by rw [← hμ', pu_s]
  have ek : kct μ' = kct μ + 1 := by show tn (μ' 2 0 1) = _; rw [g2]; exact nI_tn (by omega)
  have em : mct μ' = mct μ := congrArg tn (gA 1 0 2 (by omega) (by omega) (by omega) (by omega) (by omega))
  have g40 : ∀ t mm j, 40 ≤ t → μ' t mm j = μ t mm j := fun t mm j ht => gA t mm j (by omega) (by omega) (by omega) (by omega) (by omega)
  have es : ∀ m, szm μ' m = szm μ m := fun m => congrArg tn (g40 40 m 3 (by omega))
  have eh : ∀ m, hcm μ' m = hcm μ m := fun m => congrArg tn (g40 40 m 8 (by omega))
  have hk3 := hT.k
  have hT' : TI μ' := by
    refine ⟨⟨by rw [ek]; exact g2, by omega, by omega⟩, ⟨by rw [em, gA 1 0 2 (by omega) (by omega) (by omega) (by omega) (by omega)]; exact hT.m.1, by rw [em]; exact hT.m.2⟩, fun m hm => ?_, fun m i hm hi => ?_, fun m i hm hi => ?_⟩
    · rw [es, eh, em, g40 40 m 3 (by omega), g40 40 m 8 (by omega)]; exact hT.2.2.1 m hm
    · rw [es] at hi
      rw [ek, g40 41 m i (by omega), g40 42 m i (by omega), g40 43 m i (by omega)]; exact vI_up (hT.i hm hi)
    · rw [eh] at hi
      rw [ek, g40 44 m i (by omega), g40 45 m i (by omega), g40 46 m i (by omega), g40 47 m i (by omega)]; exact vH_up (hT.hd hm hi)
  have bLow : ∀ b c, b < kct μ → c < kct μ → bt (μ' 15 0 b) c = bt (μ 15 0 b) c := fun b c hb hc => by rw [g15, k2 b c hb (by omega), decide_eq_false (by omega)]; simp
  have bTop : ∀ c, c < 32 → bt (μ' 15 0 (kct μ)) c = decide (c = kct μ) := fun c hc => by rw [g15]; exact k3 c hc
  have bNew : ∀ b, b < kct μ → bt (μ' 15 0 b) (kct μ) = bt (μ 15 0 b) p := fun b hb => by rw [g15, k2 b _ hb (by omega), hB b (kct μ) hb (Nat.le_refl _) (by omega), decide_eq_true rfl]; simp
  have ethr : ∀ m j c, m < 8 → c < kct μ → thr μ' m j c = thr μ m j c := by
    intro m j c hm hc
    unfold thr cat
    rw [eh, catF_eq (q := cp μ m (nI j) c) (hcm μ m) 0 (fun k _ hk => ?_)]
    obtain ⟨-, -, ⟨x, hx, e⟩, -⟩ := hT.hd hm (show k < hcm μ m by omega)
    unfold cp
    rw [g40 44 m k (by omega), g40 45 m k (by omega), g40 46 m k (by omega)]
    rw [show (μ 46 m k).toNatClampNeg = x from nI_self e (by omega), bLow x c hx hc]
  refine ⟨hT', ?_, ⟨by rw [ek]; exact g1, by rw [em, g16 3 (by omega) (by omega) (by omega)]; exact hR.m, fun m hm => ?_, fun m i hm hi => ?_, fun m i hm hi => ?_, fun b hb => ?_, ?_, fun c hc hk => ?_⟩, fun z => ?_, fun z => ?_, ?_, ?_, ?_⟩
  · intro b c hb hk hc
    rw [ek] at hb hk
    by_cases e : b = kct μ
    · subst e; rw [bTop c hc]; exact decide_eq_false (by omega)
    · rw [g15, k2 b c (by omega) hc, hB b c (by omega) (by omega) hc, decide_eq_false (by omega)]; simp
  · rw [g40 40 m 3 (by omega), g40 40 m 8 (by omega), gA 18 0 m (by omega) (by omega) (by omega) (by omega) (by omega), gA 22 0 m (by omega) (by omega) (by omega) (by omega) (by omega)]; exact ⟨hR.s hm, hR.h hm⟩
  · rw [g40 41 m i (by omega), g40 42 m i (by omega), g40 43 m i (by omega), gA 19 0 _ (by omega) (by omega) (by omega) (by omega) (by omega), gA 20 0 _ (by omega) (by omega) (by omega) (by omega) (by omega), gA 21 0 _ (by omega) (by omega) (by omega) (by omega) (by omega)]; exact hR.i hm hi
  · rw [g40 44 m i (by omega), g40 45 m i (by omega), g40 46 m i (by omega), g40 47 m i (by omega), gA 23 0 _ (by omega) (by omega) (by omega) (by omega) (by omega), gA 24 0 _ (by omega) (by omega) (by omega) (by omega) (by omega), gA 25 0 _ (by omega) (by omega) (by omega) (by omega) (by omega), gA 26 0 _ (by omega) (by omega) (by omega) (by omega) (by omega)]; exact hR.hd hm hi
  · rw [ek] at hb
    by_cases e : b = kct μ
    · subst e; rw [bTop 0 (by omega), decide_eq_decide]; omega
    · rw [bLow b 0 (by omega) (by omega)]; exact hR.kr.1 b (by omega)
  · rw [g17, if_neg (by omega)]; exact hR.kr.2.1
  · rw [ek] at hk
    by_cases e : c = kct μ
    · subst e
      refine ⟨p, hp, by rw [g17, if_pos rfl], fun b hb => ?_⟩
      rw [ek] at hb
      by_cases eb : b = kct μ
      · subst eb; rw [bTop _ (by omega), decide_eq_true rfl]; simp
      · rw [bNew b (by omega), bLow b p (by omega) hp, decide_eq_false (fun z => eb z.symm)]; simp
    · obtain ⟨p', h1, h2, h3⟩ := hR.kr.2.2 c hc (by omega)
      refine ⟨p', h1, by rw [g17, if_neg e]; exact h2, fun b hb => ?_⟩
      rw [ek] at hb
      by_cases eb : b = kct μ
      · subst eb; rw [bTop c (by omega), bTop p' (by omega), decide_eq_false (show ¬ p' = kct μ by omega)]; simp
      · rw [bLow b c (by omega) (by omega), bLow b p' (by omega) (by omega)]; exact h3 b (by omega)
  · rw [gA 4 0 1 (by omega) (by omega) (by omega) (by omega) (by omega)] at z
    refine FD_gen hT es (fun m i => ?_) (fun m i c => ?_) ethr (fun j => gA 5 0 j (by omega) (by omega) (by omega) (by omega) (by omega)) (fun j => gA 6 0 j (by omega) (by omega) (by omega) (by omega) (by omega)) (fun j => gA 7 0 j (by omega) (by omega) (by omega) (by omega) (by omega)) (hD z)
    · unfold src opc oa ob; rw [g40 41 m i (by omega), g40 42 m i (by omega), g40 43 m i (by omega)]
    · unfold own opc oa; rw [g40 41 m i (by omega), g40 42 m i (by omega)]
  · rw [g13] at z; exact absurd z (by decide)
  · rw [gA 10 0 6 (by omega) (by omega) (by omega) (by omega) (by omega), g16 20 (by omega) (by omega) (by omega)]; exact h6
  · rw [gA 10 0 8 (by omega) (by omega) (by omega) (by omega) (by omega), g16 21 (by omega) (by omega) (by omega)]; exact h8
  · rw [gA 38 0 0 (by omega) (by omega) (by omega) (by omega) (by omega)]; exact hL
theorem Rel.method (h : Rel L μ) (hM : mct μ < 8) : Rel L (pu (pu (pu (pu (pu (pu μ 1 0 2 (nI (mct μ + 1))) 16 0 0 w) 18 0 (mct μ) (nI 0)) 22 0 (mct μ) (nI 0)) 16 0 3 (nI (mct μ + 1))) 16 0 13 (nI 1)) := by
  generalize hμ' : pu (pu (pu (pu (pu (pu μ 1 0 2 (nI (mct μ + 1))) 16 0 0 w) 18 0 (mct μ) (nI 0)) 22 0 (mct μ) (nI 0)) 16 0 3 (nI (mct μ + 1))) 16 0 13 (nI 1) = μ'
  obtain ⟨hT, hB, hR, hD, -, h6, h8, hL⟩ := h
  have gA : ∀ t mm j, t ≠ 1 → t ≠ 16 → t ≠ 18 → t ≠ 22 → μ' t mm j = μ t mm j := fun t mm j a b c d => by rw [← hμ', pu_t b, pu_t b, pu_t d, pu_t c, pu_t b, pu_t a]
  have g2 : μ' 1 0 2 = nI (mct μ + 1) := by rw [← hμ', pu_t (by omega), pu_t (by omega), pu_t (by omega), pu_t (by omega), pu_t (by omega), pu_s]
  have g18 : ∀ j, μ' 18 0 j = if j = mct μ then nI 0 else μ 18 0 j := fun j => by
    rw [← hμ', pu_t (by omega), pu_t (by omega), pu_t (by omega)]
    by_cases e : j = mct μ
    · subst e; rw [pu_s, if_pos rfl]
    · rw [pu_j e, pu_t (by omega), pu_t (by omega), if_neg e]
  have g22 : ∀ j, μ' 22 0 j = if j = mct μ then nI 0 else μ 22 0 j := fun j => by
    rw [← hμ', pu_t (by omega), pu_t (by omega)]
    by_cases e : j = mct μ
    · subst e; rw [pu_s, if_pos rfl]
    · rw [pu_j e, pu_t (by omega), pu_t (by omega), pu_t (by omega), if_neg e]
  have g16 : ∀ j, j ≠ 0 → j ≠ 3 → j ≠ 13 → μ' 16 0 j = μ 16 0 j := fun j a b c => by rw [← hμ', pu_j c, pu_j b, pu_t (by omega), pu_t (by omega), pu_j a, pu_t (by omega)]
  have g3 : μ' 16 0 3 = nI (mct μ + 1) := by rw [← hμ', pu_j (by omega), pu_s]
  have g13 : μ' 16 0 13 = nI 1 := by rw [← hμ', pu_s]
  have ek : kct μ' = kct μ := congrArg tn (gA 2 0 1 (by omega) (by omega) (by omega) (by omega))
  have em : mct μ' = mct μ + 1 := by show tn (μ' 1 0 2) = _; rw [g2]; exact nI_tn (by omega)
  have g40 : ∀ t mm j, 40 ≤ t → μ' t mm j = μ t mm j := fun t mm j ht => gA t mm j (by omega) (by omega) (by omega) (by omega)
  have es : ∀ m, szm μ' m = szm μ m := fun m => congrArg tn (g40 40 m 3 (by omega))
  have eh : ∀ m, hcm μ' m = hcm μ m := fun m => congrArg tn (g40 40 m 8 (by omega))
  have g15 : ∀ j, μ' 15 0 j = μ 15 0 j := fun j => gA 15 0 j (by omega) (by omega) (by omega) (by omega)
  have g17 : ∀ j, μ' 17 0 j = μ 17 0 j := fun j => gA 17 0 j (by omega) (by omega) (by omega) (by omega)
  have hT' : TI μ' := by
    refine ⟨⟨by rw [ek, gA 2 0 1 (by omega) (by omega) (by omega) (by omega)]; exact hT.k.1, by rw [ek]; exact hT.k.2⟩, ⟨by rw [em]; exact g2, by omega⟩, fun m hm => ?_, fun m i hm hi => ?_, fun m i hm hi => ?_⟩
    · rw [es, eh, em, g40 40 m 3 (by omega), g40 40 m 8 (by omega)]; exact ⟨hT.s hm, hT.h hm, fun z => hT.out hm (by omega)⟩
    · rw [es] at hi
      rw [ek, g40 41 m i (by omega), g40 42 m i (by omega), g40 43 m i (by omega)]; exact hT.i hm hi
    · rw [eh] at hi
      rw [ek, g40 44 m i (by omega), g40 45 m i (by omega), g40 46 m i (by omega), g40 47 m i (by omega)]; exact hT.hd hm hi
  have hout := hT.out hM (Nat.le_refl _)
  refine ⟨hT', ?_, ⟨by rw [ek, g16 1 (by omega) (by omega) (by omega)]; exact hR.k, by rw [em]; exact g3, fun m hm => ?_, fun m i hm hi => ?_, fun m i hm hi => ?_, fun b hb => ?_, ?_, fun c hc hk => ?_⟩, fun z => ?_, fun z => ?_, ?_, ?_, ?_⟩
  · intro b c hb hk hc
    rw [ek] at hb hk
    rw [g15]; exact hB b c hb hk hc
  · rw [g40 40 m 3 (by omega), g40 40 m 8 (by omega), g18, g22]
    by_cases e : m = mct μ
    · subst e
      rw [if_pos rfl, if_pos rfl, (hT.s hM).1, (hT.h hM).1, hout.1, hout.2]; exact ⟨rfl, rfl⟩
    · rw [if_neg e, if_neg e]; exact ⟨hR.s hm, hR.h hm⟩
  · rw [g40 41 m i (by omega), g40 42 m i (by omega), g40 43 m i (by omega), gA 19 0 _ (by omega) (by omega) (by omega) (by omega), gA 20 0 _ (by omega) (by omega) (by omega) (by omega), gA 21 0 _ (by omega) (by omega) (by omega) (by omega)]; exact hR.i hm hi
  · rw [g40 44 m i (by omega), g40 45 m i (by omega), g40 46 m i (by omega), g40 47 m i (by omega), gA 23 0 _ (by omega) (by omega) (by omega) (by omega), gA 24 0 _ (by omega) (by omega) (by omega) (by omega), gA 25 0 _ (by omega) (by omega) (by omega) (by omega), gA 26 0 _ (by omega) (by omega) (by omega) (by omega)]; exact hR.hd hm hi
  · rw [ek] at hb; rw [g15]; exact hR.kr.1 b hb
  · rw [g17]; exact hR.kr.2.1
  · rw [ek] at hk
    obtain ⟨p', h1, h2, h3⟩ := hR.kr.2.2 c hc hk
    refine ⟨p', h1, by rw [g17]; exact h2, fun b hb => ?_⟩
    rw [ek] at hb
    rw [g15]; exact h3 b hb
  · rw [gA 4 0 1 (by omega) (by omega) (by omega) (by omega)] at z
    refine FD_gen hT es (fun m i => ?_) (fun m i c => ?_) (fun m j c hm hc => ?_) (fun j => gA 5 0 j (by omega) (by omega) (by omega) (by omega)) (fun j => gA 6 0 j (by omega) (by omega) (by omega) (by omega)) (fun j => gA 7 0 j (by omega) (by omega) (by omega) (by omega)) (hD z)
    · unfold src opc oa ob; rw [g40 41 m i (by omega), g40 42 m i (by omega), g40 43 m i (by omega)]
    · unfold own opc oa; rw [g40 41 m i (by omega), g40 42 m i (by omega)]
    · unfold thr cat
      rw [eh, catF_eq (q := cp μ m (nI j) c) (hcm μ m) 0 (fun k _ hk => ?_)]
      unfold cp
      rw [g40 44 m k (by omega), g40 45 m k (by omega), g40 46 m k (by omega), g15]
  · rw [g13] at z; exact absurd z (by decide)
  · rw [gA 10 0 6 (by omega) (by omega) (by omega) (by omega), g16 20 (by omega) (by omega) (by omega)]; exact h6
  · rw [gA 10 0 8 (by omega) (by omega) (by omega) (by omega), g16 21 (by omega) (by omega) (by omega)]; exact h8
  · rw [gA 38 0 0 (by omega) (by omega) (by omega) (by omega)]; exact hL
/-- an instruction, or a handler, is laid in both -/
theorem Rel.lay {μ' : PM} {m n : Nat} {ad : Bool} (h : Rel L μ) (hm : m < mct μ) (hn : n < 24) (hsz : if ad = true then n = szm μ m else n < szm μ m)
    (gA : ∀ t mm j, t < 40 → t ≠ 4 → t ≠ 16 → t ≠ 18 → t ≠ 19 → t ≠ 20 → t ≠ 21 → t ≠ 34 → μ' t mm j = μ t mm j) (gH : ∀ t mm j, 44 ≤ t → μ' t mm j = μ t mm j) (g40 : ∀ mm j, ¬ (mm = m ∧ j = 3) → μ' 40 mm j = μ 40 mm j) (g403 : μ' 40 m 3 = nI (if ad = true then n + 1 else szm μ m))
    (g41 : ∀ t mm j, t = 41 ∨ t = 42 ∨ t = 43 → ¬ (mm = m ∧ j = n) → μ' t mm j = μ t mm j) (gv : vI (kct μ) (μ' 41 m n) (μ' 42 m n) (μ' 43 m n)) (g18 : ∀ j, j < 8 → j ≠ m → μ' 18 0 j = μ 18 0 j) (g18m : μ' 18 0 m = μ' 40 m 3)
    (g19 : ∀ t j, t = 19 ∨ t = 20 ∨ t = 21 → j ≠ 24 * m + n → μ' t 0 j = μ t 0 j) (g19n : μ' 19 0 (24 * m + n) = μ' 41 m n ∧ μ' 20 0 (24 * m + n) = μ' 42 m n ∧ μ' 21 0 (24 * m + n) = μ' 43 m n)
    (g16 : ∀ j, j ≠ 0 → j ≠ 13 → μ' 16 0 j = μ 16 0 j) (gs : μ' 16 0 13 = 1) (gs4 : μ' 4 0 1 = 1) : Rel L μ' := by
  obtain ⟨hT, hB, hR, -, -, h6, h8, hL⟩ := h
  have hm8 : m < 8 := by have := hT.m.2; omega
  have ek : kct μ' = kct μ := congrArg tn (gA 2 0 1 (by omega) (by omega) (by omega) (by omega) (by omega) (by omega) (by omega) (by omega))
  have em : mct μ' = mct μ := congrArg tn (gA 1 0 2 (by omega) (by omega) (by omega) (by omega) (by omega) (by omega) (by omega) (by omega))
  have hs24 := (hT.s hm8).2
  have es : ∀ mm, mm ≠ m → szm μ' mm = szm μ mm := fun mm e => congrArg tn (g40 mm 3 (fun z => e z.1))
  have esm : szm μ' m = if ad = true then n + 1 else szm μ m := by
    unfold szm
    rw [g403]
    refine nI_tn ?_
    by_cases e : ad = true
    · rw [if_pos e]; omega
    · rw [if_neg e]; omega
  have eh : ∀ mm, hcm μ' mm = hcm μ mm := fun mm => congrArg tn (g40 mm 8 (by omega))
  have g15 : ∀ j, μ' 15 0 j = μ 15 0 j := fun j => gA 15 0 j (by omega) (by omega) (by omega) (by omega) (by omega) (by omega) (by omega) (by omega)
  have g17 : ∀ j, μ' 17 0 j = μ 17 0 j := fun j => gA 17 0 j (by omega) (by omega) (by omega) (by omega) (by omega) (by omega) (by omega) (by omega)
  refine ⟨⟨⟨by rw [ek, gA 2 0 1 (by omega) (by omega) (by omega) (by omega) (by omega) (by omega) (by omega) (by omega)]; exact hT.k.1, by rw [ek]; exact hT.k.2⟩, ⟨by rw [em, gA 1 0 2 (by omega) (by omega) (by omega) (by omega) (by omega) (by omega) (by omega) (by omega)]; exact hT.m.1, by rw [em]; exact hT.m.2⟩, fun mm hmm => ?_, fun mm i hmm hi => ?_, fun mm i hmm hi => ?_⟩, ?_, ⟨by rw [ek, g16 1 (by omega) (by omega)]; exact hR.k, by rw [em, g16 3 (by omega) (by omega)]; exact hR.m, fun mm hmm => ?_, fun mm i hmm hi => ?_, fun mm i hmm hi => ?_, fun b hb => ?_, ?_, fun c hc hk => ?_⟩, fun z => ?_, fun z => ?_, ?_, ?_, ?_⟩
  · rw [eh, em]
    by_cases e : mm = m
    · subst e
      rw [esm, g403, g40 mm 8 (by omega)]
      refine ⟨⟨rfl, ?_⟩, hT.h hmm, fun z => by omega⟩
      by_cases e : ad = true
      · rw [if_pos e]; omega
      · rw [if_neg e]; exact hs24
    · rw [es mm e, g40 mm 3 (fun z => e z.1), g40 mm 8 (fun z => e z.1)]; exact hT.2.2.1 mm hmm
  · rw [ek]
    by_cases e : mm = m ∧ i = n
    · obtain ⟨rfl, rfl⟩ := e; exact gv
    · rw [g41 41 mm i (by omega) e, g41 42 mm i (by omega) e, g41 43 mm i (by omega) e]
      refine hT.i hmm ?_
      by_cases em : mm = m
      · subst em
        rw [esm] at hi
        by_cases ea : ad = true
        · rw [if_pos ea] at hi hsz; omega
        · rw [if_neg ea] at hi; exact hi
      · rw [es mm em] at hi; exact hi
  · rw [eh] at hi
    rw [ek, gH 44 mm i (by omega), gH 45 mm i (by omega), gH 46 mm i (by omega), gH 47 mm i (by omega)]; exact hT.hd hmm hi
  · intro b c hb hk hc
    rw [ek] at hb hk
    rw [g15]; exact hB b c hb hk hc
  · rw [g40 mm 8 (by omega), gA 22 0 mm (by omega) (by omega) (by omega) (by omega) (by omega) (by omega) (by omega) (by omega)]
    by_cases e : mm = m
    · subst e; exact ⟨g18m, hR.h hmm⟩
    · rw [g18 mm hmm e, g40 mm 3 (fun z => e z.1)]; exact ⟨hR.s hmm, hR.h hmm⟩
  · by_cases e : mm = m ∧ i = n
    · obtain ⟨rfl, rfl⟩ := e; exact g19n
    · rw [g41 41 mm i (by omega) e, g41 42 mm i (by omega) e, g41 43 mm i (by omega) e, g19 19 _ (by omega) (by omega), g19 20 _ (by omega) (by omega), g19 21 _ (by omega) (by omega)]; exact hR.i hmm hi
  · rw [gH 44 mm i (by omega), gH 45 mm i (by omega), gH 46 mm i (by omega), gH 47 mm i (by omega), gA 23 0 _ (by omega) (by omega) (by omega) (by omega) (by omega) (by omega) (by omega) (by omega), gA 24 0 _ (by omega) (by omega) (by omega) (by omega) (by omega) (by omega) (by omega) (by omega), gA 25 0 _ (by omega) (by omega) (by omega) (by omega) (by omega) (by omega) (by omega) (by omega), gA 26 0 _ (by omega) (by omega) (by omega) (by omega) (by omega) (by omega) (by omega) (by omega)]; exact hR.hd hmm hi
  · rw [ek] at hb; rw [g15]; exact hR.kr.1 b hb
  · rw [g17]; exact hR.kr.2.1
  · rw [ek] at hk
    obtain ⟨p', h1, h2, h3⟩ := hR.kr.2.2 c hc hk
    refine ⟨p', h1, by rw [g17]; exact h2, fun b hb => ?_⟩
    rw [ek] at hb
    rw [g15]; exact h3 b hb
  · rw [gs4] at z; exact absurd z (by decide)
  · rw [gs] at z; exact absurd z (by decide)
  · rw [gA 10 0 6 (by omega) (by omega) (by omega) (by omega) (by omega) (by omega) (by omega) (by omega), g16 20 (by omega) (by omega)]; exact h6
  · rw [gA 10 0 8 (by omega) (by omega) (by omega) (by omega) (by omega) (by omega) (by omega) (by omega), g16 21 (by omega) (by omega)]; exact h8
  · rw [gA 38 0 0 (by omega) (by omega) (by omega) (by omega) (by omega) (by omega) (by omega) (by omega)]; exact hL
theorem Rel.add {m : Nat} {c a b : Int32} (h : Rel L μ) (hm : m < mct μ) (hn : szm μ m < 24) (hv : vI (kct μ) c a b) : Rel L (pu (puW (pu (pu (puI (pu (pu μ 4 0 1 1) 40 m 3 (nI (szm μ m + 1))) m (szm μ m) c a b) 34 0 0 v) 16 0 0 w) m (szm μ m) c a b) 18 0 m (nI (szm μ m + 1))) := by
  unfold puW puI
  refine h.lay (ad := true) (m := m) (n := szm μ m) hm hn rfl ?_ ?_ ?_ ?_ ?_ ?_ ?_ ?_ ?_ ?_ ?_ ?_ ?_
  · intro t mm j _ a1 a2 a3 a4 a5 a6 a7
    rw [pu_t a3, pu_t a2, pu_t a6, pu_t a5, pu_t a4, pu_t a2, pu_t a7, pu_t (by omega), pu_t (by omega), pu_t (by omega), pu_t (by omega), pu_t a1]
  · intro t mm j ht
    rw [pu_t (by omega), pu_t (by omega), pu_t (by omega), pu_t (by omega), pu_t (by omega), pu_t (by omega), pu_t (by omega), pu_t (by omega), pu_t (by omega), pu_t (by omega), pu_t (by omega), pu_t (by omega)]
  · intro mm j hj
    rw [pu_t (by omega), pu_t (by omega), pu_t (by omega), pu_t (by omega), pu_t (by omega), pu_t (by omega), pu_t (by omega), pu_t (by omega), pu_t (by omega), pu_t (by omega)]
    unfold pu
    rw [if_neg (fun z => hj z.2), if_neg (by omega)]
  · rw [pu_t (by omega), pu_t (by omega), pu_t (by omega), pu_t (by omega), pu_t (by omega), pu_t (by omega), pu_t (by omega), pu_t (by omega), pu_t (by omega), pu_t (by omega), pu_s]; rfl
  · intro t mm j ht hj
    rw [pu_t (by omega), pu_t (by omega), pu_t (by omega), pu_t (by omega), pu_t (by omega), pu_t (by omega), pu_t (by omega)]
    unfold pu
    rw [if_neg (fun z => hj z.2), if_neg (fun z => hj z.2), if_neg (fun z => hj z.2), if_neg (by omega), if_neg (by omega)]
  · have e1 : ∀ x y z : Int32, x = c → y = a → z = b → vI (kct μ) x y z := by rintro _ _ _ rfl rfl rfl; exact hv
    refine e1 _ _ _ ?_ ?_ ?_
    · rw [pu_t (by omega), pu_t (by omega), pu_t (by omega), pu_t (by omega), pu_t (by omega), pu_t (by omega), pu_t (by omega), pu_t (by omega), pu_t (by omega), pu_s]
    · rw [pu_t (by omega), pu_t (by omega), pu_t (by omega), pu_t (by omega), pu_t (by omega), pu_t (by omega), pu_t (by omega), pu_t (by omega), pu_s]
    · rw [pu_t (by omega), pu_t (by omega), pu_t (by omega), pu_t (by omega), pu_t (by omega), pu_t (by omega), pu_t (by omega), pu_s]
  · intro j _ hj
    rw [pu_j hj, pu_t (by omega), pu_t (by omega), pu_t (by omega), pu_t (by omega), pu_t (by omega), pu_t (by omega), pu_t (by omega), pu_t (by omega), pu_t (by omega), pu_t (by omega), pu_t (by omega)]
  · rw [pu_s, pu_t (by omega), pu_t (by omega), pu_t (by omega), pu_t (by omega), pu_t (by omega), pu_t (by omega), pu_t (by omega), pu_t (by omega), pu_t (by omega), pu_t (by omega), pu_s]
  · intro t j ht hj
    rw [pu_t (by omega), pu_t (by omega), pu_j hj, pu_j hj, pu_j hj, pu_t (by omega), pu_t (by omega), pu_t (by omega), pu_t (by omega), pu_t (by omega), pu_t (by omega), pu_t (by omega)]
  · refine ⟨?_, ?_, ?_⟩
    · rw [pu_t (by omega), pu_t (by omega), pu_t (by omega), pu_t (by omega), pu_s, pu_t (by omega), pu_t (by omega), pu_t (by omega), pu_t (by omega), pu_t (by omega), pu_t (by omega), pu_t (by omega), pu_t (by omega), pu_t (by omega), pu_s]
    · rw [pu_t (by omega), pu_t (by omega), pu_t (by omega), pu_s, pu_t (by omega), pu_t (by omega), pu_t (by omega), pu_t (by omega), pu_t (by omega), pu_t (by omega), pu_t (by omega), pu_t (by omega), pu_s]
    · rw [pu_t (by omega), pu_t (by omega), pu_s, pu_t (by omega), pu_t (by omega), pu_t (by omega), pu_t (by omega), pu_t (by omega), pu_t (by omega), pu_t (by omega), pu_s]
  · intro j h0 h13
    rw [pu_t (by omega), pu_j h13, pu_t (by omega), pu_t (by omega), pu_t (by omega), pu_j h0, pu_t (by omega), pu_t (by omega), pu_t (by omega), pu_t (by omega), pu_t (by omega), pu_t (by omega)]
  · rw [pu_t (by omega), pu_s]; rfl
  · rw [pu_t (by omega), pu_t (by omega), pu_t (by omega), pu_t (by omega), pu_t (by omega), pu_t (by omega), pu_t (by omega), pu_t (by omega), pu_t (by omega), pu_t (by omega), pu_t (by omega), pu_s]
theorem Rel.change {m i : Nat} {c a b : Int32} (h : Rel L μ) (hm : m < mct μ) (hn : i < szm μ m) (hv : vI (kct μ) c a b) : Rel L (puW (pu (pu (pu (puI μ m i c a b) 4 0 1 1) 34 0 0 v) 16 0 0 w) m i c a b) := by
  unfold puW puI
  have hm8 : m < 8 := by have := h.1.m.2; omega
  have hs := h.1.s hm8
  refine h.lay (ad := false) (m := m) (n := i) hm (by omega) (by simpa using hn) ?_ ?_ ?_ ?_ ?_ ?_ ?_ ?_ ?_ ?_ ?_ ?_ ?_
  · intro t mm j _ a1 a2 a3 a4 a5 a6 a7
    rw [pu_t a2, pu_t a6, pu_t a5, pu_t a4, pu_t a2, pu_t a7, pu_t a1, pu_t (by omega), pu_t (by omega), pu_t (by omega)]
  · intro t mm j ht
    rw [pu_t (by omega), pu_t (by omega), pu_t (by omega), pu_t (by omega), pu_t (by omega), pu_t (by omega), pu_t (by omega), pu_t (by omega), pu_t (by omega), pu_t (by omega)]
  · intro mm j hj
    rw [pu_t (by omega), pu_t (by omega), pu_t (by omega), pu_t (by omega), pu_t (by omega), pu_t (by omega), pu_t (by omega), pu_t (by omega), pu_t (by omega), pu_t (by omega)]
  · rw [pu_t (by omega), pu_t (by omega), pu_t (by omega), pu_t (by omega), pu_t (by omega), pu_t (by omega), pu_t (by omega), pu_t (by omega), pu_t (by omega), pu_t (by omega)]; exact hs.1
  · intro t mm j ht hj
    rw [pu_t (by omega), pu_t (by omega), pu_t (by omega), pu_t (by omega), pu_t (by omega), pu_t (by omega), pu_t (by omega)]
    unfold pu
    rw [if_neg (fun z => hj z.2), if_neg (fun z => hj z.2), if_neg (fun z => hj z.2)]
  · have e1 : ∀ x y z : Int32, x = c → y = a → z = b → vI (kct μ) x y z := by rintro _ _ _ rfl rfl rfl; exact hv
    refine e1 _ _ _ ?_ ?_ ?_
    · rw [pu_t (by omega), pu_t (by omega), pu_t (by omega), pu_t (by omega), pu_t (by omega), pu_t (by omega), pu_t (by omega), pu_t (by omega), pu_t (by omega), pu_s]
    · rw [pu_t (by omega), pu_t (by omega), pu_t (by omega), pu_t (by omega), pu_t (by omega), pu_t (by omega), pu_t (by omega), pu_t (by omega), pu_s]
    · rw [pu_t (by omega), pu_t (by omega), pu_t (by omega), pu_t (by omega), pu_t (by omega), pu_t (by omega), pu_t (by omega), pu_s]
  · intro j _ hj
    rw [pu_t (by omega), pu_t (by omega), pu_t (by omega), pu_t (by omega), pu_t (by omega), pu_t (by omega), pu_t (by omega), pu_t (by omega), pu_t (by omega), pu_t (by omega)]
  · rw [pu_t (by omega), pu_t (by omega), pu_t (by omega), pu_t (by omega), pu_t (by omega), pu_t (by omega), pu_t (by omega), pu_t (by omega), pu_t (by omega), pu_t (by omega), pu_t (by omega), pu_t (by omega), pu_t (by omega), pu_t (by omega), pu_t (by omega), pu_t (by omega), pu_t (by omega), pu_t (by omega), pu_t (by omega), pu_t (by omega)]; exact h.2.2.1.s hm8
  · intro t j ht hj
    rw [pu_t (by omega), pu_j hj, pu_j hj, pu_j hj, pu_t (by omega), pu_t (by omega), pu_t (by omega), pu_t (by omega), pu_t (by omega), pu_t (by omega)]
  · refine ⟨?_, ?_, ?_⟩
    · rw [pu_t (by omega), pu_t (by omega), pu_t (by omega), pu_s, pu_t (by omega), pu_t (by omega), pu_t (by omega), pu_t (by omega), pu_t (by omega), pu_t (by omega), pu_t (by omega), pu_t (by omega), pu_t (by omega), pu_s]
    · rw [pu_t (by omega), pu_t (by omega), pu_s, pu_t (by omega), pu_t (by omega), pu_t (by omega), pu_t (by omega), pu_t (by omega), pu_t (by omega), pu_t (by omega), pu_t (by omega), pu_s]
    · rw [pu_t (by omega), pu_s, pu_t (by omega), pu_t (by omega), pu_t (by omega), pu_t (by omega), pu_t (by omega), pu_t (by omega), pu_t (by omega), pu_s]
  · intro j h0 h13
    rw [pu_j h13, pu_t (by omega), pu_t (by omega), pu_t (by omega), pu_j h0, pu_t (by omega), pu_t (by omega), pu_t (by omega), pu_t (by omega), pu_t (by omega)]
  · rw [pu_s]; rfl
  · rw [pu_t (by omega), pu_t (by omega), pu_t (by omega), pu_t (by omega), pu_t (by omega), pu_t (by omega), pu_s]
theorem Rel.handler {m : Nat} {f l k t : Int32} (h : Rel L μ) (hm : m < mct μ) (hn : hcm μ m < 4) (hv : vH (kct μ) f l k t) : Rel L (pu (pu (puG (pu (pu (puH (pu (pu μ 4 0 1 1) 40 m 8 (nI (hcm μ m + 1))) m (hcm μ m) f l k t) 34 0 0 v) 16 0 0 w) (4 * m + hcm μ m) f l k t) 22 0 m (nI (hcm μ m + 1))) 16 0 13 (nI 1)) := by
  unfold puG puH
  generalize hμ' : pu (pu (pu (pu (pu (pu (pu (pu (pu (pu (pu (pu (pu (pu μ 4 0 1 1) 40 m 8 (nI (hcm μ m + 1))) 44 m (hcm μ m) f) 45 m (hcm μ m) l) 46 m (hcm μ m) k) 47 m (hcm μ m) t) 34 0 0 v) 16 0 0 w) 23 0 (4 * m + hcm μ m) f) 24 0 (4 * m + hcm μ m) l) 25 0 (4 * m + hcm μ m) k) 26 0 (4 * m + hcm μ m) t) 22 0 m (nI (hcm μ m + 1))) 16 0 13 (nI 1) = μ'
  obtain ⟨hT, hB, hR, -, -, h6, h8, hL⟩ := h
  have hm8 : m < 8 := by have := hT.m.2; omega
  have val : ∀ t' mm j, μ' t' mm j = if t' = 16 ∧ mm = 0 ∧ j = 13 then nI 1 else if t' = 22 ∧ mm = 0 ∧ j = m then nI (hcm μ m + 1) else if t' = 26 ∧ mm = 0 ∧ j = 4 * m + hcm μ m then t else if t' = 25 ∧ mm = 0 ∧ j = 4 * m + hcm μ m then k else if t' = 24 ∧ mm = 0 ∧ j = 4 * m + hcm μ m then l else if t' = 23 ∧ mm = 0 ∧ j = 4 * m + hcm μ m then f else if t' = 16 ∧ mm = 0 ∧ j = 0 then w else if t' = 34 ∧ mm = 0 ∧ j = 0 then v else if t' = 47 ∧ mm = m ∧ j = hcm μ m then t else if t' = 46 ∧ mm = m ∧ j = hcm μ m then k else if t' = 45 ∧ mm = m ∧ j = hcm μ m then l else if t' = 44 ∧ mm = m ∧ j = hcm μ m then f else if t' = 40 ∧ mm = m ∧ j = 8 then nI (hcm μ m + 1) else if t' = 4 ∧ mm = 0 ∧ j = 1 then 1 else μ t' mm j := fun t' mm j => by rw [← hμ']; rfl
  have gA : ∀ t' mm j, t' ≠ 4 → t' ≠ 16 → t' ≠ 22 → t' ≠ 23 → t' ≠ 24 → t' ≠ 25 → t' ≠ 26 → t' ≠ 34 → t' ≠ 40 → t' ≠ 44 → t' ≠ 45 → t' ≠ 46 → t' ≠ 47 → μ' t' mm j = μ t' mm j := by
    intro t' mm j a1 a2 a3 a4 a5 a6 a7 a8 a9 b1 b2 b3 b4
    rw [val]; simp only [a1, a2, a3, a4, a5, a6, a7, a8, a9, b1, b2, b3, b4, false_and, if_false]
  have gL : ∀ t' mm j, t' < 4 ∨ (5 ≤ t' ∧ t' < 16) ∨ (17 ≤ t' ∧ t' < 22) ∨ t' = 38 ∨ t' = 41 ∨ t' = 42 ∨ t' = 43 → μ' t' mm j = μ t' mm j := fun t' mm j z => gA t' mm j (by omega) (by omega) (by omega) (by omega) (by omega) (by omega) (by omega) (by omega) (by omega) (by omega) (by omega) (by omega) (by omega)
  have g40 : ∀ mm j, μ' 40 mm j = if mm = m ∧ j = 8 then nI (hcm μ m + 1) else μ 40 mm j := fun mm j => by rw [val]; simp
  have g44 : ∀ mm j, μ' 44 mm j = if mm = m ∧ j = hcm μ m then f else μ 44 mm j := fun mm j => by rw [val]; simp
  have g45 : ∀ mm j, μ' 45 mm j = if mm = m ∧ j = hcm μ m then l else μ 45 mm j := fun mm j => by rw [val]; simp
  have g46 : ∀ mm j, μ' 46 mm j = if mm = m ∧ j = hcm μ m then k else μ 46 mm j := fun mm j => by rw [val]; simp
  have g47 : ∀ mm j, μ' 47 mm j = if mm = m ∧ j = hcm μ m then t else μ 47 mm j := fun mm j => by rw [val]; simp
  have g23 : ∀ j, μ' 23 0 j = if j = 4 * m + hcm μ m then f else μ 23 0 j := fun j => by rw [val]; simp
  have g24 : ∀ j, μ' 24 0 j = if j = 4 * m + hcm μ m then l else μ 24 0 j := fun j => by rw [val]; simp
  have g25 : ∀ j, μ' 25 0 j = if j = 4 * m + hcm μ m then k else μ 25 0 j := fun j => by rw [val]; simp
  have g26 : ∀ j, μ' 26 0 j = if j = 4 * m + hcm μ m then t else μ 26 0 j := fun j => by rw [val]; simp
  have g22 : ∀ j, μ' 22 0 j = if j = m then nI (hcm μ m + 1) else μ 22 0 j := fun j => by rw [val]; simp
  have g16 : ∀ j, j ≠ 0 → j ≠ 13 → μ' 16 0 j = μ 16 0 j := fun j a b => by rw [val]; simp [a, b]
  have gs : μ' 16 0 13 = 1 := by rw [val]; simp; rfl
  have gs4 : μ' 4 0 1 = 1 := by rw [val]; simp
  have ek : kct μ' = kct μ := congrArg tn (gL 2 0 1 (by omega))
  have em : mct μ' = mct μ := congrArg tn (gL 1 0 2 (by omega))
  have es : ∀ mm, szm μ' mm = szm μ mm := fun mm => congrArg tn (by rw [g40, if_neg (by omega)])
  have eh : ∀ mm, mm ≠ m → hcm μ' mm = hcm μ mm := fun mm e => congrArg tn (by rw [g40, if_neg (fun z => e z.1)])
  have ehm : hcm μ' m = hcm μ m + 1 := by
    show tn (μ' 40 m 8) = _
    rw [g40, if_pos ⟨rfl, rfl⟩]; exact nI_tn (by omega)
  refine ⟨⟨⟨by rw [ek, gL 2 0 1 (by omega)]; exact hT.k.1, by rw [ek]; exact hT.k.2⟩, ⟨by rw [em, gL 1 0 2 (by omega)]; exact hT.m.1, by rw [em]; exact hT.m.2⟩, fun mm hmm => ?_, fun mm i hmm hi => ?_, fun mm i hmm hi => ?_⟩, ?_, ⟨by rw [ek, g16 1 (by omega) (by omega)]; exact hR.k, by rw [em, g16 3 (by omega) (by omega)]; exact hR.m, fun mm hmm => ?_, fun mm i hmm hi => ?_, fun mm i hmm hi => ?_, fun b hb => ?_, ?_, fun c hc hk => ?_⟩, fun z => ?_, fun z => ?_, ?_, ?_, ?_⟩
  · rw [es, em, g40 mm 3, if_neg (by omega), g40 mm 8]
    by_cases e : mm = m
    · subst e
      rw [ehm, if_pos ⟨rfl, rfl⟩]
      exact ⟨hT.s hmm, ⟨rfl, by omega⟩, fun z => by omega⟩
    · rw [eh mm e, if_neg (fun z => e z.1)]; exact hT.2.2.1 mm hmm
  · rw [es] at hi
    rw [ek, gL 41 mm i (by omega), gL 42 mm i (by omega), gL 43 mm i (by omega)]; exact hT.i hmm hi
  · rw [ek, g44, g45, g46, g47]
    by_cases e : mm = m ∧ i = hcm μ m
    · rw [if_pos e, if_pos e, if_pos e, if_pos e]; exact hv
    · rw [if_neg e, if_neg e, if_neg e, if_neg e]
      refine hT.hd hmm ?_
      by_cases e2 : mm = m
      · subst e2; rw [ehm] at hi; omega
      · rw [eh mm e2] at hi; exact hi
  · intro b c hb hk hc
    rw [ek] at hb hk
    rw [gL 15 0 b (by omega)]; exact hB b c hb hk hc
  · rw [g40 mm 3, if_neg (by omega), g40 mm 8, gL 18 0 mm (by omega), g22]
    by_cases e : mm = m
    · subst e; rw [if_pos rfl, if_pos ⟨rfl, rfl⟩]; exact ⟨hR.s hmm, rfl⟩
    · rw [if_neg e, if_neg (fun z => e z.1)]; exact ⟨hR.s hmm, hR.h hmm⟩
  · rw [gL 41 mm i (by omega), gL 42 mm i (by omega), gL 43 mm i (by omega), gL 19 0 _ (by omega), gL 20 0 _ (by omega), gL 21 0 _ (by omega)]; exact hR.i hmm hi
  · rw [g44, g45, g46, g47, g23, g24, g25, g26]
    by_cases e : mm = m ∧ i = hcm μ m
    · obtain ⟨rfl, rfl⟩ := e
      rw [if_pos rfl, if_pos rfl, if_pos rfl, if_pos rfl, if_pos ⟨rfl, rfl⟩, if_pos ⟨rfl, rfl⟩, if_pos ⟨rfl, rfl⟩, if_pos ⟨rfl, rfl⟩]; exact ⟨rfl, rfl, rfl, rfl⟩
    · have e2 : ¬ 4 * mm + i = 4 * m + hcm μ m := by omega
      rw [if_neg e, if_neg e, if_neg e, if_neg e, if_neg e2, if_neg e2, if_neg e2, if_neg e2]; exact hR.hd hmm hi
  · rw [ek] at hb; rw [gL 15 0 b (by omega)]; exact hR.kr.1 b hb
  · rw [gL 17 0 0 (by omega)]; exact hR.kr.2.1
  · rw [ek] at hk
    obtain ⟨p', h1, h2, h3⟩ := hR.kr.2.2 c hc hk
    refine ⟨p', h1, by rw [gL 17 0 c (by omega)]; exact h2, fun b hb => ?_⟩
    rw [ek] at hb
    rw [gL 15 0 b (by omega)]; exact h3 b hb
  · rw [gs4] at z; exact absurd z (by decide)
  · rw [gs] at z; exact absurd z (by decide)
  · rw [gL 10 0 6 (by omega), g16 20 (by omega) (by omega)]; exact h6
  · rw [gL 10 0 8 (by omega), g16 21 (by omega) (by omega)]; exact h8
  · rw [gL 38 0 0 (by omega)]; exact hL
end P32
