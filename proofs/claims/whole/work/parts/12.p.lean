/-! What stays where the text stays; note and openDoors. -/
theorem pu_s {μ : PM} {t m j : Nat} {x : Int32} : pu μ t m j x t m j = x := if_pos ⟨rfl, rfl, rfl⟩
theorem pu_t {μ : PM} {t m j t' m' j' : Nat} {x : Int32} (h : t' ≠ t) : pu μ t m j x t' m' j' = μ t' m' j' := if_neg (fun z => h z.1)
theorem pu_m {μ : PM} {t m j t' m' j' : Nat} {x : Int32} (h : m' ≠ m) : pu μ t m j x t' m' j' = μ t' m' j' := if_neg (fun z => h z.2.1)
theorem pu_j {μ : PM} {t m j t' m' j' : Nat} {x : Int32} (h : j' ≠ j) : pu μ t m j x t' m' j' = μ t' m' j' := if_neg (fun z => h z.2.2)
def ts (μ μ' : PM) : Prop := (∀ m j, μ' 1 m j = μ 1 m j) ∧ (∀ m j, μ' 2 m j = μ 2 m j) ∧ (∀ m j, μ' 15 m j = μ 15 m j) ∧ ∀ t m j, 40 ≤ t → μ' t m j = μ t m j
theorem ts.of {μ μ' : PM} {S : Nat → Prop} (h : ∀ t m j, ¬ S t → μ' t m j = μ t m j) (h1 : ¬ S 1) (h2 : ¬ S 2) (h15 : ¬ S 15) (h40 : ∀ t, 40 ≤ t → ¬ S t) : ts μ μ' := ⟨fun m j => h 1 m j h1, fun m j => h 2 m j h2, fun m j => h 15 m j h15, fun t m j ht => h t m j (h40 t ht)⟩
theorem ts.rf (μ : PM) : ts μ μ := ⟨fun _ _ => rfl, fun _ _ => rfl, fun _ _ => rfl, fun _ _ _ _ => rfl⟩
theorem ts.tr {a b c : PM} (h : ts a b) (g : ts b c) : ts a c := ⟨fun m j => (g.1 m j).trans (h.1 m j), fun m j => (g.2.1 m j).trans (h.2.1 m j), fun m j => (g.2.2.1 m j).trans (h.2.2.1 m j), fun t m j ht => (g.2.2.2 t m j ht).trans (h.2.2.2 t m j ht)⟩
theorem ts.pu {μ : PM} {t m j : Nat} {x : Int32} (h1 : t ≠ 1) (h2 : t ≠ 2) (h15 : t ≠ 15) (h40 : t < 40) : ts μ (pu μ t m j x) := ⟨fun _ _ => pu_t (Ne.symm h1), fun _ _ => pu_t (Ne.symm h2), fun _ _ => pu_t (Ne.symm h15), fun t' _ _ ht => pu_t (by omega)⟩
section TS
variable {μ μ' : PM}
theorem ts_szm (h : ts μ μ') (m : Nat) : szm μ' m = szm μ m := congrArg tn (h.2.2.2 40 m 3 (by omega))
theorem ts_hcm (h : ts μ μ') (m : Nat) : hcm μ' m = hcm μ m := congrArg tn (h.2.2.2 40 m 8 (by omega))
theorem ts_kct (h : ts μ μ') : kct μ' = kct μ := congrArg tn (h.2.1 0 1)
theorem ts_mct (h : ts μ μ') : mct μ' = mct μ := congrArg tn (h.1 0 2)
theorem ts_cp (h : ts μ μ') (m : Nat) (x : Int32) (c : Nat) : cp μ' m x c = cp μ m x c := by
  funext k
  unfold cp
  rw [h.2.2.2 44 m k (by omega), h.2.2.2 45 m k (by omega), h.2.2.2 46 m k (by omega), h.2.2.1]
theorem ts_cat (h : ts μ μ') (m i c : Nat) : cat μ' m i c = cat μ m i c := by
  unfold cat
  rw [ts_cp h, ts_hcm h]
theorem ts_thr (h : ts μ μ') (m i c : Nat) : thr μ' m i c = thr μ m i c := by unfold thr; rw [ts_cat h]
theorem ts_opc (h : ts μ μ') (m i : Nat) : opc μ' m i = opc μ m i := congrArg tn (h.2.2.2 41 m i (by omega))
theorem ts_oa (h : ts μ μ') (m i : Nat) : oa μ' m i = oa μ m i := congrArg tn (h.2.2.2 42 m i (by omega))
theorem ts_ob (h : ts μ μ') (m i : Nat) : ob μ' m i = ob μ m i := congrArg tn (h.2.2.2 43 m i (by omega))
theorem ts_src (h : ts μ μ') (m i : Nat) : src μ' m i = src μ m i := by unfold src; rw [ts_opc h, ts_oa h, ts_ob h]
theorem ts_own (h : ts μ μ') (m i c : Nat) : own μ' m i c = own μ m i c := by unfold own; rw [ts_opc h, ts_oa h]
theorem ts_TI (h : ts μ μ') (hT : TI μ) : TI μ' := by
  obtain ⟨a1, a2, a3, a4, a5⟩ := hT
  refine ⟨by rw [ts_kct h, h.2.1]; exact a1, by rw [ts_mct h, h.1]; exact a2, fun m hm => ?_, fun m i hm hi => ?_, fun m i hm hi => ?_⟩
  · rw [ts_szm h, ts_hcm h, ts_mct h, h.2.2.2 40 m 3 (by omega), h.2.2.2 40 m 8 (by omega)]; exact a3 m hm
  · rw [ts_kct h, h.2.2.2 41 m i (by omega), h.2.2.2 42 m i (by omega), h.2.2.2 43 m i (by omega)]
    rw [ts_szm h] at hi
    exact a4 m i hm hi
  · rw [ts_kct h, h.2.2.2 44 m i (by omega), h.2.2.2 45 m i (by omega), h.2.2.2 46 m i (by omega), h.2.2.2 47 m i (by omega)]
    rw [ts_hcm h] at hi
    exact a5 m i hm hi
end TS
def ntP (μ μ' : PM) (m i : Nat) (set len : Int32) : Prop :=
  (∀ t mm j, t ≠ 5 → t ≠ 6 → t ≠ 9 → μ' t mm j = μ t mm j) ∧ (∀ p, p ≠ m * 24 + i → μ' 5 0 p = μ 5 0 p) ∧ (∀ c, c < 32 → bt (μ' 5 0 (m * 24 + i)) c = (bt (μ 5 0 (m * 24 + i)) c || bt set c)) ∧
  (∀ c p, c < 10 → p < 192 → μ' 6 0 (c * 192 + p) = if p = m * 24 + i ∧ bt set c = true ∧ bt (μ 5 0 (m * 24 + i)) c = false then len else μ 6 0 (c * 192 + p)) ∧
  (∀ d c, d < 40 → c < 32 → bt (μ' 9 0 d) c = (bt (μ 9 0 d) c || (bt set c && !bt (μ 5 0 (m * 24 + i)) c && decide (thr μ m i c = d))))
theorem c_note {μ : PM} {m i : Nat} {set len : Int32} {Q : Option PV → PM → Prop} (hT : TI μ) (hm : m < 8) (hi : i < 24) (hset : ∀ c, 10 ≤ c → c < 32 → bt set c = false) (hq : ∀ μ', ntP μ μ' m i set len → Q none μ') : Cl 75 [pR 4 0, pI (nI m), pI (nI i), pI set, pI len] μ Q := by
  have hP : m * 24 + i < 192 := by omega
  generalize hPe : m * 24 + i = P at hP
  generalize han : set &&& (μ 5 0 P ^^^ (-1)) = an
  have hbn : ∀ c, c < 32 → bt an c = (bt set c && !bt (μ 5 0 P) c) := fun c hc => by rw [← han, b_and, bt_not _ hc]
  refine Cl_in rfl ?_
  (repeat refine Ax_step rfl ?_)
  refine Ax_call rfl (Cl_in rfl ?_)
  (repeat refine Ax_step rfl ?_)
  rw [pk_mul, nI_add, hPe]
  refine Ax_rI rfl ⟨rfl, ?_⟩
  (repeat refine Ax_step rfl ?_)
  refine Ax_ald P rfl rfl hP ?_
  (repeat refine Ax_step rfl ?_)
  rw [han]
  refine Ax_br rfl (fun h0 => ?_) (fun h0 => ?_)
  · (repeat refine Ax_step rfl ?_)
    refine Ax_ald P rfl rfl hP ?_
    (repeat refine Ax_step rfl ?_)
    refine Ax_ast P rfl rfl hP ?_
    (repeat refine Ax_step rfl ?_)
    generalize hμ1 : pu μ 5 0 P (μ 5 0 P ||| an) = μ1
    have loop : ∀ r k, k + r = 10 → ∀ μk : PM, (∀ t mm j, t ≠ 6 → t ≠ 9 → μk t mm j = μ1 t mm j) → (∀ c p, c < 10 → p < 192 → μk 6 0 (c * 192 + p) = if c < k ∧ p = P ∧ bt an c = true then len else μ 6 0 (c * 192 + p)) →
        (∀ d c, d < 40 → c < 32 → bt (μk 9 0 d) c = (bt (μ 9 0 d) c || (decide (c < k) && bt an c && decide (thr μ m i c = d)))) →
        Ax 75 45 [some (pR 4 0), some (pI (nI m)), some (pI (nI i)), some (pI set), some (pI len), some (pI (nI P)), some (pI an), some (pI (nI k))] [pI (nI 10), pI (nI k)] μk (fun y r' μ1 => y = 0 ∧ Q r' μ1) := by
      intro r
      induction r with
      | zero =>
        intro k hk μk hA hB hC
        refine Ax_br rfl (fun _ => ?_) (fun hb => absurd (nI_le (by omega) (by omega)) hb)
        (repeat refine Ax_step rfl ?_)
        refine Ax_rV rfl ⟨rfl, hq μk ⟨fun t mm j h5 h6 h9 => ?_, fun p hp => ?_, fun c hc => ?_, fun c p hc hp => ?_, fun d c hd hc => ?_⟩⟩
        · rw [hA t mm j h6 h9, ← hμ1]; exact pu_t h5
        · rw [hA 5 0 p (by omega) (by omega), ← hμ1]; exact pu_j (by rw [← hPe]; exact hp)
        · rw [hPe, hA 5 0 P (by omega) (by omega), ← hμ1, pu_s, b_or, hbn c hc]
          cases bt (μ 5 0 P) c <;> cases bt set c <;> rfl
        · rw [hB c p hc hp, hPe]
          have := hbn c (by omega)
          have e : (c < k ∧ p = P ∧ bt an c = true) ↔ (p = P ∧ bt set c = true ∧ bt (μ 5 0 P) c = false) := by
            rw [this, Bool.and_eq_true, Bool.not_eq_true']
            constructor
            · rintro ⟨-, h⟩; exact h
            · intro h; exact ⟨by omega, h⟩
          by_cases h : p = P ∧ bt set c = true ∧ bt (μ 5 0 P) c = false
          · rw [if_pos h, if_pos (e.mpr h)]
          · rw [if_neg h, if_neg (fun z => h (e.mp z))]
        · rw [hC d c hd hc, hPe, hbn c hc]
          by_cases hc10 : c < 10
          · rw [decide_eq_true (show c < k by omega), Bool.true_and]
          · rw [hset c (by omega) hc]; simp
      | succ r ih =>
        intro k hk μk hA hB hC
        refine Ax_br rfl (fun hb => absurd hb (nI_ge (by omega) (by omega))) (fun _ => ?_)
        (repeat refine Ax_step rfl ?_)
        refine Ax_br rfl (fun hb => ?_) (fun hb => ?_)
        · have hbk := (shr_1 _ (by omega)).mp hb
          (repeat refine Ax_step rfl ?_)
          rw [nI_add]
          refine ih (k + 1) (by omega) μk hA (fun c p hc hp => ?_) (fun d c hd hc => ?_)
          · rw [hB c p hc hp]
            have e : (c < k ∧ p = P ∧ bt an c = true) ↔ (c < k + 1 ∧ p = P ∧ bt an c = true) := by
              constructor
              · rintro ⟨h1, h2⟩; exact ⟨by omega, h2⟩
              · rintro ⟨h1, h2, h3⟩
                refine ⟨?_, h2, h3⟩
                by_cases hck : c = k
                · subst hck; rw [hbk] at h3; cases h3
                · omega
            by_cases h : c < k ∧ p = P ∧ bt an c = true
            · rw [if_pos h, if_pos (e.mp h)]
            · rw [if_neg h, if_neg (fun z => h (e.mpr z))]
          · rw [hC d c hd hc]
            by_cases hck : c = k
            · subst hck; rw [hbk]; simp
            · rw [decide_eq_decide.mpr (show c < k ↔ c < k + 1 by omega)]
        · have hbk : bt an k = true := by cases hz : bt an k with | true => rfl | false => exact absurd ((shr_1 _ (by omega)).mpr hz) hb
          (repeat refine Ax_step rfl ?_)
          refine Ax_ast (k * 192 + P) rfl (by rw [pk_mul, nI_add]) (show k * 192 + P < 1920 by omega) ?_
          (repeat refine Ax_step rfl ?_)
          have htsk : ts μ μk := ⟨fun mm j => by rw [hA 1 mm j (by omega) (by omega), ← hμ1]; exact pu_t (by omega), fun mm j => by rw [hA 2 mm j (by omega) (by omega), ← hμ1]; exact pu_t (by omega), fun mm j => by rw [hA 15 mm j (by omega) (by omega), ← hμ1]; exact pu_t (by omega), fun t mm j ht => by rw [hA t mm j (by omega) (by omega), ← hμ1]; exact pu_t (by omega)⟩
          have hts : ts μ (pu μk 6 0 (k * 192 + P) len) := htsk.tr (ts.pu (by omega) (by omega) (by omega) (by omega))
          refine Ax_call rfl (c_goes (ts_TI hts hT) hm hi (by omega) ?_)
          rw [ts_thr hts]
          have hD := (hT.thr_lt (i := i) (c := k) hm).1
          (repeat refine Ax_step rfl ?_)
          refine Ax_ald (thr μ m i k) rfl rfl hD ?_
          (repeat refine Ax_step rfl ?_)
          refine Ax_ast (thr μ m i k) rfl rfl hD ?_
          (repeat refine Ax_step rfl ?_)
          rw [nI_add]
          refine ih (k + 1) (by omega) _ (fun t mm j h6 h9 => ?_) (fun c p hc hp => ?_) (fun d c hd hc => ?_)
          · rw [pu_t h9, pu_t h6]; exact hA t mm j h6 h9
          · rw [pu_t (by omega)]
            by_cases hcp : c = k ∧ p = P
            · obtain ⟨rfl, rfl⟩ := hcp
              rw [pu_s, if_pos ⟨by omega, rfl, hbk⟩]
            · rw [pu_j (by omega), hB c p hc hp]
              have e : (c < k ∧ p = P ∧ bt an c = true) ↔ (c < k + 1 ∧ p = P ∧ bt an c = true) := by
                constructor
                · rintro ⟨h1, h2⟩; exact ⟨by omega, h2⟩
                · rintro ⟨h1, h2, h3⟩; exact ⟨by omega, h2, h3⟩
              by_cases h : c < k ∧ p = P ∧ bt an c = true
              · rw [if_pos h, if_pos (e.mp h)]
              · rw [if_neg h, if_neg (fun z => h (e.mpr z))]
          · by_cases hdd : d = thr μ m i k
            · subst hdd
              rw [pu_s, pu_t (by omega), b_or, hC _ c hd hc, bt_shl (by omega) hc]
              by_cases hck : c = k
              · subst hck; rw [hbk]; simp
              · rw [decide_eq_false hck, Bool.or_false, decide_eq_decide.mpr (show c < k ↔ c < k + 1 by omega)]
            · rw [pu_j hdd, pu_t (by omega), hC d c hd hc]
              by_cases hck : c = k
              · subst hck; rw [decide_eq_false (p := thr μ m i c = d) (fun z => hdd z.symm)]; simp
              · rw [decide_eq_decide.mpr (show c < k ↔ c < k + 1 by omega)]
    refine loop 10 0 (by omega) μ1 (fun _ _ _ _ _ => rfl) (fun c p hc hp => ?_) (fun d c hd hc => ?_)
    · rw [if_neg (by omega), ← hμ1]; exact pu_t (by omega)
    · rw [← hμ1, pu_t (by omega)]; simp
  · (repeat refine Ax_step rfl ?_)
    have h00 : an = 0 := Decidable.byContradiction h0
    have hz : ∀ c, c < 32 → (bt set c && !bt (μ 5 0 P) c) = false := fun c hc => by rw [← hbn c hc, h00, b_0]
    refine Ax_rV rfl ⟨rfl, hq μ ⟨fun t mm j _ _ _ => rfl, fun p _ => rfl, fun c hc => ?_, fun c p hc hp => ?_, fun d c hd hc => ?_⟩⟩
    · rw [hPe]
      have := hz c hc
      cases h1 : bt (μ 5 0 P) c <;> cases h2 : bt set c <;> simp_all
    · rw [hPe, if_neg]
      rintro ⟨-, h1, h2⟩
      have := hz c (by omega)
      rw [h1, h2] at this
      cases this
    · rw [hPe, hz c hc]; simp
def odP (μ μ' : PM) : Prop := (∀ t mm j, t ≠ 7 → t ≠ 8 → t ≠ 9 → μ' t mm j = μ t mm j) ∧ ∀ d, d < 40 → μ' 8 0 d = μ 9 0 d &&& (μ 7 0 d ^^^ (-1)) ∧ μ' 7 0 d = μ 7 0 d ||| μ' 8 0 d ∧ μ' 9 0 d = 0
theorem c_open {μ : PM} {Q : Option PV → PM → Prop} (hq : ∀ (μ' : PM) (b : Bool), odP μ μ' → (b = false ↔ ∀ d, d < 40 → μ' 8 0 d = 0) → Q (some (pI (bI b))) μ') : Cl 74 [pR 4 0] μ Q := by
  have loop : ∀ r k, k + r = 40 → ∀ (μk : PM) (an : Int32), (∀ t mm j, t ≠ 7 → t ≠ 8 → t ≠ 9 → μk t mm j = μ t mm j) → (∀ d, d < k → μk 8 0 d = μ 9 0 d &&& (μ 7 0 d ^^^ (-1)) ∧ μk 7 0 d = μ 7 0 d ||| μk 8 0 d ∧ μk 9 0 d = 0) → (∀ d, k ≤ d → μk 7 0 d = μ 7 0 d ∧ μk 9 0 d = μ 9 0 d) → (an = 0 ↔ ∀ d, d < k → μk 8 0 d = 0) →
      Ax 74 7 [some (pR 4 0), some (pI an), some (pI (nI k))] [pI (nI 40), pI (nI k)] μk (fun y r' μ1 => y = 0 ∧ Q r' μ1) := by
    intro r
    induction r with
    | zero =>
      intro k hk μk an hA hB hC hD
      refine Ax_br rfl (fun _ => ?_) (fun hb => absurd (nI_le (by omega) (by omega)) hb)
      (repeat refine Ax_step rfl ?_)
      have hod : odP μ μk := ⟨hA, fun d hd => hB d (by omega)⟩
      refine Ax_br rfl (fun hb => ?_) (fun hb => ?_)
      · (repeat refine Ax_step rfl ?_)
        exact Ax_rZ rfl (Or.inl rfl) ⟨rfl, hq μk false hod ⟨fun _ d hd => hD.mp hb d (by omega), fun _ => rfl⟩⟩
      · (repeat refine Ax_step rfl ?_)
        refine Ax_rZ rfl (Or.inr rfl) ⟨rfl, hq μk true hod ⟨fun z => (by cases z), fun z => absurd (hD.mpr (fun d hd => z d (by omega))) hb⟩⟩
    | succ r ih =>
      intro k hk μk an hA hB hC hD
      refine Ax_br rfl (fun hb => absurd hb (nI_ge (by omega) (by omega))) (fun _ => ?_)
      (repeat refine Ax_step rfl ?_)
      refine Ax_ald k rfl rfl (show k < 40 by omega) ?_
      (repeat refine Ax_step rfl ?_)
      refine Ax_ald k rfl rfl (show k < 40 by omega) ?_
      (repeat refine Ax_step rfl ?_)
      refine Ax_ast k rfl rfl (show k < 40 by omega) ?_
      (repeat refine Ax_step rfl ?_)
      refine Ax_ald k rfl rfl (show k < 40 by omega) ?_
      (repeat refine Ax_step rfl ?_)
      refine Ax_ald k rfl rfl (show k < 40 by omega) ?_
      (repeat refine Ax_step rfl ?_)
      refine Ax_ast k rfl rfl (show k < 40 by omega) ?_
      (repeat refine Ax_step rfl ?_)
      refine Ax_ast k rfl rfl (show k < 40 by omega) ?_
      (repeat refine Ax_step rfl ?_)
      refine Ax_ald k rfl rfl (show k < 40 by omega) ?_
      (repeat refine Ax_step rfl ?_)
      rw [nI_add]
      have e8 : μk 9 0 k &&& (μk 7 0 k ^^^ (-1)) = μ 9 0 k &&& (μ 7 0 k ^^^ (-1)) := by rw [(hC k (Nat.le_refl _)).1, (hC k (Nat.le_refl _)).2]
      refine ih (k + 1) (by omega) _ _ (fun t mm j h7 h8 h9 => ?_) (fun d hd => ?_) (fun d hd => ?_) ?_
      · rw [pu_t h9, pu_t h7, pu_t h8]; exact hA t mm j h7 h8 h9
      · by_cases hdk : d = k
        · subst hdk
          rw [pu_t (by omega), pu_t (by omega), pu_s, pu_t (by omega), pu_s, pu_t (by omega), pu_s]
          exact ⟨e8, by rw [(hC d (Nat.le_refl _)).1], rfl⟩
        · rw [pu_j hdk, pu_j hdk, pu_j hdk, pu_j hdk, pu_j hdk, pu_j hdk, pu_j hdk, pu_j hdk, pu_j hdk]
          exact hB d (by omega)
      · rw [pu_j (by omega), pu_j (by omega), pu_j (by omega), pu_j (by omega), pu_j (by omega), pu_j (by omega)]
        exact hC d (by omega)
      · constructor
        · intro h d hd
          have hor : ∀ c, c < 32 → bt an c = false ∧ bt (pu (pu (pu μk 8 0 k (μk 9 0 k &&& (μk 7 0 k ^^^ (-1)))) 7 0 k (pu μk 8 0 k (μk 9 0 k &&& (μk 7 0 k ^^^ (-1))) 7 0 k ||| pu μk 8 0 k (μk 9 0 k &&& (μk 7 0 k ^^^ (-1))) 8 0 k)) 9 0 k (nI 0) 8 0 k) c = false := by
            intro c hc
            have := bt_eq0.mp h c hc
            rw [b_or] at this
            simpa using this
          by_cases hdk : d = k
          · subst hdk; exact bt_eq0.mpr (fun c hc => (hor c hc).2)
          · rw [pu_j hdk, pu_j hdk, pu_j hdk]
            exact hD.mp (bt_eq0.mpr (fun c hc => (hor c hc).1)) d (by omega)
        · intro h
          have h1 := h k (by omega)
          have h2 : an = 0 := hD.mpr (fun d hd => by have := h d (by omega); rw [pu_j (by omega), pu_j (by omega), pu_j (by omega)] at this; exact this)
          rw [h2, h1]; decide
  refine Cl_in rfl ?_
  (repeat refine Ax_step rfl ?_)
  exact loop 40 0 (by omega) μ _ (fun _ _ _ _ _ _ => rfl) (fun d hd => by omega) (fun d _ => ⟨rfl, rfl⟩) ⟨fun _ d hd => by omega, fun _ => rfl⟩
