/-! The world when all is made, as the small machine has it. -/
def offT (t m : Nat) : Nat := if t = 0 then 0 else if t = 1 then 1 else if t = 2 then 2 else if t = 15 then 3 else if t = 3 then 4 else if 40 ≤ t then 5 + 8 * m + (t - 40) else if t ≤ 14 then 65 + t else if t ≤ 31 then 64 + t else 96
def qw (N0 b : Nat) : Nat → Nat → Nat := fun t m => if t = 39 then b else N0 + offT t m
def mu0 (L : Nat) (xs : Nat → Int32) : PM := fun t _ j => if t = 15 then memF j else if t = 17 then parF j else if t = 38 then nI L else if t = 39 then xs j else if t = 2 then (if j = 1 then 3 else 0) else if t = 4 then (if j = 1 then 1 else 0) else if t = 10 then (if j = 8 then -1 else 0) else if t = 16 then (if j = 1 then 3 else if j = 13 then 1 else if j = 21 then -1 else 0) else 0
theorem cn_in {t : Nat} (h : cn t < 95) : t < 48 ∧ t ≠ 32 ∧ t ≠ 33 ∧ t ≠ 35 ∧ t ≠ 36 ∧ t ≠ 37 ∧ t ≠ 38 ∧ t ≠ 39 := by
  have h48 : t < 48 := by
    rcases Nat.lt_or_ge t 48 with z | z
    · exact z
    · rw [show cn t = 99 from pgd_out z] at h; omega
  refine ⟨h48, ?_, ?_, ?_, ?_, ?_, ?_, ?_⟩ <;> (rintro rfl; exact absurd h (by decide))
theorem qw_ij {N0 b : Nat} : qij (qw N0 b) := by
  intro t m t' m' h h' e
  obtain ⟨h1, h2⟩ := h
  obtain ⟨h1', h2'⟩ := h'
  have c1 := cn_in h1
  have c2 := cn_in h1'
  unfold qw at e
  rw [if_neg (by omega), if_neg (by omega)] at e
  have e : offT t m = offT t' m' := by omega
  unfold offT at e
  repeat' split at e
  all_goals omega
theorem qw_ge {N0 b t m : Nat} (h : vld t m) : N0 ≤ qw N0 b t m := by
  have c1 := cn_in h.1
  unfold qw
  rw [if_neg (by omega)]
  omega
theorem mu0_rel {L : Nat} {xs : Nat → Int32} : Rel L (mu0 L xs) := by
  have k3 : kct (mu0 L xs) = 3 := rfl
  have m0 : mct (mu0 L xs) = 0 := rfl
  have s0 : ∀ m, szm (mu0 L xs) m = 0 := fun _ => rfl
  have h0 : ∀ m, hcm (mu0 L xs) m = 0 := fun _ => rfl
  have e15 : ∀ j, mu0 L xs 15 0 j = memF j := fun _ => rfl
  have b3 : ∀ b, b < 3 → ∀ c, c < 32 → 3 ≤ c → bt (memF b) c = false := by decide +kernel
  have b0 : ∀ b, b < 3 → bt (memF b) 0 = decide (b = 0) := by decide +kernel
  have bc : ∀ c, c < 3 → 0 < c → ∀ b, b < 3 → bt (memF b) c = (decide (c = b) || bt (memF b) 0) := by decide +kernel
  refine ⟨⟨⟨rfl, by rw [k3]; omega, by rw [k3]; omega⟩, ⟨rfl, by rw [m0]; omega⟩, fun m hm => ⟨⟨rfl, by rw [s0]; omega⟩, ⟨rfl, by rw [h0]; omega⟩, fun _ => ⟨s0 m, h0 m⟩⟩, fun m i hm hi => by rw [s0] at hi; omega, fun m i hm hi => by rw [h0] at hi; omega⟩, ?_, ⟨rfl, rfl, fun m hm => ⟨rfl, rfl⟩, fun m i hm hi => ⟨rfl, rfl, rfl⟩, fun m i hm hi => ⟨rfl, rfl, rfl, rfl⟩, fun b hb => ?_, rfl, fun c hc hk => ?_⟩, fun z => absurd (show (1 : Int32) = 0 from z) (by decide), fun z => absurd (show (1 : Int32) = 0 from z) (by decide), rfl, rfl, rfl⟩
  · intro b c hb hk hc
    rw [k3] at hb hk
    rw [e15]; exact b3 b hb c hc hk
  · rw [k3] at hb
    rw [e15]; exact b0 b hb
  · rw [k3] at hk
    refine ⟨0, hc, ?_, fun b hb => ?_⟩
    · have : ∀ c, c < 3 → 0 < c → parF c = nI 0 := by decide +kernel
      exact this c hk hc
    · rw [k3] at hb
      rw [e15]; exact bc c hk hc b hb
set_option maxHeartbeats 4000000 in
set_option maxRecDepth 100000 in
theorem mu0_wd {D : va_G} {N0 b L : Nat} {ca : Nat → ClassId} {xs : Nat → Int32} {H : Heap} (hp : pw D N0 (Gw N0 ca) H) : wd D (qw N0 b) ca (mu0 L xs) H := by
  intro t m hv
  obtain ⟨h1, h2⟩ := hv
  have c1 := cn_in h1
  have lo : ∀ k, k < 40 → t = k → k ≠ 38 → k ≠ 39 → Gw N0 ca (offT k 0) = some (ent (qw N0 b) ca (mu0 L xs) k 0) → va_at D vwCl (qw N0 b t m, ent (qw N0 b) ca (mu0 L xs) t m) H := by
    rintro k hk rfl n1 n2 he
    have hm : m = 0 := by omega
    subst hm
    have := hp _ _ he
    unfold qw
    rw [if_neg n2]
    exact this
  have hi : ∀ k, 40 ≤ k → k < 48 → t = k → Gw N0 ca (5 + 8 * m + (k - 40)) = some (ent (qw N0 b) ca (mu0 L xs) k m) → va_at D vwCl (qw N0 b t m, ent (qw N0 b) ca (mu0 L xs) t m) H := by
    rintro k hk hk2 rfl he
    have := hp _ _ he
    have e : qw N0 b t m = N0 + (5 + 8 * m + (t - 40)) := by
      unfold qw offT
      rw [if_neg (by omega), if_neg (by omega), if_neg (by omega), if_neg (by omega), if_neg (by omega), if_neg (by omega), if_pos hk]
    rw [e]
    exact this
  have hm8 : 40 ≤ t → m < 8 := fun z => by omega
  match t, c1 with
  | 0, _ => exact lo 0 (by decide) rfl (by decide) (by decide) rfl
  | 1, _ => exact lo 1 (by decide) rfl (by decide) (by decide) rfl
  | 2, _ => exact lo 2 (by decide) rfl (by decide) (by decide) rfl
  | 3, _ => exact lo 3 (by decide) rfl (by decide) (by decide) rfl
  | 4, _ => exact lo 4 (by decide) rfl (by decide) (by decide) rfl
  | 5, _ => exact lo 5 (by decide) rfl (by decide) (by decide) rfl
  | 6, _ => exact lo 6 (by decide) rfl (by decide) (by decide) rfl
  | 7, _ => exact lo 7 (by decide) rfl (by decide) (by decide) rfl
  | 8, _ => exact lo 8 (by decide) rfl (by decide) (by decide) rfl
  | 9, _ => exact lo 9 (by decide) rfl (by decide) (by decide) rfl
  | 10, _ => exact lo 10 (by decide) rfl (by decide) (by decide) rfl
  | 11, _ => exact lo 11 (by decide) rfl (by decide) (by decide) rfl
  | 12, _ => exact lo 12 (by decide) rfl (by decide) (by decide) rfl
  | 13, _ => exact lo 13 (by decide) rfl (by decide) (by decide) rfl
  | 14, _ => exact lo 14 (by decide) rfl (by decide) (by decide) rfl
  | 15, _ => exact lo 15 (by decide) rfl (by decide) (by decide) rfl
  | 16, _ => exact lo 16 (by decide) rfl (by decide) (by decide) rfl
  | 17, _ => exact lo 17 (by decide) rfl (by decide) (by decide) rfl
  | 18, _ => exact lo 18 (by decide) rfl (by decide) (by decide) rfl
  | 19, _ => exact lo 19 (by decide) rfl (by decide) (by decide) rfl
  | 20, _ => exact lo 20 (by decide) rfl (by decide) (by decide) rfl
  | 21, _ => exact lo 21 (by decide) rfl (by decide) (by decide) rfl
  | 22, _ => exact lo 22 (by decide) rfl (by decide) (by decide) rfl
  | 23, _ => exact lo 23 (by decide) rfl (by decide) (by decide) rfl
  | 24, _ => exact lo 24 (by decide) rfl (by decide) (by decide) rfl
  | 25, _ => exact lo 25 (by decide) rfl (by decide) (by decide) rfl
  | 26, _ => exact lo 26 (by decide) rfl (by decide) (by decide) rfl
  | 27, _ => exact lo 27 (by decide) rfl (by decide) (by decide) rfl
  | 28, _ => exact lo 28 (by decide) rfl (by decide) (by decide) rfl
  | 29, _ => exact lo 29 (by decide) rfl (by decide) (by decide) rfl
  | 30, _ => exact lo 30 (by decide) rfl (by decide) (by decide) rfl
  | 31, _ => exact lo 31 (by decide) rfl (by decide) (by decide) rfl
  | 32, c1 => exact absurd c1 (by decide)
  | 33, c1 => exact absurd c1 (by decide)
  | 34, _ => exact lo 34 (by decide) rfl (by decide) (by decide) rfl
  | 35, c1 => exact absurd c1 (by decide)
  | 36, c1 => exact absurd c1 (by decide)
  | 37, c1 => exact absurd c1 (by decide)
  | 38, c1 => exact absurd c1 (by decide)
  | 39, c1 => exact absurd c1 (by decide)
  | 40, _ => exact hi 40 (by decide) (by decide) rfl (Gw_body (hm8 (by decide)) (by decide))
  | 41, _ => exact hi 41 (by decide) (by decide) rfl (Gw_body (hm8 (by decide)) (by decide))
  | 42, _ => exact hi 42 (by decide) (by decide) rfl (Gw_body (hm8 (by decide)) (by decide))
  | 43, _ => exact hi 43 (by decide) (by decide) rfl (Gw_body (hm8 (by decide)) (by decide))
  | 44, _ => exact hi 44 (by decide) (by decide) rfl (Gw_body (hm8 (by decide)) (by decide))
  | 45, _ => exact hi 45 (by decide) (by decide) rfl (Gw_body (hm8 (by decide)) (by decide))
  | 46, _ => exact hi 46 (by decide) (by decide) rfl (Gw_body (hm8 (by decide)) (by decide))
  | 47, _ => exact hi 47 (by decide) (by decide) rfl (Gw_body (hm8 (by decide)) (by decide))
  | n + 48, c1 => exact absurd c1.1 (by omega)
