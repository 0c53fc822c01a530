/-! ===== Int32 by its bits: bt x i ===== -/
def bt (x : Int32) (i : Nat) : Bool := x.toBitVec.getLsbD i
theorem b_ext {x y : Int32} (h : ∀ i, i < 32 → bt x i = bt y i) : x = y := Int32.toBitVec_inj.mp (BitVec.eq_of_getLsbD_eq (fun i hi => h i hi))
theorem b_or (x y : Int32) (i : Nat) : bt (x ||| y) i = (bt x i || bt y i) := by unfold bt; rw [Int32.toBitVec_or, BitVec.getLsbD_or]
theorem b_and (x y : Int32) (i : Nat) : bt (x &&& y) i = (bt x i && bt y i) := by unfold bt; rw [Int32.toBitVec_and, BitVec.getLsbD_and]
theorem b_xor (x y : Int32) (i : Nat) : bt (x ^^^ y) i = (bt x i ^^ bt y i) := by unfold bt; rw [Int32.toBitVec_xor, BitVec.getLsbD_xor]
theorem b_big {x : Int32} {i : Nat} (h : 32 ≤ i) : bt x i = false := BitVec.getLsbD_of_ge _ _ h
theorem b_255 (i : Nat) : bt 255 i = decide (i < 8) := by
  rcases Nat.lt_or_ge i 32 with h | h
  · exact (by decide +kernel : ∀ i, i < 32 → bt 255 i = decide (i < 8)) i h
  · rw [b_big h, decide_eq_false (by omega)]
theorem b_65535 (i : Nat) : bt 65535 i = decide (i < 16) := by
  rcases Nat.lt_or_ge i 32 with h | h
  · exact (by decide +kernel : ∀ i, i < 32 → bt 65535 i = decide (i < 16)) i h
  · rw [b_big h, decide_eq_false (by omega)]
theorem b_m1 : ∀ i, i < 32 → bt (-1) i = true := by decide +kernel
theorem b_0 (i : Nat) : bt 0 i = false := BitVec.getLsbD_zero
theorem s_l : ∀ n, n < 32 → ((nI n &&& 31).toBitVec.smod 32).toNat = n := by decide +kernel
theorem s_u : ∀ n, n < 32 → (((nI n).toUInt32 &&& Int32.toUInt32 31).toBitVec % 32).toNat = n := by decide +kernel
theorem b_shl (n : Nat) (hn : n < 32) (x : Int32) {i : Nat} (hi : i < 32) : bt (x <<< (nI n &&& 31)) i = (decide (n ≤ i) && bt x (i - n)) := by
  unfold bt
  rw [Int32.toBitVec_shiftLeft]
  show (x.toBitVec <<< ((nI n &&& 31).toBitVec.smod 32).toNat).getLsbD i = _
  rw [s_l n hn, BitVec.getLsbD_shiftLeft]
  rcases Nat.lt_or_ge i n with h | h
  · simp [h, Nat.not_le.mpr h]
  · simp [hi, h, Nat.not_lt.mpr h]
theorem b_ushr (n : Nat) (hn : n < 32) (x : Int32) (i : Nat) : bt ((x.toUInt32 >>> ((nI n).toUInt32 &&& Int32.toUInt32 31)).toInt32) i = bt x (n + i) := by
  show (x.toUInt32 >>> ((nI n).toUInt32 &&& Int32.toUInt32 31)).toBitVec.getLsbD i = x.toUInt32.toBitVec.getLsbD (n + i)
  rw [UInt32.toBitVec_shiftRight]
  show (x.toUInt32.toBitVec >>> (((nI n).toUInt32 &&& Int32.toUInt32 31).toBitVec % 32).toNat).getLsbD i = _
  rw [s_u n hn, BitVec.getLsbD_ushiftRight]
theorem b_sshr (n : Nat) (hn : n < 32) (x : Int32) {i : Nat} (hi : i < 32) : bt (x >>> (nI n &&& 31)) i = if n + i < 32 then bt x (n + i) else bt x 31 := by
  unfold bt
  rw [Int32.toBitVec_shiftRight]
  show (x.toBitVec.sshiftRight ((nI n &&& 31).toBitVec.smod 32).toNat).getLsbD i = _
  rw [s_l n hn, BitVec.getLsbD_sshiftRight, BitVec.msb_eq_getLsbD_last]
  simp [hi]
theorem b_shl8 (x : Int32) {i : Nat} (hi : i < 32) : bt (x <<< ((8 : Int32) &&& 31)) i = (decide (8 ≤ i) && bt x (i - 8)) := b_shl 8 (by omega) x hi
theorem b_shl16 (x : Int32) {i : Nat} (hi : i < 32) : bt (x <<< ((16 : Int32) &&& 31)) i = (decide (16 ≤ i) && bt x (i - 16)) := b_shl 16 (by omega) x hi
theorem b_shl24 (x : Int32) {i : Nat} (hi : i < 32) : bt (x <<< ((24 : Int32) &&& 31)) i = (decide (24 ≤ i) && bt x (i - 24)) := b_shl 24 (by omega) x hi
theorem b_sshr8 (x : Int32) {i : Nat} (hi : i < 32) : bt (x >>> ((8 : Int32) &&& 31)) i = if 8 + i < 32 then bt x (8 + i) else bt x 31 := b_sshr 8 (by omega) x hi
/-! Bits of masks; the leaf methods. -/
theorem bt_1 : ∀ i, i < 32 → bt (nI 1) i = decide (i = 0) := by decide +kernel
theorem and_1 (y : Int32) : (y &&& nI 1 = 0) ↔ bt y 0 = false := by
  constructor
  · intro h
    have := congrArg (fun z => bt z 0) h
    simp only [b_and, b_0, bt_1 0 (by omega)] at this
    simpa using this
  · intro h
    apply b_ext
    intro i hi
    rw [b_and, b_0, bt_1 i hi]
    by_cases h0 : i = 0
    · subst h0; simp [h]
    · simp [h0]
theorem shr_1 (x : Int32) {a : Nat} (ha : a < 32) : ((x >>> (nI a &&& 31)) &&& nI 1 = 0) ↔ bt x a = false := by
  rw [and_1, b_sshr a ha x (by omega), Nat.add_zero, if_pos ha]
theorem bt_shl {k i : Nat} (hk : k < 32) (hi : i < 32) : bt (nI 1 <<< (nI k &&& 31)) i = decide (i = k) := by
  rw [b_shl k hk _ hi]
  by_cases h : k ≤ i
  · rw [bt_1 (i - k) (by omega)]
    simp only [h, decide_true, Bool.true_and, decide_eq_decide]
    omega
  · simp only [h, decide_false, Bool.false_and]
    exact (decide_eq_false (by omega)).symm
theorem bt_not (x : Int32) {i : Nat} (hi : i < 32) : bt (x ^^^ (-1)) i = !bt x i := by
  rw [b_xor, b_m1 i hi]
  cases bt x i <;> rfl
theorem bt_eq0 {x : Int32} : x = 0 ↔ ∀ i, i < 32 → bt x i = false := by
  constructor
  · rintro rfl i _; exact b_0 i
  · intro h; apply b_ext; intro i hi; rw [h i hi, b_0]
theorem c_has {μ : PM} {x : Int32} {Q : Option PV → PM → Prop} (h1 : 0 ≤ x → x < μ 2 0 1 → Q (some (pI 1)) μ) (h0 : ¬ (0 ≤ x ∧ x < μ 2 0 1) → Q (some (pI 0)) μ) : Cl 76 [pR 2 0, pI x] μ Q := by
  refine Cl_in rfl ?_
  (repeat refine Ax_step rfl ?_)
  refine Ax_br rfl (fun hb => ?_) (fun hb => ?_)
  · (repeat refine Ax_step rfl ?_)
    refine Ax_rZ rfl (Or.inl rfl) ⟨rfl, h0 (fun z => Int32.not_lt.mpr z.1 hb)⟩
  · (repeat refine Ax_step rfl ?_)
    refine Ax_br rfl (fun hb2 => ?_) (fun hb2 => ?_)
    · (repeat refine Ax_step rfl ?_)
      refine Ax_rZ rfl (Or.inl rfl) ⟨rfl, h0 (fun z => Int32.not_le.mpr z.2 hb2)⟩
    · (repeat refine Ax_step rfl ?_)
      exact Ax_rZ rfl (Or.inr rfl) ⟨rfl, h1 (Int32.not_lt.mp hb) (Int32.not_le.mp hb2)⟩
/-- a truth as the machine has it -/
def bI (b : Bool) : Int32 := if b then 1 else 0
theorem bI_01 (b : Bool) : bI b = 0 ∨ bI b = 1 := by cases b <;> decide
theorem bI_0 {b : Bool} : bI b = 0 ↔ b = false := by cases b <;> decide
theorem c_isOneOf {μ : PM} {a b : Nat} {Q : Option PV → PM → Prop} (ha : a < 32) (hb : b < 10) (h : Q (some (pI (bI (bt (μ 15 0 b) a)))) μ) : Cl 78 [pR 2 0, pI (nI a), pI (nI b)] μ Q := by
  refine Cl_in rfl ?_
  (repeat refine Ax_step rfl ?_)
  refine Ax_ald b rfl rfl hb ?_
  (repeat refine Ax_step rfl ?_)
  refine Ax_br rfl (fun hc => ?_) (fun hc => ?_)
  · rw [(shr_1 _ ha).mp hc] at h
    (repeat refine Ax_step rfl ?_)
    exact Ax_rZ rfl (Or.inl rfl) ⟨rfl, h⟩
  · rw [show bt (μ 15 0 b) a = true by cases hz : bt (μ 15 0 b) a with | true => rfl | false => exact absurd ((shr_1 _ ha).mpr hz) hc] at h
    (repeat refine Ax_step rfl ?_)
    exact Ax_rZ rfl (Or.inr rfl) ⟨rfl, h⟩
theorem c_covers {μ : PM} {m h : Nat} {x : Int32} {Q : Option PV → PM → Prop} (hh : h < 4) (hq : Q (some (pI (bI (decide (μ 44 m h ≤ x ∧ x ≤ μ 45 m h))))) μ) : Cl 57 [pR 40 m, pI (nI h), pI x] μ Q := by
  refine Cl_in rfl ?_
  (repeat refine Ax_step rfl ?_)
  refine Ax_ald h rfl rfl hh ?_
  (repeat refine Ax_step rfl ?_)
  refine Ax_br rfl (fun h1 => ?_) (fun h1 => ?_)
  · (repeat refine Ax_step rfl ?_)
    rw [decide_eq_false (fun z => Int32.not_lt.mpr z.1 h1)] at hq
    exact Ax_rZ rfl (Or.inl rfl) ⟨rfl, hq⟩
  · (repeat refine Ax_step rfl ?_)
    refine Ax_ald h rfl rfl hh ?_
    (repeat refine Ax_step rfl ?_)
    refine Ax_br rfl (fun h2 => ?_) (fun h2 => ?_)
    · (repeat refine Ax_step rfl ?_)
      rw [decide_eq_false (fun z => Int32.not_lt.mpr z.2 h2)] at hq
      exact Ax_rZ rfl (Or.inl rfl) ⟨rfl, hq⟩
    · (repeat refine Ax_step rfl ?_)
      rw [decide_eq_true ⟨Int32.not_lt.mp h1, Int32.not_lt.mp h2⟩] at hq
      exact Ax_rZ rfl (Or.inr rfl) ⟨rfl, hq⟩
/-- the first of the r places from h on that p takes -/
def catF (p : Nat → Bool) : Nat → Nat → Option Nat
  | _, 0 => none
  | h, r + 1 => if p h then some h else catF p (h + 1) r
def ctI : Option Nat → Int32
  | some h => nI h
  | none => -1
/-- handler h of method m takes class c at place x -/
def cp (μ : PM) (m : Nat) (x : Int32) (c h : Nat) : Bool := decide (μ 44 m h ≤ x ∧ x ≤ μ 45 m h) && bt (μ 15 0 (μ 46 m h).toNatClampNeg) c
theorem nI_self {x : Int32} {k : Nat} (h : x = nI k) (hk : k < 2 ^ 31) : x.toNatClampNeg = k := by rw [h]; exact nI_clamp hk
theorem c_catcher {μ : PM} {m n c : Nat} {x : Int32} {Q : Option PV → PM → Prop} (hn : μ 40 m 8 = nI n) (hn4 : n ≤ 4) (hk : ∀ h, h < n → ∃ k, k < 10 ∧ μ 46 m h = nI k) (hc : c < 32) (hq : Q (some (pI (ctI (catF (cp μ m x c) 0 n)))) μ) : Cl 58 [pR 40 m, pI x, pI (nI c), pR 2 0] μ Q := by
  have loop : ∀ r h, h + r = n → Q (some (pI (ctI (catF (cp μ m x c) h r)))) μ → Ax 58 9 [some (pR 40 m), some (pI x), some (pI (nI c)), some (pR 2 0), some (pI (nI h))] [pI (μ 40 m 8), pI (nI h)] μ (fun y r' μ1 => y = 0 ∧ Q r' μ1) := by
    intro r
    induction r with
    | zero =>
      intro h hr hq
      rw [hn]
      refine Ax_br rfl (fun _ => ?_) (fun hb => absurd (nI_le (by omega) (by omega)) hb)
      (repeat refine Ax_step rfl ?_)
      exact Ax_rI rfl ⟨rfl, hq⟩
    | succ r ih =>
      intro h hr hq
      rw [hn]
      refine Ax_br rfl (fun hb => absurd hb (nI_ge (by omega) (by omega))) (fun _ => ?_)
      (repeat refine Ax_step rfl ?_)
      refine Ax_call rfl (c_covers (by omega) ?_)
      obtain ⟨k, hk10, hke⟩ := hk h (by omega)
      have hk2 := nI_self hke (by omega)
      have hp : cp μ m x c h = (decide (μ 44 m h ≤ x ∧ x ≤ μ 45 m h) && bt (μ 15 0 k) c) := by unfold cp; rw [hk2]
      have next : catF (cp μ m x c) h (r + 1) = catF (cp μ m x c) (h + 1) r → Ax 58 40 [some (pR 40 m), some (pI x), some (pI (nI c)), some (pR 2 0), some (pI (nI h))] [] μ (fun y r' μ1 => y = 0 ∧ Q r' μ1) := by
        intro e
        rw [e] at hq
        (repeat refine Ax_step rfl ?_)
        rw [nI_add]
        exact ih (h + 1) (by omega) hq
      refine Ax_br rfl (fun hb => ?_) (fun hb => ?_)
      · refine next ?_
        rw [catF, hp, bI_0.mp hb]; rfl
      · (repeat refine Ax_step rfl ?_)
        refine Ax_ald h rfl rfl (show h < 4 by omega) ?_
        rw [hke]
        refine Ax_call rfl (c_isOneOf hc hk10 ?_)
        refine Ax_br rfl (fun hb2 => ?_) (fun hb2 => ?_)
        · refine next ?_
          rw [catF, hp, bI_0.mp hb2]; simp
        · (repeat refine Ax_step rfl ?_)
          refine Ax_rI rfl ⟨rfl, ?_⟩
          have e1 : decide (μ 44 m h ≤ x ∧ x ≤ μ 45 m h) = true := by cases hz : decide (μ 44 m h ≤ x ∧ x ≤ μ 45 m h) with | true => rfl | false => exact absurd (bI_0.mpr hz) hb
          have e2 : bt (μ 15 0 k) c = true := by cases hz : bt (μ 15 0 k) c with | true => rfl | false => exact absurd (bI_0.mpr hz) hb2
          rw [catF, hp, e1, e2] at hq
          exact hq
  refine Cl_in rfl ?_
  (repeat refine Ax_step rfl ?_)
  exact loop n 0 (by omega) hq
