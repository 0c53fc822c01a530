/-! The text as numbers; what the flow's small methods answer. -/
def tn (x : Int32) : Nat := x.toNatClampNeg
def szm (μ : PM) (m : Nat) : Nat := tn (μ 40 m 3)
def hcm (μ : PM) (m : Nat) : Nat := tn (μ 40 m 8)
def kct (μ : PM) : Nat := tn (μ 2 0 1)
def mct (μ : PM) : Nat := tn (μ 1 0 2)
/-- an instruction as the document allows it, where there are K classes -/
def vI (K : Nat) (c a b : Int32) : Prop := ∃ k : Nat, c = nI k ∧ k < 10 ∧ ((k = 0 ∨ k = 8 ∨ k = 9) → ∃ x, x < 4 ∧ a = nI x) ∧ ((k = 1 ∨ k = 2 ∨ k = 3) → (∃ x, x < 4 ∧ a = nI x) ∧ ∃ y, y < 4 ∧ b = nI y) ∧ (k = 4 → ∃ x, x < 24 ∧ a = nI x) ∧ (k = 5 → (∃ x, x < 4 ∧ a = nI x) ∧ ∃ y, y < 24 ∧ b = nI y) ∧ (k = 6 → (∃ x, x < 4 ∧ a = nI x) ∧ ∃ y, y < 8 ∧ b = nI y) ∧ (k = 7 → ∃ x, x < K ∧ a = nI x)
def vH (K : Nat) (f l k t : Int32) : Prop := (∃ x, x < 24 ∧ f = nI x) ∧ (∃ x, x < 24 ∧ l = nI x) ∧ (∃ x, x < K ∧ k = nI x) ∧ ∃ x, x < 24 ∧ t = nI x
def TI (μ : PM) : Prop := (μ 2 0 1 = nI (kct μ) ∧ 3 ≤ kct μ ∧ kct μ ≤ 10) ∧ (μ 1 0 2 = nI (mct μ) ∧ mct μ ≤ 8) ∧
  (∀ m, m < 8 → (μ 40 m 3 = nI (szm μ m) ∧ szm μ m ≤ 24) ∧ (μ 40 m 8 = nI (hcm μ m) ∧ hcm μ m ≤ 4) ∧ (mct μ ≤ m → szm μ m = 0 ∧ hcm μ m = 0)) ∧
  (∀ m i, m < 8 → i < szm μ m → vI (kct μ) (μ 41 m i) (μ 42 m i) (μ 43 m i)) ∧ (∀ m h, m < 8 → h < hcm μ m → vH (kct μ) (μ 44 m h) (μ 45 m h) (μ 46 m h) (μ 47 m h))
theorem TI.k {μ : PM} (h : TI μ) : μ 2 0 1 = nI (kct μ) ∧ 3 ≤ kct μ ∧ kct μ ≤ 10 := h.1
theorem TI.m {μ : PM} (h : TI μ) : μ 1 0 2 = nI (mct μ) ∧ mct μ ≤ 8 := h.2.1
theorem TI.s {μ : PM} (h : TI μ) {m : Nat} (hm : m < 8) : μ 40 m 3 = nI (szm μ m) ∧ szm μ m ≤ 24 := (h.2.2.1 m hm).1
theorem TI.h {μ : PM} (h : TI μ) {m : Nat} (hm : m < 8) : μ 40 m 8 = nI (hcm μ m) ∧ hcm μ m ≤ 4 := (h.2.2.1 m hm).2.1
theorem TI.out {μ : PM} (h : TI μ) {m : Nat} (hm : m < 8) (hc : mct μ ≤ m) : szm μ m = 0 ∧ hcm μ m = 0 := (h.2.2.1 m hm).2.2 hc
theorem TI.i {μ : PM} (h : TI μ) {m i : Nat} (hm : m < 8) (hi : i < szm μ m) : vI (kct μ) (μ 41 m i) (μ 42 m i) (μ 43 m i) := h.2.2.2.1 m i hm hi
theorem TI.hd {μ : PM} (h : TI μ) {m i : Nat} (hm : m < 8) (hi : i < hcm μ m) : vH (kct μ) (μ 44 m i) (μ 45 m i) (μ 46 m i) (μ 47 m i) := h.2.2.2.2 m i hm hi
theorem TI.hk {μ : PM} (h : TI μ) {m : Nat} (hm : m < 8) : ∀ i, i < hcm μ m → ∃ k, k < 10 ∧ μ 46 m i = nI k := by
  intro i hi
  obtain ⟨-, -, ⟨x, hx, e⟩, -⟩ := h.hd hm hi
  exact ⟨x, by have := h.k.2.2; omega, e⟩
def opc (μ : PM) (m i : Nat) : Nat := tn (μ 41 m i)
def oa (μ : PM) (m i : Nat) : Nat := tn (μ 42 m i)
def ob (μ : PM) (m i : Nat) : Nat := tn (μ 43 m i)
def cat (μ : PM) (m i c : Nat) : Option Nat := catF (cp μ m (nI i) c) 0 (hcm μ m)
/-- the door through which class c goes that is raised at (m, i) -/
def thr (μ : PM) (m i c : Nat) : Nat := m * 5 + (cat μ m i c).getD 4
/-- the door whose classes (m, i) raises too -/
def src (μ : PM) (m i : Nat) : Option Nat := if opc μ m i = 6 then some (ob μ m i * 5 + 4) else if opc μ m i = 8 then some (m * 5 + oa μ m i) else none
def own (μ : PM) (m i c : Nat) : Bool := (decide (opc μ m i = 7) && decide (oa μ m i = c)) || (decide (opc μ m i = 3) && decide (c = 1)) || (decide (opc μ m i = 6) && decide (c = 2))
theorem catF_lt {p : Nat → Bool} : ∀ (r h k : Nat), catF p h r = some k → h ≤ k ∧ k < h + r ∧ p k = true ∧ ∀ j, h ≤ j → j < k → p j = false
  | 0, _, _, e => by cases e
  | r + 1, h, k, e => by
    unfold catF at e
    by_cases hp : p h = true
    · rw [if_pos hp] at e; cases e
      exact ⟨Nat.le_refl _, by omega, hp, fun j h1 h2 => by omega⟩
    · rw [if_neg hp] at e
      obtain ⟨h1, h2, h3, h4⟩ := catF_lt r (h + 1) k e
      refine ⟨by omega, by omega, h3, fun j g1 g2 => ?_⟩
      by_cases hj : j = h
      · subst hj; simpa using hp
      · exact h4 j (by omega) g2
theorem TI.cat_lt {μ : PM} (h : TI μ) {m i c k : Nat} (hm : m < 8) (e : cat μ m i c = some k) : k < 4 := by
  have := catF_lt _ _ _ e
  have := (h.h hm).2
  omega
theorem TI.thr_lt {μ : PM} (h : TI μ) {m i c : Nat} (hm : m < 8) : thr μ m i c < 40 ∧ thr μ m i c / 5 = m := by
  unfold thr
  cases e : cat μ m i c with
  | none => show m * 5 + 4 < 40 ∧ (m * 5 + 4) / 5 = m; omega
  | some k => have := h.cat_lt hm e; show m * 5 + k < 40 ∧ (m * 5 + k) / 5 = m; omega
section P11
variable {μ : PM} {m i c : Nat} {Q : Option PV → PM → Prop}
theorem c_goes (hT : TI μ) (hm : m < 8) (hi : i < 24) (hc : c < 32) (hq : Q (some (pI (nI (thr μ m i c)))) μ) : Cl 68 [pR 4 0, pI (nI m), pI (nI i), pI (nI c)] μ Q := by
  refine Cl_in rfl ?_
  (repeat refine Ax_step rfl ?_)
  refine Ax_aal m rfl rfl hm ?_
  (repeat refine Ax_step rfl ?_)
  refine Ax_call rfl (c_catcher (hT.h hm).1 (hT.h hm).2 (hT.hk hm) hc ?_)
  (repeat refine Ax_step rfl ?_)
  unfold thr at hq
  change Q (some (pI (nI (m * 5 + (catF (cp μ m (nI i) c) 0 (hcm μ m)).getD 4)))) μ at hq
  cases e : catF (cp μ m (nI i) c) 0 (hcm μ m) with
  | none =>
    rw [e] at hq
    refine Ax_br rfl (fun hb => absurd rfl hb) (fun _ => ?_)
    (repeat refine Ax_step rfl ?_)
    refine Ax_call rfl (Cl_in rfl ?_)
    (repeat refine Ax_step rfl ?_)
    rw [pk_mul, nI_add]
    refine Ax_rI rfl ⟨rfl, ?_⟩
    (repeat refine Ax_step rfl ?_)
    exact Ax_rI rfl ⟨rfl, hq⟩
  | some k =>
    rw [e] at hq
    have hk : k < 4 := hT.cat_lt hm e
    refine Ax_br rfl (fun _ => ?_) (fun hb => absurd (fun z => ?_) hb)
    · (repeat refine Ax_step rfl ?_)
      refine Ax_call rfl (Cl_in rfl ?_)
      (repeat refine Ax_step rfl ?_)
      show Ax 59 5 _ [pI (nI m * nI 5 + nI k)] _ _
      rw [pk_mul, nI_add]
      refine Ax_rI rfl ⟨rfl, ?_⟩
      (repeat refine Ax_step rfl ?_)
      exact Ax_rI rfl ⟨rfl, hq⟩
    · have : (nI k).toInt = -1 := congrArg Int32.toInt z
      rw [nI_toInt (by omega)] at this
      omega
theorem c_lengthAt (hm : m < 8) (hi : i < 24) (hc : c < 10) (hq : Q (some (pI (if bt (μ 5 0 (m * 24 + i)) c then μ 6 0 (c * 192 + (m * 24 + i)) else 0))) μ) : Cl 67 [pR 4 0, pI (nI m), pI (nI i), pI (nI c)] μ Q := by
  refine Cl_in rfl ?_
  (repeat refine Ax_step rfl ?_)
  refine Ax_call rfl (Cl_in rfl ?_)
  (repeat refine Ax_step rfl ?_)
  rw [pk_mul, nI_add]
  refine Ax_rI rfl ⟨rfl, ?_⟩
  (repeat refine Ax_step rfl ?_)
  refine Ax_ald (m * 24 + i) rfl rfl (show m * 24 + i < 192 by omega) ?_
  (repeat refine Ax_step rfl ?_)
  refine Ax_br rfl (fun hb => ?_) (fun hb => ?_)
  · rw [(shr_1 _ (by omega)).mp hb] at hq
    (repeat refine Ax_step rfl ?_)
    refine Ax_br rfl (fun _ => ?_) (fun hb => absurd rfl hb)
    (repeat refine Ax_step rfl ?_)
    exact Ax_rI rfl ⟨rfl, hq⟩
  · rw [show bt (μ 5 0 (m * 24 + i)) c = true by cases hz : bt (μ 5 0 (m * 24 + i)) c with | true => rfl | false => exact absurd ((shr_1 _ (by omega)).mpr hz) hb] at hq
    (repeat refine Ax_step rfl ?_)
    refine Ax_br rfl (fun hb => absurd hb (by decide)) (fun _ => ?_)
    (repeat refine Ax_step rfl ?_)
    refine Ax_ald (c * 192 + (m * 24 + i)) rfl (by rw [pk_mul, nI_add]) (show c * 192 + (m * 24 + i) < 1920 by omega) ?_
    (repeat refine Ax_step rfl ?_)
    exact Ax_rI rfl ⟨rfl, hq⟩
theorem psw_at {l : List (Nat × Nat)} {d k : Nat} {x : Int32} (hx : x = nI k) (hk : k < 1000) (hl : l.all (fun p => decide (p.1 < 1000)) = true) : psw l d x = match l.find? (fun p => p.1 == k) with | some p => p.2 | none => d := by
  subst hx
  induction l with
  | nil => rfl
  | cons p l ih =>
    obtain ⟨a, t⟩ := p
    simp only [List.all_cons, Bool.and_eq_true, decide_eq_true_eq] at hl
    show (if nI k = nI a then t else psw l d (nI k)) = _
    by_cases h : k = a
    · subst h; simp [List.find?]
    · rw [if_neg (fun z => h ((nI_eq (by omega) (by omega)).mp z)), ih hl.2, List.find?_cons_of_neg (by simpa using fun z => h z.symm)]
theorem c_source (hT : TI μ) (hm : m < 8) (hi : i < szm μ m) (hq : Q (some (pI (ctI (src μ m i)))) μ) : Cl 69 [pR 4 0, pI (nI m), pI (nI i)] μ Q := by
  have hi24 : i < 24 := by have := (hT.s hm).2; omega
  obtain ⟨k, hc, hk, h0, h1, h4, h5, h6, h7⟩ := hT.i hm hi
  have hk2 : opc μ m i = k := nI_self hc (by omega)
  unfold src at hq
  rw [hk2] at hq
  refine Cl_in rfl ?_
  (repeat refine Ax_step rfl ?_)
  refine Ax_aal m rfl rfl hm ?_
  (repeat refine Ax_step rfl ?_)
  refine Ax_ald i rfl rfl hi24 ?_
  refine Ax_sw rfl ?_
  rw [psw_at hc (by omega) rfl]
  by_cases e6 : k = 6
  · subst e6
    obtain ⟨-, y, hy, e⟩ := h6 rfl
    rw [if_pos rfl, show ob μ m i = y from nI_self e (by omega)] at hq
    show Ax 69 44 _ _ _ _
    (repeat refine Ax_step rfl ?_)
    refine Ax_ald i rfl rfl hi24 ?_
    rw [e]
    refine Ax_call rfl (Cl_in rfl ?_)
    (repeat refine Ax_step rfl ?_)
    rw [pk_mul, nI_add]
    refine Ax_rI rfl ⟨rfl, ?_⟩
    exact Ax_rI rfl ⟨rfl, hq⟩
  · rw [if_neg e6] at hq
    by_cases e8 : k = 8
    · subst e8
      obtain ⟨y, hy, e⟩ := h0 (Or.inr (Or.inl rfl))
      rw [if_pos rfl, show oa μ m i = y from nI_self e (by omega)] at hq
      show Ax 69 54 _ _ _ _
      (repeat refine Ax_step rfl ?_)
      refine Ax_ald i rfl rfl hi24 ?_
      rw [e]
      refine Ax_call rfl (Cl_in rfl ?_)
      (repeat refine Ax_step rfl ?_)
      rw [pk_mul, nI_add]
      refine Ax_rI rfl ⟨rfl, ?_⟩
      exact Ax_rI rfl ⟨rfl, hq⟩
    · rw [if_neg e8] at hq
      have e : (match ([(6, 44), (8, 54)] : List (Nat × Nat)).find? (fun p => p.1 == k) with | some p => p.2 | none => 65) = 65 := by
        rw [List.find?_cons_of_neg (by simpa using fun z => e6 z.symm), List.find?_cons_of_neg (by simpa using fun z => e8 z.symm)]; rfl
      have e2 : pswt 2 = [(6, 44), (8, 54)] := rfl
      first
        | (show Ax 69 (match ([(6, 44), (8, 54)] : List (Nat × Nat)).find? (fun p => p.1 == k) with | some p => p.2 | none => 65) _ _ _ _; rw [e])
      (repeat refine Ax_step rfl ?_)
      exact Ax_rI rfl ⟨rfl, hq⟩
theorem c_own (hT : TI μ) (hm : m < 8) (hi : i < szm μ m) (hq : ∀ x : Int32, (∀ c, c < 32 → bt x c = own μ m i c) → Q (some (pI x)) μ) : Cl 70 [pR 4 0, pI (nI m), pI (nI i)] μ Q := by
  have hi24 : i < 24 := by have := (hT.s hm).2; omega
  obtain ⟨k, hc, hk, h0, h1, h4, h5, h6, h7⟩ := hT.i hm hi
  have hk2 : opc μ m i = k := nI_self hc (by omega)
  refine Cl_in rfl ?_
  (repeat refine Ax_step rfl ?_)
  refine Ax_aal m rfl rfl hm ?_
  (repeat refine Ax_step rfl ?_)
  refine Ax_ald i rfl rfl hi24 ?_
  refine Ax_sw rfl ?_
  rw [psw_at hc (by omega) rfl]
  have hq' : ∀ x : Int32, (∀ c, c < 32 → bt x c = ((decide (k = 7) && decide (oa μ m i = c)) || (decide (k = 3) && decide (c = 1)) || (decide (k = 6) && decide (c = 2)))) → Q (some (pI x)) μ := by
    intro x hx
    refine hq x (fun c h => ?_)
    unfold own
    rw [hk2]
    exact hx c h
  have bt2 : ∀ i, i < 32 → bt (nI 2) i = decide (i = 1) := by decide +kernel
  have bt4 : ∀ i, i < 32 → bt (nI 4) i = decide (i = 2) := by decide +kernel
  match k, hk with
  | 7, _ =>
    obtain ⟨y, hy, e⟩ := h7 rfl
    have hy2 : y < 10 := by have := hT.k.2.2; omega
    show Ax 70 52 _ _ _ _
    (repeat refine Ax_step rfl ?_)
    refine Ax_ald i rfl rfl hi24 ?_
    rw [e]
    (repeat refine Ax_step rfl ?_)
    refine Ax_rI rfl ⟨rfl, hq' _ (fun c h => ?_)⟩
    rw [bt_shl (by omega) h, show oa μ m i = y from nI_self e (by omega)]
    simp [eq_comm]
  | 3, _ =>
    show Ax 70 61 _ _ _ _
    (repeat refine Ax_step rfl ?_)
    exact Ax_rI rfl ⟨rfl, hq' _ (fun c h => by rw [bt2 c h]; simp)⟩
  | 6, _ =>
    show Ax 70 63 _ _ _ _
    (repeat refine Ax_step rfl ?_)
    exact Ax_rI rfl ⟨rfl, hq' _ (fun c h => by rw [bt4 c h]; simp)⟩
  | 0, _ => show Ax 70 65 _ _ _ _; (repeat refine Ax_step rfl ?_); exact Ax_rI rfl ⟨rfl, hq' _ (fun c h => by rw [nI_0, b_0]; simp)⟩
  | 1, _ => show Ax 70 65 _ _ _ _; (repeat refine Ax_step rfl ?_); exact Ax_rI rfl ⟨rfl, hq' _ (fun c h => by rw [nI_0, b_0]; simp)⟩
  | 2, _ => show Ax 70 65 _ _ _ _; (repeat refine Ax_step rfl ?_); exact Ax_rI rfl ⟨rfl, hq' _ (fun c h => by rw [nI_0, b_0]; simp)⟩
  | 4, _ => show Ax 70 65 _ _ _ _; (repeat refine Ax_step rfl ?_); exact Ax_rI rfl ⟨rfl, hq' _ (fun c h => by rw [nI_0, b_0]; simp)⟩
  | 5, _ => show Ax 70 65 _ _ _ _; (repeat refine Ax_step rfl ?_); exact Ax_rI rfl ⟨rfl, hq' _ (fun c h => by rw [nI_0, b_0]; simp)⟩
  | 8, _ => show Ax 70 65 _ _ _ _; (repeat refine Ax_step rfl ?_); exact Ax_rI rfl ⟨rfl, hq' _ (fun c h => by rw [nI_0, b_0]; simp)⟩
  | 9, _ => show Ax 70 65 _ _ _ _; (repeat refine Ax_step rfl ?_); exact Ax_rI rfl ⟨rfl, hq' _ (fun c h => by rw [nI_0, b_0]; simp)⟩
  | n + 10, h => omega
end P11
