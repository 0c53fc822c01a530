/-! The machine as the document has it: frames, and what each instruction does. -/
abbrev FR : Type := Nat × Nat × (Nat → Int32) × (Nat → Int32)
/-- how a run ends: with a number, or with a class that comes out -/
abbrev RS : Type := Option (Int32 ⊕ Nat)
/-- the top method gives v -/
def gvS (μ : PM) (v : Int32) : List FR → List FR × RS
  | [] => ([], none)
  | [_] => ([], some (.inl v))
  | _ :: (m, p, rg, cg) :: r => ((m, p + 1, upd rg (oa μ m p) v, cg) :: r, none)
/-- class c is thrown -/
def thS (μ : PM) (c : Nat) : List FR → List FR × RS
  | [] => ([], some (.inr c))
  | (m, p, rg, cg) :: r => match cat μ m p c with
    | some h => ((m, tn (μ 47 m h), rg, upd cg h (nI c)) :: r, none)
    | none => thS μ c r
def stS (μ : PM) : List FR → List FR × RS
  | [] => ([], none)
  | (m, p, rg, cg) :: r =>
    let a := oa μ m p
    let b := ob μ m p
    match opc μ m p with
    | 0 => ((m, p + 1, upd rg a (μ 43 m p), cg) :: r, none)
    | 1 => ((m, p + 1, upd rg a (rg a + rg b), cg) :: r, none)
    | 2 => ((m, p + 1, upd rg a (rg a - rg b), cg) :: r, none)
    | 3 => if rg b = 0 then thS μ 1 ((m, p, rg, cg) :: r) else ((m, p + 1, upd rg a (rg a / rg b), cg) :: r, none)
    | 4 => ((m, a, rg, cg) :: r, none)
    | 5 => ((m, if rg a = 0 then b else p + 1, rg, cg) :: r, none)
    | 6 => if r.length + 1 = 12 then thS μ 2 ((m, p, rg, cg) :: r) else if b < mct μ then ((b, 0, fun j => if j = 0 then rg a else 0, fun _ => -1) :: (m, p, rg, cg) :: r, none) else ((m, p + 1, upd rg a 0, cg) :: r, none)
    | 7 => thS μ a ((m, p, rg, cg) :: r)
    | 8 => if cg a = -1 then ((m, p + 1, rg, cg) :: r, none) else thS μ (tn (cg a)) ((m, p, rg, cg) :: r)
    | _ => gvS μ (rg a) ((m, p, rg, cg) :: r)
/-- methods at their ends give: n is as much as there are frames -/
def enS (μ : PM) : Nat → List FR × RS → List FR × RS
  | 0, S => S
  | n + 1, S => match S.1 with
    | [] => S
    | (m, p, rg, cg) :: r => if szm μ m ≤ p then enS μ n (gvS μ (rg 0) ((m, p, rg, cg) :: r)) else S
def ruS (μ : PM) : Nat → List FR × RS → (List FR × RS) × Nat
  | 0, S => (S, 0)
  | n + 1, S => match S.1 with
    | [] => (S, n + 1)
    | _ :: _ => ruS μ n (enS μ 12 (stS μ S.1))
/-- frames as they must be: below the top they stand at a CALL -/
def fok (μ : PM) (f : FR) : Prop := f.1 < mct μ ∧ f.2.1 ≤ 24 ∧ ∀ j, j < 4 → f.2.2.2 j = -1 ∨ ∃ c, c < kct μ ∧ f.2.2.2 j = nI c
def atC (μ : PM) (f : FR) : Prop := f.2.1 < szm μ f.1 ∧ opc μ f.1 f.2.1 = 6
def sok (μ : PM) : List FR → Prop
  | [] => True
  | f :: r => fok μ f ∧ (∀ g ∈ r, fok μ g ∧ atC μ g)
def wok (μ : PM) (S : List FR × RS) : Prop := sok μ S.1 ∧ S.1.length ≤ 12 ∧ (S.1 = [] ↔ S.2 ≠ none) ∧ ∀ c, S.2 = some (.inr c) → c < kct μ
/-- the frames in rows t .. t + 3 -/
def rpF (t : Nat) (μ : PM) : List FR → Prop
  | [] => True
  | (m, p, rg, cg) :: r => μ t 0 r.length = nI m ∧ μ (t + 1) 0 r.length = nI p ∧ (∀ j, j < 4 → μ (t + 2) 0 (r.length * 4 + j) = rg j) ∧ (∀ j, j < 4 → μ (t + 3) 0 (r.length * 4 + j) = cg j) ∧ rpF t μ r
theorem rpF_keep {t : Nat} {μ μ' : PM} : ∀ (r : List FR), (∀ j, j < r.length → μ' t 0 j = μ t 0 j ∧ μ' (t + 1) 0 j = μ (t + 1) 0 j) → (∀ j, j < r.length * 4 → μ' (t + 2) 0 j = μ (t + 2) 0 j ∧ μ' (t + 3) 0 j = μ (t + 3) 0 j) → rpF t μ r → rpF t μ' r
  | [], _, _, _ => trivial
  | (m, p, rg, cg) :: r, h1, h2, h => by
    obtain ⟨g1, g2, g3, g4, g5⟩ := h
    have hl : ((m, p, rg, cg) :: r : List FR).length = r.length + 1 := rfl
    rw [hl] at h1 h2
    refine ⟨by rw [(h1 _ (by omega)).1]; exact g1, by rw [(h1 _ (by omega)).2]; exact g2, fun j hj => by rw [(h2 _ (by omega)).1]; exact g3 j hj, fun j hj => by rw [(h2 _ (by omega)).2]; exact g4 j hj, rpF_keep r (fun j hj => h1 j (by omega)) (fun j hj => h2 j (by omega)) g5⟩
theorem rpF_same {t : Nat} {μ μ' : PM} {r : List FR} (h0 : ∀ j, μ' t 0 j = μ t 0 j) (h1 : ∀ j, μ' (t + 1) 0 j = μ (t + 1) 0 j) (h2 : ∀ j, μ' (t + 2) 0 j = μ (t + 2) 0 j) (h3 : ∀ j, μ' (t + 3) 0 j = μ (t + 3) 0 j) (h : rpF t μ r) : rpF t μ' r :=
  rpF_keep r (fun j _ => ⟨h0 j, h1 j⟩) (fun j _ => ⟨h2 j, h3 j⟩) h
theorem upd_s {f : Nat → Int32} {k : Nat} {x : Int32} : upd f k x k = x := if_pos rfl
theorem upd_n {f : Nat → Int32} {k j : Nat} {x : Int32} (h : j ≠ k) : upd f k x j = f j := if_neg h
section TSM
variable {μ μ' : PM} (h : ts μ μ')
theorem ts_gvS {μ μ' : PM} (h : ts μ μ') (v : Int32) (S : List FR) : gvS μ' v S = gvS μ v S := by
  match S with
  | [] => rfl
  | [_] => rfl
  | _ :: (m, p, rg, cg) :: r => show ((m, p + 1, upd rg (oa μ' m p) v, cg) :: r, none) = _; rw [ts_oa h]; rfl
theorem ts_thS {μ μ' : PM} (h : ts μ μ') (c : Nat) : ∀ (S : List FR), thS μ' c S = thS μ c S
  | [] => rfl
  | (m, p, rg, cg) :: r => by
    unfold thS
    rw [ts_cat h, ts_thS h c r]
    cases cat μ m p c with
    | none => rfl
    | some k => show ((m, tn (μ' 47 m k), rg, upd cg k (nI c)) :: r, none) = _; rw [h.2.2.2 47 m k (by omega)]
theorem ts_stS {μ μ' : PM} (h : ts μ μ') (S : List FR) : stS μ' S = stS μ S := by
  match S with
  | [] => rfl
  | (m, p, rg, cg) :: r =>
    unfold stS
    simp only [ts_oa h, ts_ob h, ts_opc h, ts_thS h, ts_gvS h, ts_mct h, h.2.2.2 43 m p (by omega)]
theorem ts_enS {μ μ' : PM} (h : ts μ μ') : ∀ (n : Nat) (S : List FR × RS), enS μ' n S = enS μ n S
  | 0, _ => rfl
  | n + 1, S => by
    unfold enS
    simp only [ts_szm h, ts_gvS h, ts_enS h n]
theorem ts_ruS {μ μ' : PM} (h : ts μ μ') : ∀ (n : Nat) (S : List FR × RS), ruS μ' n S = ruS μ n S
  | 0, _ => rfl
  | n + 1, S => by
    unfold ruS
    simp only [ts_stS h, ts_enS h, ts_ruS h n]
end TSM
/-! what stays right -/
section WOK
variable {μ : PM}
theorem gv_wok (hT : TI μ) {v : Int32} {f : FR} {r : List FR} (h : sok μ (f :: r)) (hl : (f :: r).length ≤ 12) : wok μ (gvS μ v (f :: r)) ∧ (gvS μ v (f :: r)).1.length = r.length := by
  match r with
  | [] => exact ⟨⟨trivial, by show 0 ≤ 12; omega, ⟨fun _ z => (by cases z), fun _ => rfl⟩, fun c z => (by cases z)⟩, rfl⟩
  | (m, p, rg, cg) :: r =>
    obtain ⟨-, h2⟩ := h
    obtain ⟨⟨g1, g2, g3⟩, g4⟩ := h2 (m, p, rg, cg) List.mem_cons_self
    have hm8 : m < 8 := by have := hT.m.2; have : m < mct μ := g1; omega
    have hs := (hT.s hm8).2
    have hp : p < szm μ m := g4.1
    refine ⟨⟨⟨⟨g1, by show p + 1 ≤ 24; omega, g3⟩, fun g hg => h2 g (List.mem_cons_of_mem _ hg)⟩, ?_, ⟨fun z => (by cases z), fun z => absurd rfl z⟩, fun c z => (by cases z)⟩, rfl⟩
    show r.length + 1 ≤ 12
    have : ((f :: (m, p, rg, cg) :: r : List FR).length) = r.length + 2 := rfl
    omega
theorem th_wok (hT : TI μ) {c : Nat} (hc : c < kct μ) : ∀ (S : List FR), (∀ g ∈ S, fok μ g) → (∀ f r, S = f :: r → ∀ g ∈ r, atC μ g) → S.length ≤ 12 → wok μ (thS μ c S)
  | [], _, _, _ => ⟨trivial, by show 0 ≤ 12; omega, ⟨fun _ z => (by cases z), fun _ => rfl⟩, fun c' z => (by cases z; exact hc)⟩
  | (m, p, rg, cg) :: r, h1, h2, h3 => by
    unfold thS
    have hl : ((m, p, rg, cg) :: r : List FR).length = r.length + 1 := rfl
    have hr : ∀ g ∈ r, fok μ g ∧ atC μ g := fun g hg => ⟨h1 g (List.mem_cons_of_mem _ hg), h2 _ r rfl g hg⟩
    have hf := h1 (m, p, rg, cg) List.mem_cons_self
    have hm8 : m < 8 := by have := hT.m.2; have : m < mct μ := hf.1; omega
    cases hz : cat μ m p c with
    | none => exact th_wok hT hc r (fun g hg => (hr g hg).1) (fun f r' e g hg => (hr g (by rw [e]; exact List.mem_cons_of_mem _ hg)).2) (by omega)
    | some k =>
      have hk := catF_lt _ _ _ hz
      obtain ⟨-, -, -, t, ht, e⟩ := hT.hd hm8 (show k < hcm μ m by omega)
      refine ⟨⟨⟨hf.1, ?_, fun j hj => ?_⟩, hr⟩, h3, ⟨fun z => (by cases z), fun z => absurd rfl z⟩, fun c z => (by cases z)⟩
      · show tn (μ 47 m k) ≤ 24
        rw [show tn (μ 47 m k) = t from nI_self e (by omega)]; omega
      · show upd cg k (nI c) j = -1 ∨ ∃ c', c' < kct μ ∧ upd cg k (nI c) j = nI c'
        by_cases ej : j = k
        · subst ej; rw [upd_s]; exact Or.inr ⟨c, hc, rfl⟩
        · rw [upd_n ej]; exact hf.2.2 j hj
theorem st_wok (hT : TI μ) {m p : Nat} {rg cg : Nat → Int32} {r : List FR} (h : sok μ ((m, p, rg, cg) :: r)) (hp : p < szm μ m) (hl : r.length + 1 ≤ 12) : wok μ (stS μ ((m, p, rg, cg) :: r)) := by
  obtain ⟨hf, hr⟩ := h
  have hmc : m < mct μ := hf.1
  have hm8 : m < 8 := by have := hT.m.2; omega
  have hs := (hT.s hm8).2
  have hk := hT.k
  obtain ⟨k, hc, hk10, h0, h1, h4, h5, h6, h7⟩ := hT.i hm8 hp
  have hop : opc μ m p = k := nI_self hc (by omega)
  have th : ∀ c, c < kct μ → wok μ (thS μ c ((m, p, rg, cg) :: r)) := fun c hc => th_wok hT hc _ (fun g hg => by
    rcases List.mem_cons.mp hg with rfl | hg
    · exact hf
    · exact (hr g hg).1) (fun f r' e g hg => by cases e; exact (hr g hg).2) hl
  have one : ∀ (p' : Nat) (rg' : Nat → Int32), p' ≤ 24 → wok μ ((m, p', rg', cg) :: r, none) := fun p' rg' hp' => ⟨⟨⟨hmc, hp', hf.2.2⟩, hr⟩, hl, ⟨fun z => (by cases z), fun z => absurd rfl z⟩, fun c z => (by cases z)⟩
  unfold stS
  dsimp only
  rw [hop]
  match k, hk10 with
  | 0, _ => exact one _ _ (by omega)
  | 1, _ => exact one _ _ (by omega)
  | 2, _ => exact one _ _ (by omega)
  | 3, _ =>
    show wok μ (if rg (ob μ m p) = 0 then _ else _)
    by_cases z : rg (ob μ m p) = 0
    · rw [if_pos z]; exact th 1 (by omega)
    · rw [if_neg z]; exact one _ _ (by omega)
  | 4, _ =>
    obtain ⟨x, hx, e⟩ := h4 rfl
    refine one _ _ ?_
    show oa μ m p ≤ 24
    rw [show oa μ m p = x from nI_self e (by omega)]; omega
  | 5, _ =>
    obtain ⟨-, y, hy, e⟩ := h5 rfl
    refine one _ _ ?_
    show (if rg (oa μ m p) = 0 then ob μ m p else p + 1) ≤ 24
    rw [show ob μ m p = y from nI_self e (by omega)]
    by_cases z : rg (oa μ m p) = 0
    · rw [if_pos z]; omega
    · rw [if_neg z]; omega
  | 6, _ =>
    show wok μ (if r.length + 1 = 12 then _ else if ob μ m p < mct μ then _ else _)
    by_cases z : r.length + 1 = 12
    · rw [if_pos z]; exact th 2 (by omega)
    · rw [if_neg z]
      by_cases z2 : ob μ m p < mct μ
      · rw [if_pos z2]
        refine ⟨⟨⟨z2, Nat.zero_le _, fun j _ => Or.inl rfl⟩, fun g hg => ?_⟩, by show r.length + 1 + 1 ≤ 12; omega, ⟨fun z => (by cases z), fun z => absurd rfl z⟩, fun c z => (by cases z)⟩
        rcases List.mem_cons.mp hg with rfl | hg
        · exact ⟨hf, hp, hop⟩
        · exact hr g hg
      · rw [if_neg z2]; exact one _ _ (by omega)
  | 7, _ =>
    obtain ⟨x, hx, e⟩ := h7 rfl
    show wok μ (thS μ (oa μ m p) _)
    rw [show oa μ m p = x from nI_self e (by omega)]
    exact th x hx
  | 8, _ =>
    obtain ⟨x, hx, e⟩ := h0 (by omega)
    show wok μ (if cg (oa μ m p) = -1 then _ else _)
    rw [show oa μ m p = x from nI_self e (by omega)]
    by_cases z : cg x = -1
    · rw [if_pos z]; exact one _ _ (by omega)
    · rw [if_neg z]
      rcases hf.2.2 x hx with z2 | ⟨c, hc, z2⟩
      · exact absurd z2 z
      · have z2' : cg x = nI c := z2
        rw [show tn (cg x) = c from nI_self z2' (by omega)]
        exact th c hc
  | 9, _ => exact (gv_wok hT ⟨hf, hr⟩ hl).1
  | n + 10, h => omega
theorem en_wok (hT : TI μ) : ∀ (n : Nat) (S : List FR × RS), wok μ S → S.1.length ≤ n → wok μ (enS μ n S) ∧ (∀ m p rg cg r, (enS μ n S).1 = (m, p, rg, cg) :: r → p < szm μ m)
  | 0, S, h, hl => by
    refine ⟨h, fun m p rg cg r e => ?_⟩
    have e' : S.1 = (m, p, rg, cg) :: r := e
    rw [e'] at hl
    simp at hl
  | n + 1, S, h, hl => by
    obtain ⟨St, rs⟩ := S
    match St with
    | [] => exact ⟨h, fun m p rg cg r e => by cases e⟩
    | (m, p, rg, cg) :: r =>
      show wok μ (if szm μ m ≤ p then enS μ n (gvS μ (rg 0) ((m, p, rg, cg) :: r)) else ((m, p, rg, cg) :: r, rs)) ∧ ∀ m' p' rg' cg' r', (if szm μ m ≤ p then enS μ n (gvS μ (rg 0) ((m, p, rg, cg) :: r)) else ((m, p, rg, cg) :: r, rs)).1 = (m', p', rg', cg') :: r' → p' < szm μ m'
      by_cases z : szm μ m ≤ p
      · rw [if_pos z]
        obtain ⟨g1, g2⟩ := gv_wok hT (v := rg 0) h.1 h.2.1
        have hl' : ((m, p, rg, cg) :: r : List FR).length = r.length + 1 := rfl
        exact en_wok hT n _ g1 (by rw [g2]; have : r.length + 1 ≤ n + 1 := hl; omega)
      · rw [if_neg z]
        exact ⟨h, fun m' p' rg' cg' r' e => by cases e; omega⟩
end WOK
