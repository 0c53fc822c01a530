/-! The small machine and the real one: what a value, the locals, the memory are there. -/
def tr (q : Nat → Nat → Nat) : PV → Value
  | .inl x => .int x
  | .inr (.inl x) => .long x
  | .inr (.inr (t, m)) => .ref (q t m)
def vld (t m : Nat) : Prop := cn t < 95 ∧ ((t < 40 ∧ m = 0) ∨ (40 ≤ t ∧ m < 8))
def okv : PV → Prop
  | .inr (.inr (t, m)) => vld t m ∨ (t = 39 ∧ m = 0)
  | _ => True
def plv (q : Nat → Nat → Nat) : Nat → PL → List (Nat × Value)
  | _, [] => []
  | i, none :: l => plv q (i + 1) l
  | i, some v :: l => (i, tr q v) :: plv q (i + 1) l
theorem plv_in {q : Nat → Nat → Nat} : ∀ (ls : PL) (i k : Nat) (v : PV), plg ls k = some v → (i + k, tr q v) ∈ plv q i ls
  | [], _, _, _, h => by cases h
  | none :: l, _, 0, _, h => by cases h
  | some w :: l, i, 0, v, h => by cases h; exact List.mem_cons_self
  | none :: l, i, k + 1, v, h => by
    have := plv_in (q := q) l (i + 1) k v h
    rw [show i + 1 + k = i + (k + 1) by omega] at this
    exact this
  | some w :: l, i, k + 1, v, h => by
    have := plv_in (q := q) l (i + 1) k v h
    rw [show i + 1 + k = i + (k + 1) by omega] at this
    exact List.mem_cons_of_mem _ this
theorem plv_out {q : Nat → Nat → Nat} : ∀ (ls : PL) (i k : Nat) (x : Value), (k, x) ∈ plv q i ls → ∃ (j : Nat) (v : PV), k = i + j ∧ plg ls j = some v ∧ x = tr q v
  | [], _, _, _, h => by cases h
  | none :: l, i, k, x, h => by
    obtain ⟨j, v, h1, h2, h3⟩ := plv_out l (i + 1) k x h
    exact ⟨j + 1, v, by omega, h2, h3⟩
  | some w :: l, i, k, x, h => by
    rcases List.mem_cons.mp h with h | h
    · cases h
      exact ⟨0, w, rfl, rfl, rfl⟩
    · obtain ⟨j, v, h1, h2, h3⟩ := plv_out l (i + 1) k x h
      exact ⟨j + 1, v, by omega, h2, h3⟩
theorem pls_at : ∀ (ls ls' : PL) (i : Nat) (v : PV), pls ls i v = some ls' → plg ls' i = some v ∧ ∀ k, k ≠ i → plg ls' k = plg ls k
  | [], _, _, _, h => by cases h
  | _ :: l, _, 0, v, h => by
    cases h
    refine ⟨rfl, fun k hk => ?_⟩
    cases k with
    | zero => exact absurd rfl hk
    | succ k => rfl
  | w :: l, ls', i + 1, v, h => by
    unfold pls at h
    cases hx : pls l i v with
    | none => rw [hx] at h; cases h
    | some t' =>
      rw [hx] at h
      cases h
      obtain ⟨h1, h2⟩ := pls_at l t' i v hx
      refine ⟨h1, fun k hk => ?_⟩
      cases k with
      | zero => rfl
      | succ k => exact h2 k (by omega)
/-- the locals of the frame hold those of the small machine -/
def lok (q : Nat → Nat → Nat) (ls : PL) (lsA : Array Slot) (nL : Nat) : Prop := lsA.size = nL ∧ lv_wf lsA ∧ ∀ k v, plg ls k = some v → lsA[k]? = some (.val (tr q v)) ∧ okv v ∧ nlg v = true
theorem lok.has {q : Nat → Nat → Nat} {ls : PL} {lsA : Array Slot} {nL : Nat} (h : lok q ls lsA nL) : lv_has lsA nL (plv q 0 ls) := by
  refine ⟨h.1, h.2.1, fun p hp => ?_⟩
  obtain ⟨k, x⟩ := p
  obtain ⟨j, v, h1, h2, h3⟩ := plv_out ls 0 k x hp
  have hk : k = j := by omega
  subst hk
  subst h3
  exact (h.2.2 k v h2).1
theorem cat1 {q : Nat → Nat → Nat} {v : PV} (h : nlg v = true) : (tr q v).category = 1 := by
  match v, h with
  | .inl x, _ => rfl
  | .inr (.inr (t, m)), _ => rfl
theorem lok.put {q : Nat → Nat → Nat} {ls ls' : PL} {lsA lsB : Array Slot} {nL i : Nat} {v : PV} (h : lok q ls lsA nL) (hp : pls ls i v = some ls') (hv : okv v ∧ nlg v = true) (hb : lv_has lsB nL ((i, tr q v) :: (plv q 0 ls).filter (fun p => !(p.1 == i) && !(p.1 + 1 == i && p.2.category == 2)))) : lok q ls' lsB nL := by
  obtain ⟨h1, h2⟩ := pls_at ls ls' i v hp
  refine ⟨hb.1, hb.2.1, fun k w hw => ?_⟩
  by_cases hk : k = i
  · subst hk
    rw [h1] at hw
    cases hw
    exact ⟨hb.2.2 (k, tr q v) List.mem_cons_self, hv⟩
  · rw [h2 k hk] at hw
    obtain ⟨g1, g2, g3⟩ := h.2.2 k w hw
    refine ⟨hb.2.2 (k, tr q w) (List.mem_cons_of_mem _ (List.mem_filter.mpr ⟨?_, ?_⟩)), g2, g3⟩
    · have := plv_in (q := q) ls 0 k w hw
      rw [Nat.zero_add] at this
      exact this
    · have hc := cat1 (q := q) g3
      simp [hk, hc]
/-- the fields of an object -/
def ents (q : Nat → Nat → Nat) (μ : PM) (t m : Nat) : Nat → List (Option Nat) → List Value
  | _, [] => []
  | i, some t' :: l => .ref (q t' m) :: ents q μ t m (i + 1) l
  | i, none :: l => .int (μ t m i) :: ents q μ t m (i + 1) l
def ent (q : Nat → Nat → Nat) (ca : Nat → ClassId) (μ : PM) (t m : Nat) : va_E :=
  if cn t < 90 then .inr (cn t, ents q μ t m 0 (fk t))
  else if cn t = 90 then .inl (ca 0, al t, .inl (fun j => μ t m j))
  else if cn t = 91 then .inl (ca 2, 8, .inr (.inr (.inr (.inr (fun j => some (q 40 j))))))
  else .inl (ca 1, 1, .inr (.inl (fun j => (μ t m j).toInt64)))
theorem ents_get {q : Nat → Nat → Nat} {μ : PM} {t m : Nat} : ∀ (l : List (Option Nat)) (i j : Nat), (∀ t', pgt l j = some (some t') → (ents q μ t m i l)[j]? = some (.ref (q t' m))) ∧ (pgt l j = some none → (ents q μ t m i l)[j]? = some (.int (μ t m (i + j))))
  | [], _, _ => ⟨fun _ h => (by cases h), fun h => (by cases h)⟩
  | some t0 :: l, i, 0 => ⟨fun t' h => (by cases h; rfl), fun h => (by cases h)⟩
  | none :: l, i, 0 => ⟨fun t' h => (by cases h), fun h => (by rfl)⟩
  | some t0 :: l, i, j + 1 => by
    obtain ⟨h1, h2⟩ := ents_get (q := q) (μ := μ) (t := t) (m := m) l (i + 1) j
    refine ⟨fun t' h => h1 t' h, fun h => ?_⟩
    have := h2 h
    rw [show i + 1 + j = i + (j + 1) by omega] at this
    exact this
  | none :: l, i, j + 1 => by
    obtain ⟨h1, h2⟩ := ents_get (q := q) (μ := μ) (t := t) (m := m) l (i + 1) j
    refine ⟨fun t' h => h1 t' h, fun h => ?_⟩
    have := h2 h
    rw [show i + 1 + j = i + (j + 1) by omega] at this
    exact this
theorem ents_set {q : Nat → Nat → Nat} {μ : PM} {t m : Nat} (x : Int32) : ∀ (l : List (Option Nat)) (i j : Nat), pgt l j = some none → ents q (pu μ t m (i + j) x) t m i l = (ents q μ t m i l).set j (.int x)
  | [], _, _, h => by cases h
  | some t0 :: l, i, 0, h => by cases h
  | none :: l, i, 0, h => by
    have aux : ∀ (l : List (Option Nat)) (k : Nat), i + 1 ≤ k → ents q (pu μ t m (i + 0) x) t m k l = ents q μ t m k l := by
      intro l
      induction l with
      | nil => intro k _; rfl
      | cons y l ih =>
        intro k hk
        cases y with
        | some t' => show _ :: _ = _ :: _; rw [ih (k + 1) (by omega)]
        | none =>
          show Value.int (pu μ t m (i + 0) x t m k) :: _ = Value.int (μ t m k) :: _
          rw [ih (k + 1) (by omega)]
          unfold pu
          rw [if_neg (by omega)]
    show Value.int (pu μ t m (i + 0) x t m i) :: ents q (pu μ t m (i + 0) x) t m (i + 1) l = Value.int x :: ents q μ t m (i + 1) l
    rw [aux l (i + 1) (Nat.le_refl _)]
    unfold pu
    rw [if_pos (by omega)]
  | some t0 :: l, i, j + 1, h => by
    show _ :: ents q (pu μ t m (i + (j + 1)) x) t m (i + 1) l = _ :: (ents q μ t m (i + 1) l).set j (.int x)
    rw [show i + (j + 1) = i + 1 + j by omega, ents_set x l (i + 1) j h]
  | none :: l, i, j + 1, h => by
    show Value.int (pu μ t m (i + (j + 1)) x t m i) :: ents q (pu μ t m (i + (j + 1)) x) t m (i + 1) l = Value.int (μ t m i) :: (ents q μ t m (i + 1) l).set j (.int x)
    rw [show i + (j + 1) = i + 1 + j by omega, ents_set x l (i + 1) j h]
    unfold pu
    rw [if_neg (by omega)]
theorem ents_ne {q : Nat → Nat → Nat} {μ : PM} {t m t1 m1 k : Nat} {x : Int32} (h : ¬ (t = t1 ∧ m = m1)) : ∀ (l : List (Option Nat)) (i : Nat), ents q (pu μ t1 m1 k x) t m i l = ents q μ t m i l
  | [], _ => rfl
  | some t0 :: l, i => by show _ :: _ = _ :: _; rw [ents_ne h l (i + 1)]
  | none :: l, i => by
    show Value.int (pu μ t1 m1 k x t m i) :: _ = Value.int (μ t m i) :: _
    rw [ents_ne h l (i + 1)]
    unfold pu
    rw [if_neg (fun z => h ⟨z.1, z.2.1⟩)]
theorem ent_ne {q : Nat → Nat → Nat} {ca : Nat → ClassId} {μ : PM} {t m t1 m1 k : Nat} {x : Int32} (h : ¬ (t = t1 ∧ m = m1)) : ent q ca (pu μ t1 m1 k x) t m = ent q ca μ t m := by
  have e : (fun j => pu μ t1 m1 k x t m j) = fun j => μ t m j := by
    funext j
    unfold pu
    rw [if_neg (fun z => h ⟨z.1, z.2.1⟩)]
  have e2 : (fun j => (pu μ t1 m1 k x t m j).toInt64) = fun j => (μ t m j).toInt64 := by
    funext j
    exact congrArg Int32.toInt64 (congrFun e j)
  unfold ent
  rw [ents_ne h, e, e2]
/-- the world -/
def wd (D : va_G) (q : Nat → Nat → Nat) (ca : Nat → ClassId) (μ : PM) (H : Heap) : Prop := ∀ t m, vld t m → va_at D vwCl (q t m, ent q ca μ t m) H
def qij (q : Nat → Nat → Nat) : Prop := ∀ t m t' m', vld t m → vld t' m' → q t m = q t' m' → t = t' ∧ m = m'
theorem wd.put {D : va_G} {q : Nat → Nat → Nat} {ca : Nat → ClassId} {μ : PM} {H H1 : Heap} (h : wd D q ca μ H) (hq : qij q) {t m k : Nat} {x : Int32} (hv : vld t m) (he : va_at D vwCl (q t m, ent q ca (pu μ t m k x) t m) H1) (oq : ∀ a : Nat, a ≠ q t m → H1[a]? = H[a]?) : wd D q ca (pu μ t m k x) H1 := by
  intro t1 m1 h1
  by_cases hh : t1 = t ∧ m1 = m
  · obtain ⟨rfl, rfl⟩ := hh
    exact he
  · rw [ent_ne hh]
    exact (h t1 m1 h1).kept (oq _ (fun z => hh (hq _ _ _ _ h1 hv z)))
theorem pfl_ok {t m j : Nat} {μ : PM} {v : PV} (hv : vld t m) (h : pfl t m j μ = some v) : okv v := by
  unfold pfl at h
  cases hx : pgt (fk t) j with
  | none => rw [hx] at h; cases h
  | some y =>
    rw [hx] at h
    cases y with
    | none => cases h; trivial
    | some t' =>
      cases h
      have ht : t < 48 := by
        rcases Nat.lt_or_ge t 48 with z | z
        · exact z
        · rw [show fk t = [] from pgd_out z] at hx; cases hx
      have hj : j < 30 := Nat.lt_of_lt_of_le (pgt_lt _ _ _ hx) (fk_len t ht)
      have h1 := fk_ok t ht j hj
      rw [hx] at h1
      simp only [Bool.and_eq_true, decide_eq_true_eq, beq_iff_eq, decide_eq_decide] at h1
      refine Or.inl ⟨h1.1, ?_⟩
      rcases hv.2 with z | z
      · exact Or.inl ⟨h1.2.mp z.1, z.2⟩
      · exact Or.inr ⟨by have := h1.2; omega, z.2⟩
theorem pob_ne {t a b : Nat} (h : pob t a b = true) : t ≠ 38 ∧ t ≠ 39 := by
  constructor
  · rintro rfl
    unfold pob at h
    rw [show fk 38 = [] from rfl] at h
    rw [Bool.and_eq_true] at h
    cases h.2
  · rintro rfl
    unfold pob at h
    rw [show fk 39 = [] from rfl] at h
    rw [Bool.and_eq_true] at h
    cases h.2
/-! Rows of the real machine over this world. -/
def Kp (D : va_G) (ca : Nat → ClassId) (U : State) : Prop := va_K D vwCl [(ca 0, .int), (ca 1, .long), (ca 2, .object "ThrowFlow$Body")] U
def Cx (p : Program) (s : State) (m : MethodId) (args : Array Value) (c : Code) (mi : Nat) (D : va_G) (ca : Nat → ClassId) : Prop :=
  p.tables.exec = Jvm.exec ∧ c.code = bm mi ∧ c.maxLocals = mxl mi ∧ s.vm.findClass (om mi) = some m.cls ∧ (∀ w ∈ al_w, w.before args s = true) ∧ Kp D ca s
/-- a field by its link -/
def okF (mi idx a b : Nat) : Prop := ∃ (C : String) (T : u_T) (N : Nat), vwCl[a]? = some (C, T, N) ∧ b < N ∧ Cond.fieldLink (om mi) idx (T b).1 (T b).2.1 (T b).2.2.1 ∈ al_w
def okP (mi idx a b : Nat) (ty : FieldType) : Prop := ∃ (C : String) (T : u_T) (N : Nat), vwCl[a]? = some (C, T, N) ∧ b < N ∧ Cond.fieldLink (om mi) idx (T b).1 (T b).2.1 (T b).2.2.1 ∈ al_w ∧ (T b).2.2.2 = false ∧ parseFieldDescriptor (T b).2.2.1 = some ty
theorem vwCl_lt {a : Nat} {x : vw_C} (h : vwCl[a]? = some x) : a < 90 := by
  have h1 := (List.getElem?_eq_some_iff.mp h).1
  have h2 : vwCl.length ≤ 90 := by decide
  omega
theorem wd_obj {D : va_G} {q : Nat → Nat → Nat} {ca : Nat → ClassId} {μ : PM} {H : Heap} (h : wd D q ca μ H) {t m : Nat} (hv : vld t m) (hc : cn t < 90) : va_at D vwCl (q t m, .inr (cn t, ents q μ t m 0 (fk t))) H := by
  have := h t m hv
  unfold ent at this
  rw [if_pos hc] at this
  exact this
theorem wd_arr {D : va_G} {q : Nat → Nat → Nat} {ca : Nat → ClassId} {μ : PM} {H : Heap} (h : wd D q ca μ H) {t m : Nat} (hv : vld t m) (hc : cn t = 90) : H[q t m]? = some (vp_cell (ca 0) (al t, .inl (fun j => μ t m j))) := by
  have := h t m hv
  unfold ent at this
  rw [if_neg (by omega), if_pos hc] at this
  exact this
section XR
variable {p : Program} {l : Launch} {e : Env} {R : Room} {s : State} {m : MethodId} {args : Array Value} {below : List Frame} {meth : Method} {c : Code} {H : Heap} {locs : List Loc} {cells slots : Nat} {Q : State → Prop}
variable {mi pc : Nat} {ls : Array Slot} {rest : List Value} {D : va_G} {q : Nat → Nat → Nat} {ca : Nat → ClassId} {μ : PM} {A : Nat → Prop} {t mm a b idx : Nat}
theorem x_get (C0 : Cx p s m args c mi D ca) (hw : wd D q ca μ H) (hv : vld t mm) (hc : cn t = a) (ha : okF mi idx a b) {v : PV} (hf : pfl t mm b μ = some v) (hdg : decode (bm mi) pc = .ok (.getfield idx, 3))
    (kk : W p l e R s m args below meth c H locs cells slots Q (F0 m (pc + 3) ls (tr q v :: rest))) : W p l e R s m args below meth c H locs cells slots Q (F0 m pc ls (.ref (q t mm) :: rest)) := by
  obtain ⟨hx, hb, -, hown, hts, hK⟩ := C0
  obtain ⟨C, T, N, h1, h2, h3⟩ := ha
  have h90 := vwCl_lt h1
  have hP : va_P D vwCl [(q t mm, .inr (a, ents q μ t mm 0 (fk t)))] H := by
    intro k r hk
    have hk0 : k = 0 := by have := (List.getElem?_eq_some_iff.mp hk).1; simp at this; omega
    subst hk0
    cases hk
    have := wd_obj hw hv (by omega)
    rw [hc] at this
    exact this
  refine va_get hx hb hts (cls_ok a C T N h1).1 hown hK hP 0 rfl h1 b h2 (hts _ h3) (fun _ h9 => h9) ?_ hdg kk
  obtain ⟨g1, g2⟩ := ents_get (q := q) (μ := μ) (t := t) (m := mm) (fk t) 0 b
  unfold pfl at hf
  cases hx : pgt (fk t) b with
  | none => rw [hx] at hf; cases hf
  | some y =>
    rw [hx] at hf
    cases y with
    | none => cases hf; rw [g2 hx, Nat.zero_add]; rfl
    | some t' => cases hf; exact g1 t' hx
theorem x_put (C0 : Cx p s m args c mi D ca) (hw : wd D q ca μ H) (hq : qij q) (hS : va_S A s.heap H locs) (hA : A (q t mm)) (hv : vld t mm) (hp : pob t a b = true) {ty : FieldType} (ha : okP mi idx a b ty) {x : Int32} (hn : narrow ty (.int x) = .int x) (hfit : fits ty (.int x) = true) (hdg : decode (bm mi) pc = .ok (.putfield idx, 3))
    (kk : ∀ (H1 : Heap) (locs1 : List Loc), wd D q ca (pu μ t mm b x) H1 → va_S A s.heap H1 locs1 → W p l e R s m args below meth c H1 locs1 cells slots Q (F0 m (pc + 3) ls rest)) : W p l e R s m args below meth c H locs cells slots Q (F0 m pc ls (.int x :: .ref (q t mm) :: rest)) := by
  obtain ⟨hx, hb, -, hown, hts, hK⟩ := C0
  obtain ⟨C, T, N, h1, h2, h3, hfin, hd⟩ := ha
  have h90 := vwCl_lt h1
  obtain ⟨hin, hty, hnm⟩ := cls_ok a C T N h1
  unfold pob at hp
  rw [Bool.and_eq_true] at hp
  have hc : cn t = a := Nat.eq_of_beq_eq_true hp.1
  have hg : pgt (fk t) b = some none := by
    have := hp.2
    cases hx : pgt (fk t) b with
    | none => rw [hx] at this; cases this
    | some y => cases y with
      | none => rfl
      | some z => rw [hx] at this; cases this
  have hob := wd_obj hw hv (by omega)
  rw [hc] at hob
  have hap := va_apart (own := om mi) hts hin (tyC a) hty hnm hK h1
  obtain ⟨r, r1, cell, q1, q2, q3, q4⟩ := hob
  have hr : r = (C, T, N) := Option.some.inj (r1.symm.trans h1)
  subst hr
  obtain ⟨hS2, hfc, kC, hkC, hkind⟩ := hK.1 a _ h1
  obtain ⟨cf, kf, fi, f, hi, hsl⟩ := hS2 b h2
  have hlay := hts _ (hin _ (u_in_lay h2))
  unfold u_lay at hlay
  rw [if_neg (by rw [hfin]; decide)] at hlay
  have hst := (u_facts hfc hkC (u_lays hts hin h2) hi).1
  have h6 := u_store hfc hkC hkind hlay hi hd hn hfit
  have hl : b < (ents q μ t mm 0 (fk t)).length := by
    have := (ents_get (q := q) (μ := μ) (t := t) (m := mm) (fk t) 0 b).2 hg
    exact (List.getElem?_eq_some_iff.mp this).1
  refine W.putK hx hb (f := f) ⟨hown, hts _ h3, ⟨_, _, _, hi⟩, hst⟩ (by rw [q2]; exact h6) q1 q3 (by rw [hsl]; exact k2_hasslot (q4 b h2)) rfl rfl hdg fun H' e1 e2 e3 => ?_
  rw [hsl] at e1 ⊢
  refine kk H' _ (hw.put hq hv ?_ e3) (hS.put e2 e3 hA)
  unfold ent
  rw [if_pos (by omega), hc]
  have hes := ents_set (q := q) (μ := μ) (t := t) (m := mm) x (fk t) 0 b hg
  rw [Nat.zero_add] at hes
  rw [hes]
  exact ⟨_, h1, t_OB.to (V := updV (vp_V (ents q μ t mm 0 (fk t))) b (.int x)) ⟨_, e1, q2, q3, t_set q4 hap h2 (.int x)⟩ (fun j _ => vp_updV_set hl (.int x) j)⟩
theorem x_in {j : Int32} {n : Nat} (h : 0 ≤ j.toInt ∧ j.toInt < n) : vp_in j n := vp_in_iff.mpr h
theorem x_ald (C0 : Cx p s m args c mi D ca) (hw : wd D q ca μ H) (hv : vld t mm) {j : Int32} (hj : 0 ≤ j.toInt ∧ j.toInt < al t) (hdg : decode (bm mi) pc = .ok (.iaload, 1))
    (kk : W p l e R s m args below meth c H locs cells slots Q (F0 m (pc + 1) ls (.int (μ t mm j.toNatClampNeg) :: rest))) : W p l e R s m args below meth c H locs cells slots Q (F0 m pc ls (.int j :: .ref (q t mm) :: rest)) := by
  obtain ⟨hx, hb, -, hown, hts, hK⟩ := C0
  have hc : cn t = 90 := al_cn t (by omega)
  have hP : va_P D vwCl [(q t mm, .inl (ca 0, al t, .inl (fun j => μ t mm j)))] H := by
    intro k r hk
    have hk0 : k = 0 := by have := (List.getElem?_eq_some_iff.mp hk).1; simp at this; omega
    subst hk0
    cases hk
    exact wd_arr hw hv hc
  exact va_iald hx hb hK hP 0 0 rfl rfl (x_in hj) hdg kk
theorem x_ast (C0 : Cx p s m args c mi D ca) (hw : wd D q ca μ H) (hq : qij q) (hS : va_S A s.heap H locs) (hA : A (q t mm)) (hv : vld t mm) {j x : Int32} (hj : 0 ≤ j.toInt ∧ j.toInt < al t) (hdg : decode (bm mi) pc = .ok (.iastore, 1))
    (kk : ∀ (H1 : Heap) (locs1 : List Loc), wd D q ca (pu μ t mm j.toNatClampNeg x) H1 → va_S A s.heap H1 locs1 → W p l e R s m args below meth c H1 locs1 cells slots Q (F0 m (pc + 1) ls rest)) : W p l e R s m args below meth c H locs cells slots Q (F0 m pc ls (.int x :: .int j :: .ref (q t mm) :: rest)) := by
  obtain ⟨hx, hb, -, hown, hts, hK⟩ := C0
  have hc : cn t = 90 := al_cn t (by omega)
  refine W.iast hx hb (wd_arr hw hv hc) ((hK.2 0 _ rfl).1 (al t) (fun j => .int (μ t mm j))) (fun q => by cases q) (by show ¬ (j < 0 ∨ (arrV _ _ _).slots.size ≤ _); rw [arrV_size]; exact x_in hj) rfl rfl hdg fun H1 e1 z oq => ?_
  refine kk H1 _ (hw.put hq hv ?_ oq) (hS.put z oq hA)
  unfold ent
  rw [if_neg (by omega), if_pos hc]
  show H1[q t mm]? = some (vp_cell _ _)
  rw [e1]
  rw [vp_cell_i, vp_cell_i, arrV_store]
  congr 2
  funext k
  by_cases hk : k = j.toNatClampNeg
  · subst hk
    simp [updV, pu]
  · simp [updV, pu, hk]
theorem x_aal (C0 : Cx p s m args c mi D ca) (hw : wd D q ca μ H) (hv : vld 3 mm) {j : Int32} (hj : 0 ≤ j.toInt ∧ j.toInt < 8) (hdg : decode (bm mi) pc = .ok (.aaload, 1))
    (kk : W p l e R s m args below meth c H locs cells slots Q (F0 m (pc + 1) ls (.ref (q 40 j.toNatClampNeg) :: rest))) : W p l e R s m args below meth c H locs cells slots Q (F0 m pc ls (.int j :: .ref (q 3 mm) :: rest)) := by
  obtain ⟨hx, hb, -, hown, hts, hK⟩ := C0
  have hP : va_P D vwCl [(q 3 mm, .inl (ca 2, 8, .inr (.inr (.inr (.inr (fun j => some (q 40 j)))))))] H := by
    intro k r hk
    have hk0 : k = 0 := by have := (List.getElem?_eq_some_iff.mp hk).1; simp at this; omega
    subst hk0
    cases hk
    have := hw 3 mm hv
    unfold ent at this
    rw [if_neg (by decide), if_neg (by decide), if_pos (by decide)] at this
    exact this
  exact va_aldq hx hb hK hP 0 2 rfl rfl (x_in (n := 8) hj) hdg kk
theorem x_alen (C0 : Cx p s m args c mi D ca) (hw : wd D q ca μ H) (hv : vld t mm) (hc : cn t = 90) (hdg : decode (bm mi) pc = .ok (.arraylength, 1))
    (kk : W p l e R s m args below meth c H locs cells slots Q (F0 m (pc + 1) ls (.int (nI (al t)) :: rest))) : W p l e R s m args below meth c H locs cells slots Q (F0 m pc ls (.ref (q t mm) :: rest)) := by
  obtain ⟨hx, hb, -, hown, hts, hK⟩ := C0
  have hP : va_P D vwCl [(q t mm, .inl (ca 0, al t, .inl (fun j => μ t mm j)))] H := by
    intro k r hk
    have hk0 : k = 0 := by have := (List.getElem?_eq_some_iff.mp hk).1; simp at this; omega
    subst hk0
    cases hk
    exact wd_arr hw hv hc
  exact va_alen hx hb hK hP 0 0 rfl rfl rfl hdg kk
end XR
section XL
variable {p : Program} {l : Launch} {e : Env} {R : Room} {s : State} {m : MethodId} {args : Array Value} {below : List Frame} {meth : Method} {c : Code} {H : Heap} {locs : List Loc} {cells slots : Nat} {Q : State → Prop}
variable {mi pc : Nat} {ls : Array Slot} {rest : List Value} {D : va_G} {q : Nat → Nat → Nat} {ca : Nat → ClassId} {μ : PM} {A : Nat → Prop}
theorem wd_lng (h : wd D q ca μ H) (hv : vld 34 0) : H[q 34 0]? = some (vp_cell (ca 1) (1, .inr (.inl (fun j => (μ 34 0 j).toInt64)))) := by
  have := h 34 0 hv
  unfold ent at this
  rw [if_neg (by decide), if_neg (by decide), if_neg (by decide)] at this
  exact this
theorem x_lld (C0 : Cx p s m args c mi D ca) (hw : wd D q ca μ H) (hv : vld 34 0) (hdg : decode (bm mi) pc = .ok (.laload, 1))
    (kk : W p l e R s m args below meth c H locs cells slots Q (F0 m (pc + 1) ls (.long (μ 34 0 0).toInt64 :: rest))) : W p l e R s m args below meth c H locs cells slots Q (F0 m pc ls (.int 0 :: .ref (q 34 0) :: rest)) := by
  obtain ⟨hx, hb, -, hown, hts, hK⟩ := C0
  have hP : va_P D vwCl [(q 34 0, .inl (ca 1, 1, .inr (.inl (fun j => (μ 34 0 j).toInt64))))] H := by
    intro k r hk
    have hk0 : k = 0 := by have := (List.getElem?_eq_some_iff.mp hk).1; simp at this; omega
    subst hk0
    cases hk
    exact wd_lng hw hv
  exact va_lald hx hb hK hP 0 1 rfl rfl (i := 0) (vp_in_iff.mpr ⟨by decide, by decide⟩) hdg kk
theorem x_lst (C0 : Cx p s m args c mi D ca) (hw : wd D q ca μ H) (hq : qij q) (hS : va_S A s.heap H locs) (hA : A (q 34 0)) (hv : vld 34 0) {x : Int64} (hxx : x.toInt32.toInt64 = x) (hdg : decode (bm mi) pc = .ok (.lastore, 1))
    (kk : ∀ (H1 : Heap) (locs1 : List Loc), wd D q ca (pu μ 34 0 0 x.toInt32) H1 → va_S A s.heap H1 locs1 → W p l e R s m args below meth c H1 locs1 cells slots Q (F0 m (pc + 1) ls rest)) : W p l e R s m args below meth c H locs cells slots Q (F0 m pc ls (.long x :: .int 0 :: .ref (q 34 0) :: rest)) := by
  obtain ⟨hx, hb, -, hown, hts, hK⟩ := C0
  refine W.last hx hb (wd_lng hw hv) ((hK.2 1 _ rfl).1 1 (fun j => .long (μ 34 0 j).toInt64)) (fun q => by cases q) (by show ¬ ((0 : Int32) < 0 ∨ (arrV _ _ _).slots.size ≤ _); rw [arrV_size]; exact (vp_in_iff (x := 0) (n := 1)).mpr ⟨by decide, by decide⟩) rfl rfl hdg fun H1 e1 z oq => ?_
  refine kk H1 _ (hw.put hq hv ?_ oq) (hS.put z oq hA)
  unfold ent
  rw [if_neg (by decide), if_neg (by decide), if_neg (by decide)]
  show H1[q 34 0]? = some (vp_cell _ _)
  rw [e1]
  rw [vp_cell_l, vp_cell_l, arrV_store]
  congr 2
  funext k
  by_cases hk : k = 0
  · subst hk
    simp [updV, pu, hxx]
  · have : ¬ k = (0 : Int32).toNatClampNeg := by simpa using hk
    simp [updV, pu, hk]
end XL
