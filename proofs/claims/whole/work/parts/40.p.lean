/-! While the objects are made: a world by a map from places, counted from N0 on, to what lies there. -/
def pw (D : va_G) (N0 : Nat) (F : Nat → Option va_E) (H : Heap) : Prop := ∀ (k : Nat) (e : va_E), F k = some e → va_at D vwCl (N0 + k, e) H
def eu (F : Nat → Option va_E) (k : Nat) (e : va_E) : Nat → Option va_E := fun j => if j = k then some e else F j
theorem eu_s {F : Nat → Option va_E} {k : Nat} {e : va_E} : eu F k e k = some e := if_pos rfl
theorem eu_n {F : Nat → Option va_E} {k j : Nat} {e : va_E} (h : j ≠ k) : eu F k e j = F j := if_neg h
theorem pw.up {D : va_G} {N0 : Nat} {F : Nat → Option va_E} {H H1 : Heap} {o : Nat} {e : va_E} (h : pw D N0 F H) (he : va_at D vwCl (N0 + o, e) H1) (hk : ∀ q, q < H.size → q ≠ N0 + o → H1[q]? = H[q]?) : pw D N0 (eu F o e) H1 := by
  intro k e1 h1
  by_cases hko : k = o
  · subst hko
    rw [eu_s] at h1
    cases h1
    exact he
  · rw [eu_n hko] at h1
    have h2 := h k e1 h1
    exact h2.kept (hk _ h2.lt (by show N0 + k ≠ N0 + o; omega))
section P40
variable {p : Program} {l : Launch} {e : Env} {R : Room} {s : State} {m : MethodId} {args : Array Value} {below : List Frame} {meth : Method} {c : Code} {H : Heap} {locs : List Loc} {cells slots : Nat} {Q : State → Prop}
variable {cc : ByteArray} {pc : Nat} {ls : Array Slot} {rest : List Value} {D : va_G} {ca : Nat → ClassId} {A : Nat → Prop} {N0 : Nat} {F : Nat → Option va_E} {o ci N k idx : Nat} {C own : String} {T : u_T} {fs : List Value} {v : Value}
theorem k_put (hx : p.tables.exec = Jvm.exec) (hb : c.code = cc) (hts : ∀ w ∈ al_w, w.before args s = true) (hK : Kp D ca s) (hown : s.vm.findClass C = some m.cls) (hin : meth.name = "<init>") (hcl : vwCl[ci]? = some (C, T, N)) (hk : k < N) (hdecl : (T k).1 = C) (hlink : Cond.fieldLink C idx (T k).1 (T k).2.1 (T k).2.2.1 ∈ al_w) {ty : FieldType} (hd : parseFieldDescriptor (T k).2.2.1 = some ty) (hn : narrow ty v = v) (hfit : fits ty v = true)
    (hF : F o = some (.inr (ci, fs))) (hl : k < fs.length) (hp : pw D N0 F H) (hS : va_S A s.heap H locs) (hA : A (N0 + o)) (hdg : decode cc pc = .ok (.putfield idx, 3))
    (kk : ∀ (H1 : Heap) (locs1 : List Loc), pw D N0 (eu F o (.inr (ci, fs.set k v))) H1 → H1.size = H.size → va_S A s.heap H1 locs1 → W p l e R s m args below meth c H1 locs1 cells slots Q (F0 m (pc + 3) ls rest)) : W p l e R s m args below meth c H locs cells slots Q (F0 m pc ls (v :: .ref (N0 + o) :: rest)) := by
  obtain ⟨hi1, hty, hnm⟩ := cls_ok ci C T N hcl
  have hap := va_apart (own := C) hts hi1 (tyC ci) hty hnm hK hcl
  obtain ⟨r, r1, cell, q1, q2, q3, q4⟩ := hp o _ hF
  have hr : r = (C, T, N) := Option.some.inj (r1.symm.trans hcl)
  subst hr
  obtain ⟨hS2, hfc, kC, hkC, hkind⟩ := hK.1 ci _ hcl
  obtain ⟨cf, kf, fi, f, hi, hsl⟩ := hS2 k hk
  have hlay := hts _ (hi1 _ (u_in_lay hk))
  unfold u_lay at hlay
  have hst := (u_facts hfc hkC (u_lays hts hi1 hk) hi).1
  have fin : ∀ H1 : Heap, H1[N0 + o]? = some (cell.setSlot (D.2 ci k) v) → H1.size = H.size → (∀ q, q ≠ N0 + o → H1[q]? = H[q]?) → W p l e R s m args below meth c H1 (locs ++ [⟨N0 + o, D.2 ci k⟩]) cells slots Q (F0 m (pc + 3) ls rest) := by
    intro H1 e1 e2 e3
    exact kk H1 _ (hp.up ⟨_, hcl, t_OB.to (V := updV (vp_V fs) k v) ⟨_, e1, q2, q3, t_set q4 hap hk v⟩ (fun j _ => vp_updV_set hl v j)⟩ (fun q _ h => e3 q h)) e2 (hS.put e2 e3 hA)
  by_cases hfin : (T k).2.2.2 = true
  · rw [if_pos hfin] at hlay
    have hcf : m.cls = cf := by
      obtain ⟨_, _, c', _, _, _, -, -, hf', -, -, -, hown2, -⟩ := Cond.laysFinal_spec hlay
      have e1 : c' = cf := by have := hi.symm.trans hf'; simp at this; exact this.1.symm
      rw [hdecl] at hown2
      rw [← e1]; exact Option.some.inj (hown.symm.trans hown2)
    have h6 := u_fits hfc hkC hkind (Or.inr hlay) hi hd hn hfit
    refine W.putFinK hx hb hown (hts _ hlink) hi hst hcf hin (by rw [q2]; exact h6) q1 q3 (by rw [hsl]; exact k2_hasslot (q4 k hk)) rfl rfl hdg fun H' e1 e2 e3 => ?_
    rw [hsl] at e1 ⊢
    exact fin H' e1 e2 e3
  · rw [if_neg hfin] at hlay
    have h6 := u_store hfc hkC hkind hlay hi hd hn hfit
    refine W.putK hx hb (f := f) ⟨hown, hts _ hlink, ⟨_, _, _, hi⟩, hst⟩ (by rw [q2]; exact h6) q1 q3 (by rw [hsl]; exact k2_hasslot (q4 k hk)) rfl rfl hdg fun H' e1 e2 e3 => ?_
    rw [hsl] at e1 ⊢
    exact fin H' e1 e2 e3
theorem k_new (hx : p.tables.exec = Jvm.exec) (hb : c.code = cc) (hts : ∀ w ∈ al_w, w.before args s = true) (hK : Kp D ca s) (hown : s.vm.findClass own = some m.cls) (hcl : vwCl[ci]? = some (C, T, N)) (hcll : Cond.classLink own idx C ∈ al_w) (hinst : Cond.instantiable C N ∈ al_w) (hini : Cond.initialized C ∈ al_w) (hfs : ∀ j, j < N → defaultValue (tyC ci j) = vp_V fs j)
    (hp : pw D N0 F H) (hz : H.size = N0 + o) (hS : va_S A s.heap H locs) (hcells : cells + 1 ≤ R.cells) (hslots : slots + N ≤ R.slots) (hdg : decode cc pc = .ok (.new idx, 3))
    (kk : ∀ H1 : Heap, pw D N0 (eu F o (.inr (ci, fs))) H1 → H1.size = N0 + (o + 1) → va_S A s.heap H1 locs → W p l e R s m args below meth c H1 locs (cells + 1) (slots + N) Q (F0 m (pc + 3) ls (.ref (N0 + o) :: rest))) : W p l e R s m args below meth c H locs cells slots Q (F0 m pc ls rest) := by
  obtain ⟨hi1, hty, hnm⟩ := cls_ok ci C T N hcl
  have hKn := hK.1 ci _ hcl
  refine W.newcK hx hb hown (hts _ hcll) (hts _ hinst) (hts _ hini) (g := F0 m pc ls rest) rfl hdg hcells hslots hKn.2.1 hz fun H1 kC hkC e1 z1 o1 => ?_
  refine kk H1 (hp.up ⟨_, hcl, (u_born (tyC ci) hts hi1 hKn hkC e1 hty).to hfs⟩ (fun q h _ => o1 q (by omega))) (by omega) ⟨Nat.le_trans hS.1 (by omega), fun x h1 h2 => (o1 x (by have := hS.1; omega)).trans (hS.2.1 x h1 h2), hS.2.2⟩
theorem k_newi (hx : p.tables.exec = Jvm.exec) (hb : c.code = cc) (hts : ∀ w ∈ al_w, w.before args s = true) (hK : Kp D ca s) (harr : Cond.arrayClass .int ∈ al_w) {n : Int32} (hn : ¬ n < 0) (hN : n.toNatClampNeg = N) (hN2 : N ≤ 100000)
    (hp : pw D N0 F H) (hz : H.size = N0 + o) (hS : va_S A s.heap H locs) (hcells : cells + 1 ≤ R.cells) (hslots : slots + N ≤ R.slots) (hdg : decode cc pc = .ok (.newarray .int, 2))
    (kk : ∀ H1 : Heap, pw D N0 (eu F o (.inl (ca 0, N, .inl (fun _ => 0)))) H1 → H1.size = N0 + (o + 1) → va_S A s.heap H1 locs → W p l e R s m args below meth c H1 locs (cells + 1) (slots + N) Q (F0 m (pc + 2) ls (.ref (N0 + o) :: rest))) : W p l e R s m args below meth c H locs cells slots Q (F0 m pc ls (.int n :: rest)) := by
  refine va_newaK (atype := .int) hx hb (hts _ harr) (g := F0 m pc ls (.int n :: rest)) rfl hdg rfl hn hN (by show N * 4 ≤ 536870912; omega) hcells hslots hz fun H1 cA e1 z1 o1 hAr hNm => ?_
  have hca : cA = ca 0 := Option.some.inj (hNm.symm.trans (hK.2 0 _ rfl).2)
  subst hca
  exact kk H1 (hp.up e1 (fun q h _ => o1 q (by omega))) (by omega) ⟨Nat.le_trans hS.1 (by omega), fun x h1 h2 => (o1 x (by have := hS.1; omega)).trans (hS.2.1 x h1 h2), hS.2.2⟩
theorem k_newl (hx : p.tables.exec = Jvm.exec) (hb : c.code = cc) (hts : ∀ w ∈ al_w, w.before args s = true) (hK : Kp D ca s) (harr : Cond.arrayClass .long ∈ al_w)
    (hp : pw D N0 F H) (hz : H.size = N0 + o) (hS : va_S A s.heap H locs) (hcells : cells + 1 ≤ R.cells) (hslots : slots + 1 ≤ R.slots) (hdg : decode cc pc = .ok (.newarray .long, 2))
    (kk : ∀ H1 : Heap, pw D N0 (eu F o (.inl (ca 1, 1, .inr (.inl (fun _ => 0))))) H1 → H1.size = N0 + (o + 1) → va_S A s.heap H1 locs → W p l e R s m args below meth c H1 locs (cells + 1) (slots + 1) Q (F0 m (pc + 2) ls (.ref (N0 + o) :: rest))) : W p l e R s m args below meth c H locs cells slots Q (F0 m pc ls (.int 1 :: rest)) := by
  refine va_newaK (atype := .long) (n := 1) (N := 1) hx hb (hts _ harr) (g := F0 m pc ls (.int 1 :: rest)) rfl hdg rfl (by decide) (by decide) (by decide) hcells hslots hz fun H1 cA e1 z1 o1 hAr hNm => ?_
  have hca : cA = ca 1 := Option.some.inj (hNm.symm.trans (hK.2 1 _ rfl).2)
  subst hca
  exact kk H1 (hp.up e1 (fun q h _ => o1 q (by omega))) (by omega) ⟨Nat.le_trans hS.1 (by omega), fun x h1 h2 => (o1 x (by have := hS.1; omega)).trans (hS.2.1 x h1 h2), hS.2.2⟩
theorem k_newb (hx : p.tables.exec = Jvm.exec) (hb : c.code = cc) (hts : ∀ w ∈ al_w, w.before args s = true) (hK : Kp D ca s) (hown : s.vm.findClass own = some m.cls) (hcll : Cond.classLink own idx "ThrowFlow$Body" ∈ al_w) (hov : va_AO "ThrowFlow$Body" s)
    (hp : pw D N0 F H) (hz : H.size = N0 + o) (hS : va_S A s.heap H locs) (hcells : cells + 1 ≤ R.cells) (hslots : slots + 8 ≤ R.slots) (hdg : decode cc pc = .ok (.anewarray idx, 3))
    (kk : ∀ H1 : Heap, pw D N0 (eu F o (.inl (ca 2, 8, .inr (.inr (.inr (.inr (fun _ => none))))))) H1 → H1.size = N0 + (o + 1) → va_S A s.heap H1 locs → W p l e R s m args below meth c H1 locs (cells + 1) (slots + 8) Q (F0 m (pc + 3) ls (.ref (N0 + o) :: rest))) : W p l e R s m args below meth c H locs cells slots Q (F0 m pc ls (.int 8 :: rest)) := by
  refine W.anew (n := 8) hx hb hown (hts _ hcll) (va_AO.use hov) (g := F0 m pc ls (.int 8 :: rest)) rfl hdg rfl (by decide) (by decide) hcells hslots fun cA kA comp f1 f2 f3 f4 => ?_
  obtain ⟨kA', comp', -, -, -, g4⟩ := (hK.2 2 _ rfl).2
  have hca : cA = ca 2 := Option.some.inj (f1.symm.trans g4)
  subst hca
  generalize hH1 : H.push ({ cls := ca 2, slots := Array.replicate (8 : Int32).toNatClampNeg .null, vm := .none } : Cell) = H1
  have z1 : H1.size = H.size + 1 := by rw [← hH1, Array.size_push]
  have e1 : H1[H.size]? = some (arrV (ca 2) 8 (fun _ => .null)) := by rw [← hH1, Array.getElem?_push_size]; exact congrArg some (arrV_new (ca 2) 8 .null).symm
  have o1 : ∀ q : Nat, q < H.size → H1[q]? = H[q]? := fun q hq => by rw [← hH1, Array.getElem?_push, if_neg (Nat.ne_of_lt hq)]
  have := kk H1 (hp.up (by show H1[N0 + o]? = some (vp_cell _ _); rw [← hz]; exact e1) (fun q h _ => o1 q h)) (by omega) ⟨Nat.le_trans hS.1 (by omega), fun x h1 h2 => (o1 x (by have := hS.1; omega)).trans (hS.2.1 x h1 h2), hS.2.2⟩
  rw [← hz] at this
  exact this
theorem k_get (hx : p.tables.exec = Jvm.exec) (hb : c.code = cc) (hts : ∀ w ∈ al_w, w.before args s = true) (hK : Kp D ca s) (hown : s.vm.findClass own = some m.cls) (hcl : vwCl[ci]? = some (C, T, N)) (hk : k < N) (hlink : Cond.fieldLink own idx (T k).1 (T k).2.1 (T k).2.2.1 ∈ al_w) (hF : F o = some (.inr (ci, fs))) (hv : fs[k]? = some v) (hp : pw D N0 F H) (hdg : decode cc pc = .ok (.getfield idx, 3))
    (kk : W p l e R s m args below meth c H locs cells slots Q (F0 m (pc + 3) ls (v :: rest))) : W p l e R s m args below meth c H locs cells slots Q (F0 m pc ls (.ref (N0 + o) :: rest)) := by
  have hP : va_P D vwCl [(N0 + o, .inr (ci, fs))] H := by
    intro k r hk
    have hk0 : k = 0 := by have := (List.getElem?_eq_some_iff.mp hk).1; simp at this; omega
    subst hk0
    cases hk
    exact hp o _ hF
  exact va_get hx hb hts (cls_ok ci C T N hcl).1 hown hK hP 0 rfl hcl k hk (hts _ hlink) (fun _ h9 => h9) hv hdg kk
theorem k_iast (hx : p.tables.exec = Jvm.exec) (hb : c.code = cc) (hK : Kp D ca s) {n : Nat} {f : Nat → Int32} (hF : F o = some (.inl (ca 0, n, .inl f))) (hp : pw D N0 F H) (hS : va_S A s.heap H locs) (hA : A (N0 + o)) {j x : Int32} (hj : vp_in j n) (hdg : decode cc pc = .ok (.iastore, 1))
    (kk : ∀ (H1 : Heap) (locs1 : List Loc), pw D N0 (eu F o (.inl (ca 0, n, .inl (upd f j.toNatClampNeg x)))) H1 → H1.size = H.size → va_S A s.heap H1 locs1 → W p l e R s m args below meth c H1 locs1 cells slots Q (F0 m (pc + 1) ls rest)) : W p l e R s m args below meth c H locs cells slots Q (F0 m pc ls (.int x :: .int j :: .ref (N0 + o) :: rest)) := by
  refine W.iast hx hb (hp o _ hF) ((hK.2 0 _ rfl).1 n (fun j => .int (f j))) (fun q => by cases q) (by show ¬ (j < 0 ∨ (arrV _ _ _).slots.size ≤ _); rw [arrV_size]; exact hj) rfl rfl hdg fun H1 e1 z oq => ?_
  refine kk H1 _ (hp.up ?_ (fun q _ h => oq q h)) z (hS.put z oq hA)
  show H1[N0 + o]? = some (vp_cell _ _)
  rw [e1]
  dsimp only
  rw [vp_cell_i, vp_cell_i, arrV_store]
  congr 2
  funext k
  by_cases hk : k = j.toNatClampNeg
  · subst hk
    simp [updV, upd]
  · simp [updV, upd, hk]
theorem k_aast (hx : p.tables.exec = Jvm.exec) (hb : c.code = cc) (hK : Kp D ca s) {f : Nat → Option Nat} {o2 : Nat} (hF : F o = some (.inl (ca 2, 8, .inr (.inr (.inr (.inr f)))))) (hF2 : F o2 = some (.inr (5, fs))) (hp : pw D N0 F H) (hS : va_S A s.heap H locs) (hA : A (N0 + o)) {j : Int32} (hj : vp_in j 8) (hdg : decode cc pc = .ok (.aastore, 1))
    (kk : ∀ (H1 : Heap) (locs1 : List Loc), pw D N0 (eu F o (.inl (ca 2, 8, .inr (.inr (.inr (.inr (va_up f j.toNatClampNeg (some (N0 + o2))))))))) H1 → H1.size = H.size → va_S A s.heap H1 locs1 → W p l e R s m args below meth c H1 locs1 cells slots Q (F0 m (pc + 1) ls rest)) : W p l e R s m args below meth c H locs cells slots Q (F0 m pc ls (.ref (N0 + o2) :: .int j :: .ref (N0 + o) :: rest)) := by
  have hlt : j.toNatClampNeg < 8 := Nat.not_le.mp fun q => hj (Or.inr q)
  have h0 : ¬ j < 0 := fun q => hj (Or.inl q)
  obtain ⟨r', hr', cellV, g1, g2, g3, -⟩ := hp o2 _ hF2
  have hcls := (hK.1 5 _ rfl).2
  obtain ⟨kA, comp, k1, k2, k3, -⟩ := (hK.2 2 _ rfl).2
  have hcomp : comp = D.1 5 := Option.some.inj (k3.symm.trans hcls.1)
  subst hcomp
  obtain ⟨kC, hkC, -⟩ := id hcls.2
  refine W.aast hx hb (hp o _ hF) (fun q h => by cases h) (fun h => by cases h) k1 k2 rfl hkC ⟨h0, by show _ < (arrV _ _ _).slots.size; rw [arrV_size]; exact hlt⟩ g1 (fun q h => by rw [g3] at h; cases h) (by rw [g2]; exact hkC) (by rw [g2]; exact va_assign hcls) rfl rfl hdg fun H1 e1 z oq => ?_
  refine kk H1 _ (hp.up ?_ (fun q _ h => oq q h)) z (hS.put z oq hA)
  show H1[N0 + o]? = some (vp_cell _ _)
  rw [e1]
  dsimp only
  rw [vp_cell_q, vp_cell_q, arrV_store]
  congr 2
  funext q
  by_cases hq : q = j.toNatClampNeg
  · subst hq
    simp [updV, va_up, va_rf]
  · simp [updV, va_up, hq]
end P40
