/-! The constructors. -/
def zI (ca : Nat → ClassId) (n : Nat) : va_E := .inl (ca 0, n, .inl (fun _ => 0))
def bodyFs (N0 i : Nat) : List Value := [.ref (N0 + (5 + 8 * i + 1)), .ref (N0 + (5 + 8 * i + 2)), .ref (N0 + (5 + 8 * i + 3)), .int 0, .ref (N0 + (5 + 8 * i + 4)), .ref (N0 + (5 + 8 * i + 5)), .ref (N0 + (5 + 8 * i + 6)), .ref (N0 + (5 + 8 * i + 7)), .int 0]
def bodyEnt (N0 : Nat) (ca : Nat → ClassId) (i : Nat) : Nat → va_E
  | 0 => .inr (5, bodyFs N0 i)
  | 1 => zI ca 24
  | 2 => zI ca 24
  | 3 => zI ca 24
  | _ => zI ca 4
def memF : Nat → Int32 := upd (upd (upd (fun _ => 0) 0 7) 1 2) 2 4
def parF : Nat → Int32 := upd (upd (upd (fun _ => 0) 0 (-1)) 1 0) 2 0
/-- what lies where, when all is made -/
def Gw (N0 : Nat) (ca : Nat → ClassId) (k : Nat) : Option va_E :=
  if k = 0 then some (.inr (0, [.ref (N0 + 1), .ref (N0 + 69), .ref (N0 + 75)])) else
  if k = 1 then some (.inr (1, [.ref (N0 + 2), .ref (N0 + 4), .int 0])) else
  if k = 2 then some (.inr (2, [.ref (N0 + 3), .int 3])) else
  if k = 3 then some (.inl (ca 0, 10, .inl memF)) else
  if k = 4 then some (.inl (ca 2, 8, .inr (.inr (.inr (.inr (fun j => some (N0 + (5 + 8 * j)))))))) else
  if 5 ≤ k ∧ k < 69 then some (bodyEnt N0 ca ((k - 5) / 8) ((k - 5) % 8)) else
  if k = 69 then some (.inr (3, [.ref (N0 + 1), .int 1, .ref (N0 + 70), .ref (N0 + 71), .ref (N0 + 72), .ref (N0 + 73), .ref (N0 + 74)])) else
  if k = 70 then some (zI ca 192) else
  if k = 71 then some (zI ca 1920) else
  if k = 72 then some (zI ca 40) else
  if k = 73 then some (zI ca 40) else
  if k = 74 then some (zI ca 40) else
  if k = 75 then some (.inr (4, [.ref (N0 + 1), .ref (N0 + 76), .ref (N0 + 77), .ref (N0 + 78), .ref (N0 + 79), .int 0, .int 0, .int 0, .int (-1)])) else
  if k = 76 then some (zI ca 12) else
  if k = 77 then some (zI ca 12) else
  if k = 78 then some (zI ca 48) else
  if k = 79 then some (zI ca 48) else
  if k = 80 then some (.inr (6, [.int 0, .int 3, .ref (N0 + 81), .int 0, .ref (N0 + 82), .ref (N0 + 83), .ref (N0 + 84), .ref (N0 + 85), .ref (N0 + 86), .ref (N0 + 87), .ref (N0 + 88), .ref (N0 + 89), .ref (N0 + 90), .int 1, .ref (N0 + 91), .int 0, .ref (N0 + 92), .ref (N0 + 93), .ref (N0 + 94), .ref (N0 + 95), .int 0, .int (-1), .int 0])) else
  if k = 81 then some (.inl (ca 0, 10, .inl parF)) else
  if k = 82 then some (zI ca 8) else
  if k = 83 then some (zI ca 192) else
  if k = 84 then some (zI ca 192) else
  if k = 85 then some (zI ca 192) else
  if k = 86 then some (zI ca 8) else
  if k = 87 then some (zI ca 32) else
  if k = 88 then some (zI ca 32) else
  if k = 89 then some (zI ca 32) else
  if k = 90 then some (zI ca 32) else
  if k = 91 then some (zI ca 1920) else
  if k = 92 then some (zI ca 12) else
  if k = 93 then some (zI ca 12) else
  if k = 94 then some (zI ca 48) else
  if k = 95 then some (zI ca 48) else
  if k = 96 then some (.inl (ca 1, 1, .inr (.inl (fun _ => 0)))) else
  none
theorem Gw_body {N0 : Nat} {ca : Nat → ClassId} {i j : Nat} (hi : i < 8) (hj : j < 8) : Gw N0 ca (5 + 8 * i + j) = some (bodyEnt N0 ca i j) := by
  unfold Gw
  rw [if_neg (by omega), if_neg (by omega), if_neg (by omega), if_neg (by omega), if_neg (by omega), if_pos (by omega), show (5 + 8 * i + j - 5) / 8 = i by omega, show (5 + 8 * i + j - 5) % 8 = j by omega]
def rng (N0 : Nat) (ca : Nat → ClassId) (lo hi : Nat) (F : Nat → Option va_E) : Nat → Option va_E := fun k => if lo ≤ k ∧ k < hi then Gw N0 ca k else F k
theorem rng_y {N0 : Nat} {ca : Nat → ClassId} {lo hi k : Nat} {F : Nat → Option va_E} (h : lo ≤ k ∧ k < hi) : rng N0 ca lo hi F k = Gw N0 ca k := if_pos h
theorem rng_n {N0 : Nat} {ca : Nat → ClassId} {lo hi k : Nat} {F : Nat → Option va_E} (h : ¬ (lo ≤ k ∧ k < hi)) : rng N0 ca lo hi F k = F k := if_neg h
theorem pw.of {D : va_G} {N0 : Nat} {F F' : Nat → Option va_E} {H : Heap} (h : pw D N0 F H) (e : ∀ k, F' k = F k) : pw D N0 F' H := fun k x hx => h k x (by rw [← e]; exact hx)
/-- what the making of the bodies rests on beside the tables' words -/
def kw (U : State) : Prop := va_AO "ThrowFlow$Body" U ∧ va_Nw (.methodLinkNest "ThrowFlow$Text" 24 ⟨"ThrowFlow$Body", "<init>", "()V"⟩ "ThrowFlow") U
theorem kw.to {U V : State} (hW : U.WarmedH V.vm) (h : kw U) : kw V := ⟨va_AO.moved hW.alike h.1, va_Nw.warmM hW h.2⟩
def PcK (D : va_G) (ca : Nat → ClassId) (N0 n0 : Nat) (F : Nat → Option va_E) (av : List Value) : Array Value → State → Prop := va_Pc av (fun U => U.heap.size = N0 + n0 ∧ pw D N0 F U.heap ∧ Kp D ca U ∧ kw U)
def QcK (D : va_G) (N0 n1 : Nat) (F : Nat → Option va_E) : Array Value → State → Outcome → State → Prop := fun _ st o t => (o = .returned none ∧ t.heap.size = N0 + n1 ∧ pw D N0 F t.heap) ∧ va_F (fun x => N0 ≤ x) st t
theorem PcK_blind {D : va_G} {ca : Nat → ClassId} {N0 n0 : Nat} {F : Nat → Option va_E} {av : List Value} : FrameBlind (PcK D ca N0 n0 F av) := fun a U g mk h => ⟨h.1, h.2.1, h.2.2.1, Kp.moved (u := U) (U := U.calling g mk a) (Vm.Alike.refl U.vm) h.2.2.2.1, kw.to (U := U) (V := U.calling g mk a) (State.WarmedH.refl U) h.2.2.2.2⟩
section K41
variable {p : Program} {l : Launch} {e : Env} {R : Room} {s : State} {m : MethodId} {args : Array Value} {below : List Frame} {meth : Method} {c : Code} {H : Heap} {locs : List Loc} {cells slots mc ms : Nat} {Q : State → Prop} {A : Nat → Prop}
theorem k_go {D : va_G} {N0 n1 pc : Nat} {F : Nat → Option va_E} {lsA : Array Slot} {st0 rest : List Value} {av : Array Value} (hr : va_Run p l e R s m args below meth c H locs cells slots mc ms (F0 m pc lsA st0) rest (QcK D N0 n1 F av) (fun x => N0 ≤ x)) (hS : va_S A s.heap H locs) (hA : ∀ x, N0 ≤ x → A x)
    (kk : ∀ (H1 : Heap) (locs1 : List Loc), pw D N0 F H1 → H1.size = N0 + n1 → va_S A s.heap H1 locs1 → W p l e R s m args below meth c H1 locs1 (cells + mc) (slots + ms) Q (F0 m (pc + 3) lsA rest)) : W p l e R s m args below meth c H locs cells slots Q (F0 m pc lsA st0) := by
  intro T hT X
  obtain ⟨v, st₀, t, T', L0, h0, X', hL, e1, e2, ⟨⟨hv, hz, hp⟩, hF⟩, st⟩ := hr T hT X
  cases hv
  obtain ⟨t2, a1, b1⟩ := kk T'.heap (locs ++ L0) (by rw [e1]; exact hp) (by rw [e1]; exact hz) ⟨by rw [e1]; have h9 := hF.1; rw [h0] at h9; exact Nat.le_trans hS.1 h9, fun x h1 h2 => by
      rw [e1, hF.2 x (by rw [h0]; exact Nat.lt_of_lt_of_le h1 hS.1) (fun z => h2 (hA x z)), h0]
      exact hS.2.1 x h1 h2, fun x hx => by
      rcases List.mem_append.mp hx with h | h
      · exact hS.2.2 x h
      · exact hA _ (hL x h)⟩ T' rfl X'
  exact ⟨t2, st t2 a1, b1⟩
end K41
set_option maxRecDepth 20000 in
theorem kcO : Cond.code Lib.objectInit ⟨#[0xb1]⟩ 1 none ∈ al_w := in_w 69 (by rfl) rfl
theorem kiO : Cond.instanceMethod Lib.objectInit ∈ al_w := in_w 68 (by decide +kernel) rfl
theorem kaI : Cond.arrayClass .int ∈ al_w := in_w 89 (by decide +kernel) rfl
theorem kaL : Cond.arrayClass .long ∈ al_w := in_w 877 (by decide +kernel) rfl
theorem kn0 : Cond.instantiable "ThrowFlow" 3 ∈ al_w := in_w 63 (by decide +kernel) rfl
theorem kt0 : Cond.initialized "ThrowFlow" ∈ al_w := in_w 47 (by decide +kernel) rfl
theorem kn1 : Cond.instantiable "ThrowFlow$Text" 3 ∈ al_w := in_w 71 (by decide +kernel) rfl
theorem kt1 : Cond.initialized "ThrowFlow$Text" ∈ al_w := in_w 48 (by decide +kernel) rfl
theorem kn2 : Cond.instantiable "ThrowFlow$Kinds" 2 ∈ al_w := in_w 77 (by decide +kernel) rfl
theorem kt2 : Cond.initialized "ThrowFlow$Kinds" ∈ al_w := in_w 49 (by decide +kernel) rfl
theorem kn3 : Cond.instantiable "ThrowFlow$Flow" 7 ∈ al_w := in_w 154 (by decide +kernel) rfl
theorem kt3 : Cond.initialized "ThrowFlow$Flow" ∈ al_w := in_w 51 (by decide +kernel) rfl
theorem kn4 : Cond.instantiable "ThrowFlow$Machine" 9 ∈ al_w := in_w 183 (by decide +kernel) rfl
theorem kt4 : Cond.initialized "ThrowFlow$Machine" ∈ al_w := in_w 52 (by decide +kernel) rfl
theorem kn5 : Cond.instantiable "ThrowFlow$Body" 9 ∈ al_w := in_w 92 (by decide +kernel) rfl
theorem kt5 : Cond.initialized "ThrowFlow$Body" ∈ al_w := in_w 50 (by decide +kernel) rfl
theorem kn6 : Cond.instantiable "ThrowFlowModel" 23 ∈ al_w := in_w 650 (by decide +kernel) rfl
theorem kt6 : Cond.initialized "ThrowFlowModel" ∈ al_w := in_w 53 (by decide +kernel) rfl
def yI0 : MethodName := ⟨"ThrowFlow", "<init>", "()V"⟩
def wsI0 : List Cond := .code yI0 prog_1_method_1_code 1 none :: al_w
set_option maxRecDepth 20000 in
theorem kc0 : Cond.code yI0 prog_1_method_1_code 1 none ∈ al_w := in_w 66 (by rfl) rfl
theorem km0 : Cond.instanceMethod yI0 ∈ al_w := in_w 65 (by decide +kernel) rfl
theorem kg0 : GoodIn al_w wsI0 := gd_w (fun w h => by rcases List.mem_cons.mp h with rfl | h; exact kc0; exact h)
def yI1 : MethodName := ⟨"ThrowFlow$Text", "<init>", "()V"⟩
def wsI1 : List Cond := .code yI1 prog_6_method_1_code 2 none :: al_w
set_option maxRecDepth 20000 in
theorem kc1 : Cond.code yI1 prog_6_method_1_code 2 none ∈ al_w := in_w 74 (by rfl) rfl
theorem km1 : Cond.instanceMethod yI1 ∈ al_w := in_w 73 (by decide +kernel) rfl
theorem kg1 : GoodIn al_w wsI1 := gd_w (fun w h => by rcases List.mem_cons.mp h with rfl | h; exact kc1; exact h)
def yI2 : MethodName := ⟨"ThrowFlow$Kinds", "<init>", "()V"⟩
def wsI2 : List Cond := .code yI2 prog_4_method_1_code 1 none :: al_w
set_option maxRecDepth 20000 in
theorem kc2 : Cond.code yI2 prog_4_method_1_code 1 none ∈ al_w := in_w 80 (by rfl) rfl
theorem km2 : Cond.instanceMethod yI2 ∈ al_w := in_w 79 (by decide +kernel) rfl
theorem kg2 : GoodIn al_w wsI2 := gd_w (fun w h => by rcases List.mem_cons.mp h with rfl | h; exact kc2; exact h)
def yI3 : MethodName := ⟨"ThrowFlow$Flow", "<init>", "(LThrowFlow$Text;)V"⟩
def wsI3 : List Cond := .code yI3 prog_3_method_1_code 2 none :: al_w
set_option maxRecDepth 20000 in
theorem kc3 : Cond.code yI3 prog_3_method_1_code 2 none ∈ al_w := in_w 157 (by rfl) rfl
theorem km3 : Cond.instanceMethod yI3 ∈ al_w := in_w 156 (by decide +kernel) rfl
theorem kg3 : GoodIn al_w wsI3 := gd_w (fun w h => by rcases List.mem_cons.mp h with rfl | h; exact kc3; exact h)
def yI4 : MethodName := ⟨"ThrowFlow$Machine", "<init>", "(LThrowFlow$Text;)V"⟩
def wsI4 : List Cond := .code yI4 prog_5_method_1_code 2 none :: al_w
set_option maxRecDepth 20000 in
theorem kc4 : Cond.code yI4 prog_5_method_1_code 2 none ∈ al_w := in_w 186 (by rfl) rfl
theorem km4 : Cond.instanceMethod yI4 ∈ al_w := in_w 185 (by decide +kernel) rfl
theorem kg4 : GoodIn al_w wsI4 := gd_w (fun w h => by rcases List.mem_cons.mp h with rfl | h; exact kc4; exact h)
def yI5 : MethodName := ⟨"ThrowFlow$Body", "<init>", "()V"⟩
def wsI5 : List Cond := .code yI5 prog_2_method_1_code 1 none :: al_w
set_option maxRecDepth 20000 in
theorem kc5 : Cond.code yI5 prog_2_method_1_code 1 none ∈ al_w := in_w 95 (by rfl) rfl
theorem km5 : Cond.instanceMethod yI5 ∈ al_w := in_w 94 (by decide +kernel) rfl
theorem kg5 : GoodIn al_w wsI5 := gd_w (fun w h => by rcases List.mem_cons.mp h with rfl | h; exact kc5; exact h)
def yI6 : MethodName := ⟨"ThrowFlowModel", "<init>", "()V"⟩
def wsI6 : List Cond := .code yI6 prog_8_method_1_code 1 none :: al_w
set_option maxRecDepth 20000 in
theorem kc6 : Cond.code yI6 prog_8_method_1_code 1 none ∈ al_w := in_w 653 (by rfl) rfl
theorem km6 : Cond.instanceMethod yI6 ∈ al_w := in_w 652 (by decide +kernel) rfl
theorem kg6 : GoodIn al_w wsI6 := gd_w (fun w h => by rcases List.mem_cons.mp h with rfl | h; exact kc6; exact h)
theorem dv0 : ∀ j, j < 3 → defaultValue (tyC 0 j) = vp_V [.null, .null, .null] j := by
  intro j hj
  match j, hj with
  | 0, _ => rfl
  | 1, _ => rfl
  | 2, _ => rfl
  | n + 3, h => omega
theorem dv1 : ∀ j, j < 3 → defaultValue (tyC 1 j) = vp_V [.null, .null, .int 0] j := by
  intro j hj
  match j, hj with
  | 0, _ => rfl
  | 1, _ => rfl
  | 2, _ => rfl
  | n + 3, h => omega
theorem dv2 : ∀ j, j < 2 → defaultValue (tyC 2 j) = vp_V [.null, .int 0] j := by
  intro j hj
  match j, hj with
  | 0, _ => rfl
  | 1, _ => rfl
  | n + 2, h => omega
theorem dv3 : ∀ j, j < 7 → defaultValue (tyC 3 j) = vp_V [.null, .int 0, .null, .null, .null, .null, .null] j := by
  intro j hj
  match j, hj with
  | 0, _ => rfl
  | 1, _ => rfl
  | 2, _ => rfl
  | 3, _ => rfl
  | 4, _ => rfl
  | 5, _ => rfl
  | 6, _ => rfl
  | n + 7, h => omega
theorem dv4 : ∀ j, j < 9 → defaultValue (tyC 4 j) = vp_V [.null, .null, .null, .null, .null, .int 0, .int 0, .int 0, .int 0] j := by
  intro j hj
  match j, hj with
  | 0, _ => rfl
  | 1, _ => rfl
  | 2, _ => rfl
  | 3, _ => rfl
  | 4, _ => rfl
  | 5, _ => rfl
  | 6, _ => rfl
  | 7, _ => rfl
  | 8, _ => rfl
  | n + 9, h => omega
theorem dv5 : ∀ j, j < 9 → defaultValue (tyC 5 j) = vp_V [.null, .null, .null, .int 0, .null, .null, .null, .null, .int 0] j := by
  intro j hj
  match j, hj with
  | 0, _ => rfl
  | 1, _ => rfl
  | 2, _ => rfl
  | 3, _ => rfl
  | 4, _ => rfl
  | 5, _ => rfl
  | 6, _ => rfl
  | 7, _ => rfl
  | 8, _ => rfl
  | n + 9, h => omega
theorem dv6 : ∀ j, j < 23 → defaultValue (tyC 6 j) = vp_V [.int 0, .int 0, .null, .int 0, .null, .null, .null, .null, .null, .null, .null, .null, .null, .int 0, .null, .int 0, .null, .null, .null, .null, .int 0, .int 0, .int 0] j := by
  intro j hj
  match j, hj with
  | 0, _ => rfl
  | 1, _ => rfl
  | 2, _ => rfl
  | 3, _ => rfl
  | 4, _ => rfl
  | 5, _ => rfl
  | 6, _ => rfl
  | 7, _ => rfl
  | 8, _ => rfl
  | 9, _ => rfl
  | 10, _ => rfl
  | 11, _ => rfl
  | 12, _ => rfl
  | 13, _ => rfl
  | 14, _ => rfl
  | 15, _ => rfl
  | 16, _ => rfl
  | 17, _ => rfl
  | 18, _ => rfl
  | 19, _ => rfl
  | 20, _ => rfl
  | 21, _ => rfl
  | 22, _ => rfl
  | n + 23, h => omega
theorem bod_fix {D : va_G} {N0 : Nat} {ca : Nat → ClassId} {H : Heap} (h : va_at D vwCl (N0 + 4, .inl (ca 2, 8, .inr (.inr (.inr (.inr (va_up (va_up (va_up (va_up (va_up (va_up (va_up (va_up (fun _ => none) 0 (some (N0 + 5))) 1 (some (N0 + 13))) 2 (some (N0 + 21))) 3 (some (N0 + 29))) 4 (some (N0 + 37))) 5 (some (N0 + 45))) 6 (some (N0 + 53))) 7 (some (N0 + 61)))))))) H) : va_at D vwCl (N0 + 4, .inl (ca 2, 8, .inr (.inr (.inr (.inr (fun j => some (N0 + (5 + 8 * j)))))))) H := by
  have h : H[N0 + 4]? = some (vp_cell _ _) := h
  show H[N0 + 4]? = some (vp_cell _ _)
  rw [h, vp_cell_q, vp_cell_q]
  rfl
