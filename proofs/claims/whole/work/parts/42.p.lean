theorem kw_0 : Cond.methodLink "ThrowFlow$Body" 3 Lib.objectInit ∈ al_w := in_w 96 (by decide +kernel) rfl
theorem kw_1 : Cond.fieldLink "ThrowFlow$Body" 9 "ThrowFlow$Body" "codes" "[I" ∈ al_w := in_w 97 (by decide +kernel) rfl
theorem kw_2 : Cond.fieldLink "ThrowFlow$Body" 15 "ThrowFlow$Body" "as" "[I" ∈ al_w := in_w 101 (by decide +kernel) rfl
theorem kw_3 : Cond.fieldLink "ThrowFlow$Body" 18 "ThrowFlow$Body" "bs" "[I" ∈ al_w := in_w 104 (by decide +kernel) rfl
theorem kw_4 : Cond.fieldLink "ThrowFlow$Body" 21 "ThrowFlow$Body" "firsts" "[I" ∈ al_w := in_w 111 (by decide +kernel) rfl
theorem kw_5 : Cond.fieldLink "ThrowFlow$Body" 24 "ThrowFlow$Body" "lasts" "[I" ∈ al_w := in_w 112 (by decide +kernel) rfl
theorem kw_6 : Cond.fieldLink "ThrowFlow$Body" 27 "ThrowFlow$Body" "caughtKinds" "[I" ∈ al_w := in_w 113 (by decide +kernel) rfl
theorem kw_7 : Cond.fieldLink "ThrowFlow$Body" 30 "ThrowFlow$Body" "targets" "[I" ∈ al_w := in_w 114 (by decide +kernel) rfl
set_option maxHeartbeats 4000000 in
set_option maxRecDepth 100000 in
theorem ini5 (l : Launch) (D : va_G) (ca : Nat → ClassId) (N0 : Nat) {i : Nat} (hi8 : i < 8) {F : Nat → Option va_E} (hF0 : F (5 + 8 * i) = some (.inr (5, [.null, .null, .null, .int 0, .null, .null, .null, .null, .int 0]))) : Met l yI5 wsI5 { frames := 1, cells := 7, slots := 88, locals := 20 } (PcK D ca N0 (5 + 8 * i + 1) F [.ref (N0 + (5 + 8 * i))]) (QcK D N0 (5 + 8 * i + 8) (rng N0 ca (5 + 8 * i) (5 + 8 * i + 8) F)) 7 88 (fun x => N0 ≤ x) := by
  refine Met.ofW (cc := prog_2_method_1_code) (maxL := 1) (ret := none) (by decide +kernel) rfl ?_
  intro p e s m args below meth c s₁ B hml hv
  obtain ⟨rfl, hz, hp, hK, hkw⟩ := hv
  have hx := B.exec
  have hb := B.bytes
  have hrt := B.returns
  have hts0 := atoms_spec (ws := wsI5) B.pre
  have hts : ∀ w ∈ al_w, w.before ([.ref (N0 + (5 + 8 * i))] : List Value).toArray s = true := fun w h => hts0 w (List.mem_cons_of_mem _ h)
  have hown : s.vm.findClass "ThrowFlow$Body" = some m.cls := findClass_of_methodNamed B.named
  have hlocks := B.notSynchronized
  have hin : meth.name = "<init>" := (name_of_methodNamed B.named B.method).1
  have hS : va_S (fun x => N0 ≤ x) s.heap s.heap [] := va_S.rf
  have hl := lv_entry [.ref (N0 + (5 + 8 * i))] (n := 1) (Nat.le_of_ble_eq_true rfl)
  rw [lg_entry_eq]
  generalize (lg_sl [.ref (N0 + (5 + 8 * i))] ++ List.replicate (1 - (lg_sl [.ref (N0 + (5 + 8 * i))]).length) Slot.unset).toArray = lsA at hl ⊢
  have hl : lv_has lsA 1 [(0, .ref (N0 + (5 + 8 * i)))] := hl
  refine lv_aload_n (k := 0) hx hb (by decide +kernel) rfl (lv_at hl 0 rfl) ?_
  refine W.objInit hx hb hown (hts _ kw_0) (hts _ kiO) (hts _ kcO) rfl (by rw [hml]; exact hl.1) rfl (by show decode prog_2_method_1_code 1 = .ok (.invokespecial 3, 3); decide +kernel) (Nat.le_of_ble_eq_true rfl) (Nat.le_of_ble_eq_true rfl) ?_
  refine W.eq (g2 := F0 m 4 lsA []) rfl ?_
  refine lv_aload_n (k := 0) hx hb (by decide +kernel) rfl (lv_at hl 0 rfl) ?_
  refine lv_bipush (n := 24) (v := 24) hx hb (by decide +kernel) (by decide) ?_
  refine k_newi (N0 := N0) (o := 5 + 8 * i + 1) (N := 24) hx hb hts hK kaI (by decide) (by decide) (by decide) hp hz hS (Nat.le_of_ble_eq_true rfl) (Nat.le_of_ble_eq_true rfl) (by decide +kernel) (fun H1 hp1 hz1 hS1 => ?_)
  refine k_put (N0 := N0) (o := 5 + 8 * i) (ci := 5) (k := 0) (v := .ref (N0 + (5 + 8 * i + 1))) (ty := tyC 5 0) hx hb hts hK hown hin rfl (by decide) rfl kw_1 ((cls_ok 5 _ _ _ rfl).2.1 0 (by decide)) rfl rfl ((eu_n (by omega)).trans (hF0)) (Nat.le_of_ble_eq_true rfl) hp1 hS1 (Nat.le_add_right _ _) (by decide +kernel) (fun H2 locs2 hp2 hy2 hS2 => ?_)
  have hz2 := hy2.trans hz1
  refine lv_aload_n (k := 0) hx hb (by decide +kernel) rfl (lv_at hl 0 rfl) ?_
  refine lv_bipush (n := 24) (v := 24) hx hb (by decide +kernel) (by decide) ?_
  refine k_newi (N0 := N0) (o := 5 + 8 * i + 2) (N := 24) hx hb hts hK kaI (by decide) (by decide) (by decide) hp2 hz2 hS2 (Nat.le_of_ble_eq_true rfl) (Nat.le_of_ble_eq_true rfl) (by decide +kernel) (fun H3 hp3 hz3 hS3 => ?_)
  refine k_put (N0 := N0) (o := 5 + 8 * i) (ci := 5) (k := 1) (v := .ref (N0 + (5 + 8 * i + 2))) (ty := tyC 5 1) hx hb hts hK hown hin rfl (by decide) rfl kw_2 ((cls_ok 5 _ _ _ rfl).2.1 1 (by decide)) rfl rfl ((eu_n (by omega)).trans (eu_s)) (Nat.le_of_ble_eq_true rfl) hp3 hS3 (Nat.le_add_right _ _) (by decide +kernel) (fun H4 locs4 hp4 hy4 hS4 => ?_)
  have hz4 := hy4.trans hz3
  refine lv_aload_n (k := 0) hx hb (by decide +kernel) rfl (lv_at hl 0 rfl) ?_
  refine lv_bipush (n := 24) (v := 24) hx hb (by decide +kernel) (by decide) ?_
  refine k_newi (N0 := N0) (o := 5 + 8 * i + 3) (N := 24) hx hb hts hK kaI (by decide) (by decide) (by decide) hp4 hz4 hS4 (Nat.le_of_ble_eq_true rfl) (Nat.le_of_ble_eq_true rfl) (by decide +kernel) (fun H5 hp5 hz5 hS5 => ?_)
  refine k_put (N0 := N0) (o := 5 + 8 * i) (ci := 5) (k := 2) (v := .ref (N0 + (5 + 8 * i + 3))) (ty := tyC 5 2) hx hb hts hK hown hin rfl (by decide) rfl kw_3 ((cls_ok 5 _ _ _ rfl).2.1 2 (by decide)) rfl rfl ((eu_n (by omega)).trans (eu_s)) (Nat.le_of_ble_eq_true rfl) hp5 hS5 (Nat.le_add_right _ _) (by decide +kernel) (fun H6 locs6 hp6 hy6 hS6 => ?_)
  have hz6 := hy6.trans hz5
  refine lv_aload_n (k := 0) hx hb (by decide +kernel) rfl (lv_at hl 0 rfl) ?_
  refine lv_iconst (n := 4) (v := 4) hx hb (by decide +kernel) (by decide) ?_
  refine k_newi (N0 := N0) (o := 5 + 8 * i + 4) (N := 4) hx hb hts hK kaI (by decide) (by decide) (by decide) hp6 hz6 hS6 (Nat.le_of_ble_eq_true rfl) (Nat.le_of_ble_eq_true rfl) (by decide +kernel) (fun H7 hp7 hz7 hS7 => ?_)
  refine k_put (N0 := N0) (o := 5 + 8 * i) (ci := 5) (k := 4) (v := .ref (N0 + (5 + 8 * i + 4))) (ty := tyC 5 4) hx hb hts hK hown hin rfl (by decide) rfl kw_4 ((cls_ok 5 _ _ _ rfl).2.1 4 (by decide)) rfl rfl ((eu_n (by omega)).trans (eu_s)) (Nat.le_of_ble_eq_true rfl) hp7 hS7 (Nat.le_add_right _ _) (by decide +kernel) (fun H8 locs8 hp8 hy8 hS8 => ?_)
  have hz8 := hy8.trans hz7
  refine lv_aload_n (k := 0) hx hb (by decide +kernel) rfl (lv_at hl 0 rfl) ?_
  refine lv_iconst (n := 4) (v := 4) hx hb (by decide +kernel) (by decide) ?_
  refine k_newi (N0 := N0) (o := 5 + 8 * i + 5) (N := 4) hx hb hts hK kaI (by decide) (by decide) (by decide) hp8 hz8 hS8 (Nat.le_of_ble_eq_true rfl) (Nat.le_of_ble_eq_true rfl) (by decide +kernel) (fun H9 hp9 hz9 hS9 => ?_)
  refine k_put (N0 := N0) (o := 5 + 8 * i) (ci := 5) (k := 5) (v := .ref (N0 + (5 + 8 * i + 5))) (ty := tyC 5 5) hx hb hts hK hown hin rfl (by decide) rfl kw_5 ((cls_ok 5 _ _ _ rfl).2.1 5 (by decide)) rfl rfl ((eu_n (by omega)).trans (eu_s)) (Nat.le_of_ble_eq_true rfl) hp9 hS9 (Nat.le_add_right _ _) (by decide +kernel) (fun H10 locs10 hp10 hy10 hS10 => ?_)
  have hz10 := hy10.trans hz9
  refine lv_aload_n (k := 0) hx hb (by decide +kernel) rfl (lv_at hl 0 rfl) ?_
  refine lv_iconst (n := 4) (v := 4) hx hb (by decide +kernel) (by decide) ?_
  refine k_newi (N0 := N0) (o := 5 + 8 * i + 6) (N := 4) hx hb hts hK kaI (by decide) (by decide) (by decide) hp10 hz10 hS10 (Nat.le_of_ble_eq_true rfl) (Nat.le_of_ble_eq_true rfl) (by decide +kernel) (fun H11 hp11 hz11 hS11 => ?_)
  refine k_put (N0 := N0) (o := 5 + 8 * i) (ci := 5) (k := 6) (v := .ref (N0 + (5 + 8 * i + 6))) (ty := tyC 5 6) hx hb hts hK hown hin rfl (by decide) rfl kw_6 ((cls_ok 5 _ _ _ rfl).2.1 6 (by decide)) rfl rfl ((eu_n (by omega)).trans (eu_s)) (Nat.le_of_ble_eq_true rfl) hp11 hS11 (Nat.le_add_right _ _) (by decide +kernel) (fun H12 locs12 hp12 hy12 hS12 => ?_)
  have hz12 := hy12.trans hz11
  refine lv_aload_n (k := 0) hx hb (by decide +kernel) rfl (lv_at hl 0 rfl) ?_
  refine lv_iconst (n := 4) (v := 4) hx hb (by decide +kernel) (by decide) ?_
  refine k_newi (N0 := N0) (o := 5 + 8 * i + 7) (N := 4) hx hb hts hK kaI (by decide) (by decide) (by decide) hp12 hz12 hS12 (Nat.le_of_ble_eq_true rfl) (Nat.le_of_ble_eq_true rfl) (by decide +kernel) (fun H13 hp13 hz13 hS13 => ?_)
  refine k_put (N0 := N0) (o := 5 + 8 * i) (ci := 5) (k := 7) (v := .ref (N0 + (5 + 8 * i + 7))) (ty := tyC 5 7) hx hb hts hK hown hin rfl (by decide) rfl kw_7 ((cls_ok 5 _ _ _ rfl).2.1 7 (by decide)) rfl rfl ((eu_n (by omega)).trans (eu_s)) (Nat.le_of_ble_eq_true rfl) hp13 hS13 (Nat.le_add_right _ _) (by decide +kernel) (fun H14 locs14 hp14 hy14 hS14 => ?_)
  have hz14 := hy14.trans hz13
  have hpe := pw.of (F' := rng N0 ca (5 + 8 * i) (5 + 8 * i + 8) F) hp14 (fun k => by
  by_cases hk : (5 + 8 * i) ≤ k ∧ k < (5 + 8 * i + 8)
  · rw [rng_y hk]
    obtain h | h | h | h | h | h | h | h : k = 5 + 8 * i + 0 ∨ k = 5 + 8 * i + 1 ∨ k = 5 + 8 * i + 2 ∨ k = 5 + 8 * i + 3 ∨ k = 5 + 8 * i + 4 ∨ k = 5 + 8 * i + 5 ∨ k = 5 + 8 * i + 6 ∨ k = 5 + 8 * i + 7 := by omega
    · subst h
      rw [Gw_body hi8 (by decide)]
      exact (eu_s).symm
    · subst h
      rw [Gw_body hi8 (by decide)]
      exact ((eu_n (by omega)).trans ((eu_n (by omega)).trans ((eu_n (by omega)).trans ((eu_n (by omega)).trans ((eu_n (by omega)).trans ((eu_n (by omega)).trans ((eu_n (by omega)).trans ((eu_n (by omega)).trans ((eu_n (by omega)).trans ((eu_n (by omega)).trans ((eu_n (by omega)).trans ((eu_n (by omega)).trans ((eu_n (by omega)).trans (eu_s)))))))))))))).symm
    · subst h
      rw [Gw_body hi8 (by decide)]
      exact ((eu_n (by omega)).trans ((eu_n (by omega)).trans ((eu_n (by omega)).trans ((eu_n (by omega)).trans ((eu_n (by omega)).trans ((eu_n (by omega)).trans ((eu_n (by omega)).trans ((eu_n (by omega)).trans ((eu_n (by omega)).trans ((eu_n (by omega)).trans ((eu_n (by omega)).trans (eu_s)))))))))))).symm
    · subst h
      rw [Gw_body hi8 (by decide)]
      exact ((eu_n (by omega)).trans ((eu_n (by omega)).trans ((eu_n (by omega)).trans ((eu_n (by omega)).trans ((eu_n (by omega)).trans ((eu_n (by omega)).trans ((eu_n (by omega)).trans ((eu_n (by omega)).trans ((eu_n (by omega)).trans (eu_s)))))))))).symm
    · subst h
      rw [Gw_body hi8 (by decide)]
      exact ((eu_n (by omega)).trans ((eu_n (by omega)).trans ((eu_n (by omega)).trans ((eu_n (by omega)).trans ((eu_n (by omega)).trans ((eu_n (by omega)).trans ((eu_n (by omega)).trans (eu_s)))))))).symm
    · subst h
      rw [Gw_body hi8 (by decide)]
      exact ((eu_n (by omega)).trans ((eu_n (by omega)).trans ((eu_n (by omega)).trans ((eu_n (by omega)).trans ((eu_n (by omega)).trans (eu_s)))))).symm
    · subst h
      rw [Gw_body hi8 (by decide)]
      exact ((eu_n (by omega)).trans ((eu_n (by omega)).trans ((eu_n (by omega)).trans (eu_s)))).symm
    · subst h
      rw [Gw_body hi8 (by decide)]
      exact ((eu_n (by omega)).trans (eu_s)).symm
  · rw [rng_n hk]
    exact ((eu_n (by omega)).trans ((eu_n (by omega)).trans ((eu_n (by omega)).trans ((eu_n (by omega)).trans ((eu_n (by omega)).trans ((eu_n (by omega)).trans ((eu_n (by omega)).trans ((eu_n (by omega)).trans ((eu_n (by omega)).trans ((eu_n (by omega)).trans ((eu_n (by omega)).trans ((eu_n (by omega)).trans ((eu_n (by omega)).trans ((eu_n (by omega)).trans (rfl))))))))))))))).symm)
  exact W.vret hx hb hrt (fun t ht hW => ⟨⟨rfl, by rw [ht]; exact hz14, by rw [ht]; exact hpe⟩, hS14.F ht⟩) hS14.2.2 (by decide +kernel)
theorem kw_8 : Cond.methodLink "ThrowFlow$Kinds" 3 Lib.objectInit ∈ al_w := in_w 81 (by decide +kernel) rfl
theorem kw_9 : Cond.fieldLink "ThrowFlow$Kinds" 9 "ThrowFlow$Kinds" "members" "[I" ∈ al_w := in_w 82 (by decide +kernel) rfl
theorem kw_10 : Cond.fieldLink "ThrowFlow$Kinds" 15 "ThrowFlow$Kinds" "count" "I" ∈ al_w := in_w 83 (by decide +kernel) rfl
set_option maxHeartbeats 4000000 in
set_option maxRecDepth 100000 in
theorem ini2 (l : Launch) (D : va_G) (ca : Nat → ClassId) (N0 : Nat) {F : Nat → Option va_E} (hF0 : F (2) = some (.inr (2, [.null, .int 0]))) : Met l yI2 wsI2 { frames := 1, cells := 1, slots := 10, locals := 20 } (PcK D ca N0 (2 + 1) F [.ref (N0 + 2)]) (QcK D N0 (4) (rng N0 ca (2) (4) F)) 1 10 (fun x => N0 ≤ x) := by
  refine Met.ofW (cc := prog_4_method_1_code) (maxL := 1) (ret := none) (by decide +kernel) rfl ?_
  intro p e s m args below meth c s₁ B hml hv
  obtain ⟨rfl, hz, hp, hK, hkw⟩ := hv
  have hx := B.exec
  have hb := B.bytes
  have hrt := B.returns
  have hts0 := atoms_spec (ws := wsI2) B.pre
  have hts : ∀ w ∈ al_w, w.before ([.ref (N0 + 2)] : List Value).toArray s = true := fun w h => hts0 w (List.mem_cons_of_mem _ h)
  have hown : s.vm.findClass "ThrowFlow$Kinds" = some m.cls := findClass_of_methodNamed B.named
  have hlocks := B.notSynchronized
  have hin : meth.name = "<init>" := (name_of_methodNamed B.named B.method).1
  have hS : va_S (fun x => N0 ≤ x) s.heap s.heap [] := va_S.rf
  have hl := lv_entry [.ref (N0 + 2)] (n := 1) (Nat.le_of_ble_eq_true rfl)
  rw [lg_entry_eq]
  generalize (lg_sl [.ref (N0 + 2)] ++ List.replicate (1 - (lg_sl [.ref (N0 + 2)]).length) Slot.unset).toArray = lsA at hl ⊢
  have hl : lv_has lsA 1 [(0, .ref (N0 + 2))] := hl
  refine lv_aload_n (k := 0) hx hb (by decide +kernel) rfl (lv_at hl 0 rfl) ?_
  refine W.objInit hx hb hown (hts _ kw_8) (hts _ kiO) (hts _ kcO) rfl (by rw [hml]; exact hl.1) rfl (by show decode prog_4_method_1_code 1 = .ok (.invokespecial 3, 3); decide +kernel) (Nat.le_of_ble_eq_true rfl) (Nat.le_of_ble_eq_true rfl) ?_
  refine W.eq (g2 := F0 m 4 lsA []) rfl ?_
  refine lv_aload_n (k := 0) hx hb (by decide +kernel) rfl (lv_at hl 0 rfl) ?_
  refine lv_bipush (n := 10) (v := 10) hx hb (by decide +kernel) (by decide) ?_
  refine k_newi (N0 := N0) (o := 3) (N := 10) hx hb hts hK kaI (by decide) (by decide) (by decide) hp hz hS (Nat.le_of_ble_eq_true rfl) (Nat.le_of_ble_eq_true rfl) (by decide +kernel) (fun H1 hp1 hz1 hS1 => ?_)
  refine k_put (N0 := N0) (o := 2) (ci := 2) (k := 0) (v := .ref (N0 + 3)) (ty := tyC 2 0) hx hb hts hK hown hin rfl (by decide) rfl kw_9 ((cls_ok 2 _ _ _ rfl).2.1 0 (by decide)) rfl rfl ((eu_n (by omega)).trans (hF0)) (Nat.le_of_ble_eq_true rfl) hp1 hS1 (Nat.le_add_right _ _) (by decide +kernel) (fun H2 locs2 hp2 hy2 hS2 => ?_)
  have hz2 := hy2.trans hz1
  refine lv_aload_n (k := 0) hx hb (by decide +kernel) rfl (lv_at hl 0 rfl) ?_
  refine k_get (N0 := N0) (o := 2) (ci := 2) (k := 0) (v := .ref (N0 + 3)) hx hb hts hK hown rfl (by decide) kw_9 (eu_s) rfl hp2 (by decide +kernel) ?_
  refine lv_iconst (n := 0) (v := 0) hx hb (by decide +kernel) (by decide) ?_
  refine lv_bipush (n := 7) (v := 7) hx hb (by decide +kernel) (by decide) ?_
  refine k_iast (N0 := N0) (o := 3) (j := 0) (x := 7) hx hb hK ((eu_n (by omega)).trans (eu_s)) hp2 hS2 (Nat.le_add_right _ _) (by rw [vp_in_iff]; decide) (by decide +kernel) (fun H3 locs3 hp3 hy3 hS3 => ?_)
  have hz3 := hy3.trans hz2
  refine lv_aload_n (k := 0) hx hb (by decide +kernel) rfl (lv_at hl 0 rfl) ?_
  refine k_get (N0 := N0) (o := 2) (ci := 2) (k := 0) (v := .ref (N0 + 3)) hx hb hts hK hown rfl (by decide) kw_9 ((eu_n (by omega)).trans (eu_s)) rfl hp3 (by decide +kernel) ?_
  refine lv_iconst (n := 1) (v := 1) hx hb (by decide +kernel) (by decide) ?_
  refine lv_iconst (n := 2) (v := 2) hx hb (by decide +kernel) (by decide) ?_
  refine k_iast (N0 := N0) (o := 3) (j := 1) (x := 2) hx hb hK (eu_s) hp3 hS3 (Nat.le_add_right _ _) (by rw [vp_in_iff]; decide) (by decide +kernel) (fun H4 locs4 hp4 hy4 hS4 => ?_)
  have hz4 := hy4.trans hz3
  refine lv_aload_n (k := 0) hx hb (by decide +kernel) rfl (lv_at hl 0 rfl) ?_
  refine k_get (N0 := N0) (o := 2) (ci := 2) (k := 0) (v := .ref (N0 + 3)) hx hb hts hK hown rfl (by decide) kw_9 ((eu_n (by omega)).trans ((eu_n (by omega)).trans (eu_s))) rfl hp4 (by decide +kernel) ?_
  refine lv_iconst (n := 2) (v := 2) hx hb (by decide +kernel) (by decide) ?_
  refine lv_iconst (n := 4) (v := 4) hx hb (by decide +kernel) (by decide) ?_
  refine k_iast (N0 := N0) (o := 3) (j := 2) (x := 4) hx hb hK (eu_s) hp4 hS4 (Nat.le_add_right _ _) (by rw [vp_in_iff]; decide) (by decide +kernel) (fun H5 locs5 hp5 hy5 hS5 => ?_)
  have hz5 := hy5.trans hz4
  refine lv_aload_n (k := 0) hx hb (by decide +kernel) rfl (lv_at hl 0 rfl) ?_
  refine lv_iconst (n := 3) (v := 3) hx hb (by decide +kernel) (by decide) ?_
  refine k_put (N0 := N0) (o := 2) (ci := 2) (k := 1) (v := .int 3) (ty := tyC 2 1) hx hb hts hK hown hin rfl (by decide) rfl kw_10 ((cls_ok 2 _ _ _ rfl).2.1 1 (by decide)) rfl rfl ((eu_n (by omega)).trans ((eu_n (by omega)).trans ((eu_n (by omega)).trans (eu_s)))) (Nat.le_of_ble_eq_true rfl) hp5 hS5 (Nat.le_add_right _ _) (by decide +kernel) (fun H6 locs6 hp6 hy6 hS6 => ?_)
  have hz6 := hy6.trans hz5
  have hpe := pw.of (F' := rng N0 ca (2) (4) F) hp6 (fun k => by
  by_cases hk : (2) ≤ k ∧ k < (4)
  · rw [rng_y hk]
    obtain h | h : k = 2 ∨ k = 3 := by omega
    · subst h; rfl
    · subst h; rfl
  · rw [rng_n hk]
    exact ((eu_n (by omega)).trans ((eu_n (by omega)).trans ((eu_n (by omega)).trans ((eu_n (by omega)).trans ((eu_n (by omega)).trans ((eu_n (by omega)).trans (rfl))))))).symm)
  exact W.vret hx hb hrt (fun t ht hW => ⟨⟨rfl, by rw [ht]; exact hz6, by rw [ht]; exact hpe⟩, hS6.F ht⟩) hS6.2.2 (by decide +kernel)
theorem kw_11 : Cond.methodLink "ThrowFlow$Text" 3 Lib.objectInit ∈ al_w := in_w 75 (by decide +kernel) rfl
theorem kw_12 : Cond.classLink "ThrowFlow$Text" 9 "ThrowFlow$Kinds" ∈ al_w := in_w 76 (by decide +kernel) rfl
theorem kw_13 : Cond.methodLink "ThrowFlow$Text" 11 yI2 ∈ al_w := in_w 78 (by decide +kernel) rfl
theorem kw_14 : Cond.fieldLink "ThrowFlow$Text" 12 "ThrowFlow$Text" "kinds" "LThrowFlow$Kinds;" ∈ al_w := in_w 137 (by decide +kernel) rfl
theorem kw_15 : Cond.classLink "ThrowFlow$Text" 18 "ThrowFlow$Body" ∈ al_w := in_w 90 (by decide +kernel) rfl
theorem kw_16 : Cond.fieldLink "ThrowFlow$Text" 20 "ThrowFlow$Text" "bodies" "[LThrowFlow$Body;" ∈ al_w := in_w 141 (by decide +kernel) rfl
set_option maxHeartbeats 4000000 in
set_option maxRecDepth 100000 in
theorem ini1 (l : Launch) (D : va_G) (ca : Nat → ClassId) (N0 : Nat) {F : Nat → Option va_E} (hF0 : F (1) = some (.inr (1, [.null, .null, .int 0]))) : Met l yI1 wsI1 { frames := 2, cells := 67, slots := 796, locals := 45 } (PcK D ca N0 (1 + 1) F [.ref (N0 + 1)]) (QcK D N0 (69) (rng N0 ca (1) (69) F)) 67 796 (fun x => N0 ≤ x) := by
  refine Met.ofW (cc := prog_6_method_1_code) (maxL := 2) (ret := none) (by decide +kernel) rfl ?_
  intro p e s m args below meth c s₁ B hml hv
  obtain ⟨rfl, hz, hp, hK, hkw⟩ := hv
  have hx := B.exec
  have hb := B.bytes
  have hrt := B.returns
  have hts0 := atoms_spec (ws := wsI1) B.pre
  have hts : ∀ w ∈ al_w, w.before ([.ref (N0 + 1)] : List Value).toArray s = true := fun w h => hts0 w (List.mem_cons_of_mem _ h)
  have hown : s.vm.findClass "ThrowFlow$Text" = some m.cls := findClass_of_methodNamed B.named
  have hlocks := B.notSynchronized
  have hin : meth.name = "<init>" := (name_of_methodNamed B.named B.method).1
  have hS : va_S (fun x => N0 ≤ x) s.heap s.heap [] := va_S.rf
  have hl := lv_entry [.ref (N0 + 1)] (n := 2) (Nat.le_of_ble_eq_true rfl)
  rw [lg_entry_eq]
  generalize (lg_sl [.ref (N0 + 1)] ++ List.replicate (2 - (lg_sl [.ref (N0 + 1)]).length) Slot.unset).toArray = lsA at hl ⊢
  have hl : lv_has lsA 2 [(0, .ref (N0 + 1))] := hl
  refine lv_aload_n (k := 0) hx hb (by decide +kernel) rfl (lv_at hl 0 rfl) ?_
  refine W.objInit hx hb hown (hts _ kw_11) (hts _ kiO) (hts _ kcO) rfl (by rw [hml]; exact hl.1) rfl (by show decode prog_6_method_1_code 1 = .ok (.invokespecial 3, 3); decide +kernel) (Nat.le_of_ble_eq_true rfl) (Nat.le_of_ble_eq_true rfl) ?_
  refine W.eq (g2 := F0 m 4 lsA []) rfl ?_
  refine lv_aload_n (k := 0) hx hb (by decide +kernel) rfl (lv_at hl 0 rfl) ?_
  refine k_new (N0 := N0) (o := 2) (ci := 2) (fs := [.null, .int 0]) hx hb hts hK hown rfl kw_12 kn2 kt2 dv2 hp hz hS (Nat.le_of_ble_eq_true rfl) (Nat.le_of_ble_eq_true rfl) (by decide +kernel) (fun H1 hp1 hz1 hS1 => ?_)
  refine lv_dup hx hb (by decide +kernel) rfl ?_
  refine k_go (va_runI (As := []) (b := N0 + 2) (rest := [.ref (N0 + 2), .ref (N0 + 1)]) ⟨hx, hb, hml, hown, hts⟩ (ini2 l D ca N0  (F := _) (eu_s)) (cwI 0 hts kg2 rfl rfl rfl (hts _ kt2) (hts _ kw_13) (hts _ km2) rfl (by decide +kernel) ⟨Nat.le_of_ble_eq_true rfl, Nat.le_of_ble_eq_true rfl⟩) ⟨PcK_blind, fun U hU hW => ⟨rfl, by rw [hU]; exact hz1, by rw [hU]; exact hp1, Kp.moved hW.alike hK, kw.to hW hkw⟩⟩ rfl rfl hl.1 rfl (Nat.le_of_ble_eq_true rfl) (by show decode prog_6_method_1_code 9 = .ok (.invokespecial 11, 3); decide +kernel) ⟨Nat.le_of_ble_eq_true rfl, Nat.le_of_ble_eq_true rfl⟩) hS1 (fun _ h => h) (fun H2 locs2 hp2 hz2 hS2 => ?_)
  refine k_put (N0 := N0) (o := 1) (ci := 1) (k := 0) (v := .ref (N0 + 2)) (ty := tyC 1 0) hx hb hts hK hown hin rfl (by decide) rfl kw_14 ((cls_ok 1 _ _ _ rfl).2.1 0 (by decide)) rfl rfl ((rng_n (by omega)).trans ((eu_n (by omega)).trans (hF0))) (Nat.le_of_ble_eq_true rfl) hp2 hS2 (Nat.le_add_right _ _) (by decide +kernel) (fun H3 locs3 hp3 hy3 hS3 => ?_)
  have hz3 := hy3.trans hz2
  refine lv_aload_n (k := 0) hx hb (by decide +kernel) rfl (lv_at hl 0 rfl) ?_
  refine lv_bipush (n := 8) (v := 8) hx hb (by decide +kernel) (by decide) ?_
  refine k_newb (N0 := N0) (o := 4) hx hb hts hK hown kw_15 hkw.1 hp3 hz3 hS3 (Nat.le_of_ble_eq_true rfl) (Nat.le_of_ble_eq_true rfl) (by decide +kernel) (fun H4 hp4 hz4 hS4 => ?_)
  refine k_put (N0 := N0) (o := 1) (ci := 1) (k := 1) (v := .ref (N0 + 4)) (ty := tyC 1 1) hx hb hts hK hown hin rfl (by decide) rfl kw_16 ((cls_ok 1 _ _ _ rfl).2.1 1 (by decide)) rfl rfl ((eu_n (by omega)).trans (eu_s)) (Nat.le_of_ble_eq_true rfl) hp4 hS4 (Nat.le_add_right _ _) (by decide +kernel) (fun H5 locs5 hp5 hy5 hS5 => ?_)
  have hz5 := hy5.trans hz4
  refine lv_iconst (n := 0) (v := 0) hx hb (by decide +kernel) (by decide) ?_
  refine lv_istore_n (k := 1) (lv' := [(1, .int 0), (0, .ref (N0 + 1))]) hx hb (by decide +kernel) rfl hl (by decide) rfl (fun ls1 hl1 => ?_)
  refine lv_iload_n (k := 1) hx hb (by decide +kernel) rfl (lv_at hl1 0 rfl) ?_
  refine lv_bipush (n := 8) (v := 8) hx hb (by decide +kernel) (by decide) ?_
  refine lv_icmp_ge (off := 22) (tgt := 51) hx hb (by decide +kernel) (by decide) (fun h => absurd h (by decide)) (fun _ => ?_)
  refine lv_aload_n (k := 0) hx hb (by decide +kernel) rfl (lv_at hl1 1 rfl) ?_
  refine k_get (N0 := N0) (o := 1) (ci := 1) (k := 1) (v := .ref (N0 + 4)) hx hb hts hK hown rfl (by decide) kw_16 (eu_s) rfl hp5 (by decide +kernel) ?_
  refine lv_iload_n (k := 1) hx hb (by decide +kernel) rfl (lv_at hl1 0 rfl) ?_
  refine k_new (N0 := N0) (o := 5) (ci := 5) (fs := [.null, .null, .null, .int 0, .null, .null, .null, .null, .int 0]) hx hb hts hK hown rfl kw_15 kn5 kt5 dv5 hp5 hz5 hS5 (Nat.le_of_ble_eq_true rfl) (Nat.le_of_ble_eq_true rfl) (by decide +kernel) (fun H6 hp6 hz6 hS6 => ?_)
  refine lv_dup hx hb (by decide +kernel) rfl ?_
  refine k_go (va_runIN (As := []) (b := N0 + 5) (rest := [.ref (N0 + 5), .int 0, .ref (N0 + 4)]) ⟨hx, hb, hml, hown, hts⟩ (ini5 l D ca N0 (i := 0) (by decide) (F := _) (eu_s)) (⟨va_cnB 0 hts kg5 rfl rfl rfl hkw.2 (hts _ kt5) (by decide +kernel) ⟨Nat.le_of_ble_eq_true rfl, Nat.le_of_ble_eq_true rfl⟩, rfl, hts _ km5⟩) ⟨PcK_blind, fun U hU hW => ⟨rfl, by rw [hU]; exact hz6, by rw [hU]; exact hp6, Kp.moved hW.alike hK, kw.to hW hkw⟩⟩ rfl rfl hl1.1 rfl (Nat.le_of_ble_eq_true rfl) (by show decode prog_6_method_1_code 41 = .ok (.invokespecial 24, 3); decide +kernel) ⟨Nat.le_of_ble_eq_true rfl, Nat.le_of_ble_eq_true rfl⟩) hS6 (fun _ h => h) (fun H7 locs7 hp7 hz7 hS7 => ?_)
  refine k_aast (N0 := N0) (o := 4) (o2 := 5) (fs := bodyFs N0 0) (j := 0) hx hb hK ((rng_n (by omega)).trans ((eu_n (by omega)).trans ((eu_n (by omega)).trans (eu_s)))) ((rng_y (by omega)).trans (Gw_body (i := 0) (j := 0) (by decide) (by decide))) hp7 hS7 (Nat.le_add_right _ _) (by rw [vp_in_iff]; decide) (by decide +kernel) (fun H8 locs8 hp8 hy8 hS8 => ?_)
  have hz8 := hy8.trans hz7
  refine lv_iinc (i := 1) (k := 0) (n := 1) (v := 1) (lv' := [(1, .int 1), (0, .ref (N0 + 1))]) hx hb (by decide +kernel) hl1 rfl (by decide) (by decide) rfl (fun ls2 hl2 => ?_)
  refine lv_goto (off := -22) (tgt := 26) hx hb (by decide +kernel) (by decide) ?_
  refine lv_iload_n (k := 1) hx hb (by decide +kernel) rfl (lv_at hl2 0 rfl) ?_
  refine lv_bipush (n := 8) (v := 8) hx hb (by decide +kernel) (by decide) ?_
  refine lv_icmp_ge (off := 22) (tgt := 51) hx hb (by decide +kernel) (by decide) (fun h => absurd h (by decide)) (fun _ => ?_)
  refine lv_aload_n (k := 0) hx hb (by decide +kernel) rfl (lv_at hl2 1 rfl) ?_
  refine k_get (N0 := N0) (o := 1) (ci := 1) (k := 1) (v := .ref (N0 + 4)) hx hb hts hK hown rfl (by decide) kw_16 ((eu_n (by omega)).trans ((rng_n (by omega)).trans ((eu_n (by omega)).trans (eu_s)))) rfl hp8 (by decide +kernel) ?_
  refine lv_iload_n (k := 1) hx hb (by decide +kernel) rfl (lv_at hl2 0 rfl) ?_
  refine k_new (N0 := N0) (o := 13) (ci := 5) (fs := [.null, .null, .null, .int 0, .null, .null, .null, .null, .int 0]) hx hb hts hK hown rfl kw_15 kn5 kt5 dv5 hp8 hz8 hS8 (Nat.le_of_ble_eq_true rfl) (Nat.le_of_ble_eq_true rfl) (by decide +kernel) (fun H9 hp9 hz9 hS9 => ?_)
  refine lv_dup hx hb (by decide +kernel) rfl ?_
  refine k_go (va_runIN (As := []) (b := N0 + 13) (rest := [.ref (N0 + 13), .int 1, .ref (N0 + 4)]) ⟨hx, hb, hml, hown, hts⟩ (ini5 l D ca N0 (i := 1) (by decide) (F := _) (eu_s)) (⟨va_cnB 0 hts kg5 rfl rfl rfl hkw.2 (hts _ kt5) (by decide +kernel) ⟨Nat.le_of_ble_eq_true rfl, Nat.le_of_ble_eq_true rfl⟩, rfl, hts _ km5⟩) ⟨PcK_blind, fun U hU hW => ⟨rfl, by rw [hU]; exact hz9, by rw [hU]; exact hp9, Kp.moved hW.alike hK, kw.to hW hkw⟩⟩ rfl rfl hl2.1 rfl (Nat.le_of_ble_eq_true rfl) (by show decode prog_6_method_1_code 41 = .ok (.invokespecial 24, 3); decide +kernel) ⟨Nat.le_of_ble_eq_true rfl, Nat.le_of_ble_eq_true rfl⟩) hS9 (fun _ h => h) (fun H10 locs10 hp10 hz10 hS10 => ?_)
  refine k_aast (N0 := N0) (o := 4) (o2 := 13) (fs := bodyFs N0 1) (j := 1) hx hb hK ((rng_n (by omega)).trans ((eu_n (by omega)).trans (eu_s))) ((rng_y (by omega)).trans (Gw_body (i := 1) (j := 0) (by decide) (by decide))) hp10 hS10 (Nat.le_add_right _ _) (by rw [vp_in_iff]; decide) (by decide +kernel) (fun H11 locs11 hp11 hy11 hS11 => ?_)
  have hz11 := hy11.trans hz10
  refine lv_iinc (i := 1) (k := 0) (n := 1) (v := 2) (lv' := [(1, .int 2), (0, .ref (N0 + 1))]) hx hb (by decide +kernel) hl2 rfl (by decide) (by decide) rfl (fun ls3 hl3 => ?_)
  refine lv_goto (off := -22) (tgt := 26) hx hb (by decide +kernel) (by decide) ?_
  refine lv_iload_n (k := 1) hx hb (by decide +kernel) rfl (lv_at hl3 0 rfl) ?_
  refine lv_bipush (n := 8) (v := 8) hx hb (by decide +kernel) (by decide) ?_
  refine lv_icmp_ge (off := 22) (tgt := 51) hx hb (by decide +kernel) (by decide) (fun h => absurd h (by decide)) (fun _ => ?_)
  refine lv_aload_n (k := 0) hx hb (by decide +kernel) rfl (lv_at hl3 1 rfl) ?_
  refine k_get (N0 := N0) (o := 1) (ci := 1) (k := 1) (v := .ref (N0 + 4)) hx hb hts hK hown rfl (by decide) kw_16 ((eu_n (by omega)).trans ((rng_n (by omega)).trans ((eu_n (by omega)).trans ((eu_n (by omega)).trans ((rng_n (by omega)).trans ((eu_n (by omega)).trans (eu_s))))))) rfl hp11 (by decide +kernel) ?_
  refine lv_iload_n (k := 1) hx hb (by decide +kernel) rfl (lv_at hl3 0 rfl) ?_
  refine k_new (N0 := N0) (o := 21) (ci := 5) (fs := [.null, .null, .null, .int 0, .null, .null, .null, .null, .int 0]) hx hb hts hK hown rfl kw_15 kn5 kt5 dv5 hp11 hz11 hS11 (Nat.le_of_ble_eq_true rfl) (Nat.le_of_ble_eq_true rfl) (by decide +kernel) (fun H12 hp12 hz12 hS12 => ?_)
  refine lv_dup hx hb (by decide +kernel) rfl ?_
  refine k_go (va_runIN (As := []) (b := N0 + 21) (rest := [.ref (N0 + 21), .int 2, .ref (N0 + 4)]) ⟨hx, hb, hml, hown, hts⟩ (ini5 l D ca N0 (i := 2) (by decide) (F := _) (eu_s)) (⟨va_cnB 0 hts kg5 rfl rfl rfl hkw.2 (hts _ kt5) (by decide +kernel) ⟨Nat.le_of_ble_eq_true rfl, Nat.le_of_ble_eq_true rfl⟩, rfl, hts _ km5⟩) ⟨PcK_blind, fun U hU hW => ⟨rfl, by rw [hU]; exact hz12, by rw [hU]; exact hp12, Kp.moved hW.alike hK, kw.to hW hkw⟩⟩ rfl rfl hl3.1 rfl (Nat.le_of_ble_eq_true rfl) (by show decode prog_6_method_1_code 41 = .ok (.invokespecial 24, 3); decide +kernel) ⟨Nat.le_of_ble_eq_true rfl, Nat.le_of_ble_eq_true rfl⟩) hS12 (fun _ h => h) (fun H13 locs13 hp13 hz13 hS13 => ?_)
  refine k_aast (N0 := N0) (o := 4) (o2 := 21) (fs := bodyFs N0 2) (j := 2) hx hb hK ((rng_n (by omega)).trans ((eu_n (by omega)).trans (eu_s))) ((rng_y (by omega)).trans (Gw_body (i := 2) (j := 0) (by decide) (by decide))) hp13 hS13 (Nat.le_add_right _ _) (by rw [vp_in_iff]; decide) (by decide +kernel) (fun H14 locs14 hp14 hy14 hS14 => ?_)
  have hz14 := hy14.trans hz13
  refine lv_iinc (i := 1) (k := 0) (n := 1) (v := 3) (lv' := [(1, .int 3), (0, .ref (N0 + 1))]) hx hb (by decide +kernel) hl3 rfl (by decide) (by decide) rfl (fun ls4 hl4 => ?_)
  refine lv_goto (off := -22) (tgt := 26) hx hb (by decide +kernel) (by decide) ?_
  refine lv_iload_n (k := 1) hx hb (by decide +kernel) rfl (lv_at hl4 0 rfl) ?_
  refine lv_bipush (n := 8) (v := 8) hx hb (by decide +kernel) (by decide) ?_
  refine lv_icmp_ge (off := 22) (tgt := 51) hx hb (by decide +kernel) (by decide) (fun h => absurd h (by decide)) (fun _ => ?_)
  refine lv_aload_n (k := 0) hx hb (by decide +kernel) rfl (lv_at hl4 1 rfl) ?_
  refine k_get (N0 := N0) (o := 1) (ci := 1) (k := 1) (v := .ref (N0 + 4)) hx hb hts hK hown rfl (by decide) kw_16 ((eu_n (by omega)).trans ((rng_n (by omega)).trans ((eu_n (by omega)).trans ((eu_n (by omega)).trans ((rng_n (by omega)).trans ((eu_n (by omega)).trans ((eu_n (by omega)).trans ((rng_n (by omega)).trans ((eu_n (by omega)).trans (eu_s)))))))))) rfl hp14 (by decide +kernel) ?_
  refine lv_iload_n (k := 1) hx hb (by decide +kernel) rfl (lv_at hl4 0 rfl) ?_
  refine k_new (N0 := N0) (o := 29) (ci := 5) (fs := [.null, .null, .null, .int 0, .null, .null, .null, .null, .int 0]) hx hb hts hK hown rfl kw_15 kn5 kt5 dv5 hp14 hz14 hS14 (Nat.le_of_ble_eq_true rfl) (Nat.le_of_ble_eq_true rfl) (by decide +kernel) (fun H15 hp15 hz15 hS15 => ?_)
  refine lv_dup hx hb (by decide +kernel) rfl ?_
  refine k_go (va_runIN (As := []) (b := N0 + 29) (rest := [.ref (N0 + 29), .int 3, .ref (N0 + 4)]) ⟨hx, hb, hml, hown, hts⟩ (ini5 l D ca N0 (i := 3) (by decide) (F := _) (eu_s)) (⟨va_cnB 0 hts kg5 rfl rfl rfl hkw.2 (hts _ kt5) (by decide +kernel) ⟨Nat.le_of_ble_eq_true rfl, Nat.le_of_ble_eq_true rfl⟩, rfl, hts _ km5⟩) ⟨PcK_blind, fun U hU hW => ⟨rfl, by rw [hU]; exact hz15, by rw [hU]; exact hp15, Kp.moved hW.alike hK, kw.to hW hkw⟩⟩ rfl rfl hl4.1 rfl (Nat.le_of_ble_eq_true rfl) (by show decode prog_6_method_1_code 41 = .ok (.invokespecial 24, 3); decide +kernel) ⟨Nat.le_of_ble_eq_true rfl, Nat.le_of_ble_eq_true rfl⟩) hS15 (fun _ h => h) (fun H16 locs16 hp16 hz16 hS16 => ?_)
  refine k_aast (N0 := N0) (o := 4) (o2 := 29) (fs := bodyFs N0 3) (j := 3) hx hb hK ((rng_n (by omega)).trans ((eu_n (by omega)).trans (eu_s))) ((rng_y (by omega)).trans (Gw_body (i := 3) (j := 0) (by decide) (by decide))) hp16 hS16 (Nat.le_add_right _ _) (by rw [vp_in_iff]; decide) (by decide +kernel) (fun H17 locs17 hp17 hy17 hS17 => ?_)
  have hz17 := hy17.trans hz16
  refine lv_iinc (i := 1) (k := 0) (n := 1) (v := 4) (lv' := [(1, .int 4), (0, .ref (N0 + 1))]) hx hb (by decide +kernel) hl4 rfl (by decide) (by decide) rfl (fun ls5 hl5 => ?_)
  refine lv_goto (off := -22) (tgt := 26) hx hb (by decide +kernel) (by decide) ?_
  refine lv_iload_n (k := 1) hx hb (by decide +kernel) rfl (lv_at hl5 0 rfl) ?_
  refine lv_bipush (n := 8) (v := 8) hx hb (by decide +kernel) (by decide) ?_
  refine lv_icmp_ge (off := 22) (tgt := 51) hx hb (by decide +kernel) (by decide) (fun h => absurd h (by decide)) (fun _ => ?_)
  refine lv_aload_n (k := 0) hx hb (by decide +kernel) rfl (lv_at hl5 1 rfl) ?_
  refine k_get (N0 := N0) (o := 1) (ci := 1) (k := 1) (v := .ref (N0 + 4)) hx hb hts hK hown rfl (by decide) kw_16 ((eu_n (by omega)).trans ((rng_n (by omega)).trans ((eu_n (by omega)).trans ((eu_n (by omega)).trans ((rng_n (by omega)).trans ((eu_n (by omega)).trans ((eu_n (by omega)).trans ((rng_n (by omega)).trans ((eu_n (by omega)).trans ((eu_n (by omega)).trans ((rng_n (by omega)).trans ((eu_n (by omega)).trans (eu_s))))))))))))) rfl hp17 (by decide +kernel) ?_
  refine lv_iload_n (k := 1) hx hb (by decide +kernel) rfl (lv_at hl5 0 rfl) ?_
  refine k_new (N0 := N0) (o := 37) (ci := 5) (fs := [.null, .null, .null, .int 0, .null, .null, .null, .null, .int 0]) hx hb hts hK hown rfl kw_15 kn5 kt5 dv5 hp17 hz17 hS17 (Nat.le_of_ble_eq_true rfl) (Nat.le_of_ble_eq_true rfl) (by decide +kernel) (fun H18 hp18 hz18 hS18 => ?_)
  refine lv_dup hx hb (by decide +kernel) rfl ?_
  refine k_go (va_runIN (As := []) (b := N0 + 37) (rest := [.ref (N0 + 37), .int 4, .ref (N0 + 4)]) ⟨hx, hb, hml, hown, hts⟩ (ini5 l D ca N0 (i := 4) (by decide) (F := _) (eu_s)) (⟨va_cnB 0 hts kg5 rfl rfl rfl hkw.2 (hts _ kt5) (by decide +kernel) ⟨Nat.le_of_ble_eq_true rfl, Nat.le_of_ble_eq_true rfl⟩, rfl, hts _ km5⟩) ⟨PcK_blind, fun U hU hW => ⟨rfl, by rw [hU]; exact hz18, by rw [hU]; exact hp18, Kp.moved hW.alike hK, kw.to hW hkw⟩⟩ rfl rfl hl5.1 rfl (Nat.le_of_ble_eq_true rfl) (by show decode prog_6_method_1_code 41 = .ok (.invokespecial 24, 3); decide +kernel) ⟨Nat.le_of_ble_eq_true rfl, Nat.le_of_ble_eq_true rfl⟩) hS18 (fun _ h => h) (fun H19 locs19 hp19 hz19 hS19 => ?_)
  refine k_aast (N0 := N0) (o := 4) (o2 := 37) (fs := bodyFs N0 4) (j := 4) hx hb hK ((rng_n (by omega)).trans ((eu_n (by omega)).trans (eu_s))) ((rng_y (by omega)).trans (Gw_body (i := 4) (j := 0) (by decide) (by decide))) hp19 hS19 (Nat.le_add_right _ _) (by rw [vp_in_iff]; decide) (by decide +kernel) (fun H20 locs20 hp20 hy20 hS20 => ?_)
  have hz20 := hy20.trans hz19
  refine lv_iinc (i := 1) (k := 0) (n := 1) (v := 5) (lv' := [(1, .int 5), (0, .ref (N0 + 1))]) hx hb (by decide +kernel) hl5 rfl (by decide) (by decide) rfl (fun ls6 hl6 => ?_)
  refine lv_goto (off := -22) (tgt := 26) hx hb (by decide +kernel) (by decide) ?_
  refine lv_iload_n (k := 1) hx hb (by decide +kernel) rfl (lv_at hl6 0 rfl) ?_
  refine lv_bipush (n := 8) (v := 8) hx hb (by decide +kernel) (by decide) ?_
  refine lv_icmp_ge (off := 22) (tgt := 51) hx hb (by decide +kernel) (by decide) (fun h => absurd h (by decide)) (fun _ => ?_)
  refine lv_aload_n (k := 0) hx hb (by decide +kernel) rfl (lv_at hl6 1 rfl) ?_
  refine k_get (N0 := N0) (o := 1) (ci := 1) (k := 1) (v := .ref (N0 + 4)) hx hb hts hK hown rfl (by decide) kw_16 ((eu_n (by omega)).trans ((rng_n (by omega)).trans ((eu_n (by omega)).trans ((eu_n (by omega)).trans ((rng_n (by omega)).trans ((eu_n (by omega)).trans ((eu_n (by omega)).trans ((rng_n (by omega)).trans ((eu_n (by omega)).trans ((eu_n (by omega)).trans ((rng_n (by omega)).trans ((eu_n (by omega)).trans ((eu_n (by omega)).trans ((rng_n (by omega)).trans ((eu_n (by omega)).trans (eu_s)))))))))))))))) rfl hp20 (by decide +kernel) ?_
  refine lv_iload_n (k := 1) hx hb (by decide +kernel) rfl (lv_at hl6 0 rfl) ?_
  refine k_new (N0 := N0) (o := 45) (ci := 5) (fs := [.null, .null, .null, .int 0, .null, .null, .null, .null, .int 0]) hx hb hts hK hown rfl kw_15 kn5 kt5 dv5 hp20 hz20 hS20 (Nat.le_of_ble_eq_true rfl) (Nat.le_of_ble_eq_true rfl) (by decide +kernel) (fun H21 hp21 hz21 hS21 => ?_)
  refine lv_dup hx hb (by decide +kernel) rfl ?_
  refine k_go (va_runIN (As := []) (b := N0 + 45) (rest := [.ref (N0 + 45), .int 5, .ref (N0 + 4)]) ⟨hx, hb, hml, hown, hts⟩ (ini5 l D ca N0 (i := 5) (by decide) (F := _) (eu_s)) (⟨va_cnB 0 hts kg5 rfl rfl rfl hkw.2 (hts _ kt5) (by decide +kernel) ⟨Nat.le_of_ble_eq_true rfl, Nat.le_of_ble_eq_true rfl⟩, rfl, hts _ km5⟩) ⟨PcK_blind, fun U hU hW => ⟨rfl, by rw [hU]; exact hz21, by rw [hU]; exact hp21, Kp.moved hW.alike hK, kw.to hW hkw⟩⟩ rfl rfl hl6.1 rfl (Nat.le_of_ble_eq_true rfl) (by show decode prog_6_method_1_code 41 = .ok (.invokespecial 24, 3); decide +kernel) ⟨Nat.le_of_ble_eq_true rfl, Nat.le_of_ble_eq_true rfl⟩) hS21 (fun _ h => h) (fun H22 locs22 hp22 hz22 hS22 => ?_)
  refine k_aast (N0 := N0) (o := 4) (o2 := 45) (fs := bodyFs N0 5) (j := 5) hx hb hK ((rng_n (by omega)).trans ((eu_n (by omega)).trans (eu_s))) ((rng_y (by omega)).trans (Gw_body (i := 5) (j := 0) (by decide) (by decide))) hp22 hS22 (Nat.le_add_right _ _) (by rw [vp_in_iff]; decide) (by decide +kernel) (fun H23 locs23 hp23 hy23 hS23 => ?_)
  have hz23 := hy23.trans hz22
  refine lv_iinc (i := 1) (k := 0) (n := 1) (v := 6) (lv' := [(1, .int 6), (0, .ref (N0 + 1))]) hx hb (by decide +kernel) hl6 rfl (by decide) (by decide) rfl (fun ls7 hl7 => ?_)
  refine lv_goto (off := -22) (tgt := 26) hx hb (by decide +kernel) (by decide) ?_
  refine lv_iload_n (k := 1) hx hb (by decide +kernel) rfl (lv_at hl7 0 rfl) ?_
  refine lv_bipush (n := 8) (v := 8) hx hb (by decide +kernel) (by decide) ?_
  refine lv_icmp_ge (off := 22) (tgt := 51) hx hb (by decide +kernel) (by decide) (fun h => absurd h (by decide)) (fun _ => ?_)
  refine lv_aload_n (k := 0) hx hb (by decide +kernel) rfl (lv_at hl7 1 rfl) ?_
  refine k_get (N0 := N0) (o := 1) (ci := 1) (k := 1) (v := .ref (N0 + 4)) hx hb hts hK hown rfl (by decide) kw_16 ((eu_n (by omega)).trans ((rng_n (by omega)).trans ((eu_n (by omega)).trans ((eu_n (by omega)).trans ((rng_n (by omega)).trans ((eu_n (by omega)).trans ((eu_n (by omega)).trans ((rng_n (by omega)).trans ((eu_n (by omega)).trans ((eu_n (by omega)).trans ((rng_n (by omega)).trans ((eu_n (by omega)).trans ((eu_n (by omega)).trans ((rng_n (by omega)).trans ((eu_n (by omega)).trans ((eu_n (by omega)).trans ((rng_n (by omega)).trans ((eu_n (by omega)).trans (eu_s))))))))))))))))))) rfl hp23 (by decide +kernel) ?_
  refine lv_iload_n (k := 1) hx hb (by decide +kernel) rfl (lv_at hl7 0 rfl) ?_
  refine k_new (N0 := N0) (o := 53) (ci := 5) (fs := [.null, .null, .null, .int 0, .null, .null, .null, .null, .int 0]) hx hb hts hK hown rfl kw_15 kn5 kt5 dv5 hp23 hz23 hS23 (Nat.le_of_ble_eq_true rfl) (Nat.le_of_ble_eq_true rfl) (by decide +kernel) (fun H24 hp24 hz24 hS24 => ?_)
  refine lv_dup hx hb (by decide +kernel) rfl ?_
  refine k_go (va_runIN (As := []) (b := N0 + 53) (rest := [.ref (N0 + 53), .int 6, .ref (N0 + 4)]) ⟨hx, hb, hml, hown, hts⟩ (ini5 l D ca N0 (i := 6) (by decide) (F := _) (eu_s)) (⟨va_cnB 0 hts kg5 rfl rfl rfl hkw.2 (hts _ kt5) (by decide +kernel) ⟨Nat.le_of_ble_eq_true rfl, Nat.le_of_ble_eq_true rfl⟩, rfl, hts _ km5⟩) ⟨PcK_blind, fun U hU hW => ⟨rfl, by rw [hU]; exact hz24, by rw [hU]; exact hp24, Kp.moved hW.alike hK, kw.to hW hkw⟩⟩ rfl rfl hl7.1 rfl (Nat.le_of_ble_eq_true rfl) (by show decode prog_6_method_1_code 41 = .ok (.invokespecial 24, 3); decide +kernel) ⟨Nat.le_of_ble_eq_true rfl, Nat.le_of_ble_eq_true rfl⟩) hS24 (fun _ h => h) (fun H25 locs25 hp25 hz25 hS25 => ?_)
  refine k_aast (N0 := N0) (o := 4) (o2 := 53) (fs := bodyFs N0 6) (j := 6) hx hb hK ((rng_n (by omega)).trans ((eu_n (by omega)).trans (eu_s))) ((rng_y (by omega)).trans (Gw_body (i := 6) (j := 0) (by decide) (by decide))) hp25 hS25 (Nat.le_add_right _ _) (by rw [vp_in_iff]; decide) (by decide +kernel) (fun H26 locs26 hp26 hy26 hS26 => ?_)
  have hz26 := hy26.trans hz25
  refine lv_iinc (i := 1) (k := 0) (n := 1) (v := 7) (lv' := [(1, .int 7), (0, .ref (N0 + 1))]) hx hb (by decide +kernel) hl7 rfl (by decide) (by decide) rfl (fun ls8 hl8 => ?_)
  refine lv_goto (off := -22) (tgt := 26) hx hb (by decide +kernel) (by decide) ?_
  refine lv_iload_n (k := 1) hx hb (by decide +kernel) rfl (lv_at hl8 0 rfl) ?_
  refine lv_bipush (n := 8) (v := 8) hx hb (by decide +kernel) (by decide) ?_
  refine lv_icmp_ge (off := 22) (tgt := 51) hx hb (by decide +kernel) (by decide) (fun h => absurd h (by decide)) (fun _ => ?_)
  refine lv_aload_n (k := 0) hx hb (by decide +kernel) rfl (lv_at hl8 1 rfl) ?_
  refine k_get (N0 := N0) (o := 1) (ci := 1) (k := 1) (v := .ref (N0 + 4)) hx hb hts hK hown rfl (by decide) kw_16 ((eu_n (by omega)).trans ((rng_n (by omega)).trans ((eu_n (by omega)).trans ((eu_n (by omega)).trans ((rng_n (by omega)).trans ((eu_n (by omega)).trans ((eu_n (by omega)).trans ((rng_n (by omega)).trans ((eu_n (by omega)).trans ((eu_n (by omega)).trans ((rng_n (by omega)).trans ((eu_n (by omega)).trans ((eu_n (by omega)).trans ((rng_n (by omega)).trans ((eu_n (by omega)).trans ((eu_n (by omega)).trans ((rng_n (by omega)).trans ((eu_n (by omega)).trans ((eu_n (by omega)).trans ((rng_n (by omega)).trans ((eu_n (by omega)).trans (eu_s)))))))))))))))))))))) rfl hp26 (by decide +kernel) ?_
  refine lv_iload_n (k := 1) hx hb (by decide +kernel) rfl (lv_at hl8 0 rfl) ?_
  refine k_new (N0 := N0) (o := 61) (ci := 5) (fs := [.null, .null, .null, .int 0, .null, .null, .null, .null, .int 0]) hx hb hts hK hown rfl kw_15 kn5 kt5 dv5 hp26 hz26 hS26 (Nat.le_of_ble_eq_true rfl) (Nat.le_of_ble_eq_true rfl) (by decide +kernel) (fun H27 hp27 hz27 hS27 => ?_)
  refine lv_dup hx hb (by decide +kernel) rfl ?_
  refine k_go (va_runIN (As := []) (b := N0 + 61) (rest := [.ref (N0 + 61), .int 7, .ref (N0 + 4)]) ⟨hx, hb, hml, hown, hts⟩ (ini5 l D ca N0 (i := 7) (by decide) (F := _) (eu_s)) (⟨va_cnB 0 hts kg5 rfl rfl rfl hkw.2 (hts _ kt5) (by decide +kernel) ⟨Nat.le_of_ble_eq_true rfl, Nat.le_of_ble_eq_true rfl⟩, rfl, hts _ km5⟩) ⟨PcK_blind, fun U hU hW => ⟨rfl, by rw [hU]; exact hz27, by rw [hU]; exact hp27, Kp.moved hW.alike hK, kw.to hW hkw⟩⟩ rfl rfl hl8.1 rfl (Nat.le_of_ble_eq_true rfl) (by show decode prog_6_method_1_code 41 = .ok (.invokespecial 24, 3); decide +kernel) ⟨Nat.le_of_ble_eq_true rfl, Nat.le_of_ble_eq_true rfl⟩) hS27 (fun _ h => h) (fun H28 locs28 hp28 hz28 hS28 => ?_)
  refine k_aast (N0 := N0) (o := 4) (o2 := 61) (fs := bodyFs N0 7) (j := 7) hx hb hK ((rng_n (by omega)).trans ((eu_n (by omega)).trans (eu_s))) ((rng_y (by omega)).trans (Gw_body (i := 7) (j := 0) (by decide) (by decide))) hp28 hS28 (Nat.le_add_right _ _) (by rw [vp_in_iff]; decide) (by decide +kernel) (fun H29 locs29 hp29 hy29 hS29 => ?_)
  have hz29 := hy29.trans hz28
  refine lv_iinc (i := 1) (k := 0) (n := 1) (v := 8) (lv' := [(1, .int 8), (0, .ref (N0 + 1))]) hx hb (by decide +kernel) hl8 rfl (by decide) (by decide) rfl (fun ls9 hl9 => ?_)
  refine lv_goto (off := -22) (tgt := 26) hx hb (by decide +kernel) (by decide) ?_
  refine lv_iload_n (k := 1) hx hb (by decide +kernel) rfl (lv_at hl9 0 rfl) ?_
  refine lv_bipush (n := 8) (v := 8) hx hb (by decide +kernel) (by decide) ?_
  refine lv_icmp_ge (off := 22) (tgt := 51) hx hb (by decide +kernel) (by decide) (fun _ => ?_) (fun h => absurd (by decide) h)
  have hp30 := hp29.up (o := 4) (e := .inl (ca 2, 8, .inr (.inr (.inr (.inr (fun j => some (N0 + (5 + 8 * j)))))))) (bod_fix (hp29 4 _ (eu_s))) (fun _ _ _ => rfl)
  have hpe := pw.of (F' := rng N0 ca (1) (69) F) hp30 (fun k => by
  by_cases hk : (1) ≤ k ∧ k < (69)
  · rw [rng_y hk]
    obtain h | h | h | h | h | h | h | h | h | h | h : k = 1 ∨ k = 4 ∨ (2 ≤ k ∧ k < 4) ∨ (5 ≤ k ∧ k < 13) ∨ (13 ≤ k ∧ k < 21) ∨ (21 ≤ k ∧ k < 29) ∨ (29 ≤ k ∧ k < 37) ∨ (37 ≤ k ∧ k < 45) ∨ (45 ≤ k ∧ k < 53) ∨ (53 ≤ k ∧ k < 61) ∨ (61 ≤ k ∧ k < 69) := by omega
    · subst h; rfl
    · subst h; rfl
    · exact ((eu_n (by omega)).trans ((eu_n (by omega)).trans ((rng_n (by omega)).trans ((eu_n (by omega)).trans ((eu_n (by omega)).trans ((rng_n (by omega)).trans ((eu_n (by omega)).trans ((eu_n (by omega)).trans ((rng_n (by omega)).trans ((eu_n (by omega)).trans ((eu_n (by omega)).trans ((rng_n (by omega)).trans ((eu_n (by omega)).trans ((eu_n (by omega)).trans ((rng_n (by omega)).trans ((eu_n (by omega)).trans ((eu_n (by omega)).trans ((rng_n (by omega)).trans ((eu_n (by omega)).trans ((eu_n (by omega)).trans ((rng_n (by omega)).trans ((eu_n (by omega)).trans ((eu_n (by omega)).trans ((rng_n (by omega)).trans ((eu_n (by omega)).trans ((eu_n (by omega)).trans ((eu_n (by omega)).trans ((eu_n (by omega)).trans (rng_y (by omega)))))))))))))))))))))))))))))).symm
    · exact ((eu_n (by omega)).trans ((eu_n (by omega)).trans ((rng_n (by omega)).trans ((eu_n (by omega)).trans ((eu_n (by omega)).trans ((rng_n (by omega)).trans ((eu_n (by omega)).trans ((eu_n (by omega)).trans ((rng_n (by omega)).trans ((eu_n (by omega)).trans ((eu_n (by omega)).trans ((rng_n (by omega)).trans ((eu_n (by omega)).trans ((eu_n (by omega)).trans ((rng_n (by omega)).trans ((eu_n (by omega)).trans ((eu_n (by omega)).trans ((rng_n (by omega)).trans ((eu_n (by omega)).trans ((eu_n (by omega)).trans ((rng_n (by omega)).trans ((eu_n (by omega)).trans ((eu_n (by omega)).trans (rng_y (by omega))))))))))))))))))))))))).symm
    · exact ((eu_n (by omega)).trans ((eu_n (by omega)).trans ((rng_n (by omega)).trans ((eu_n (by omega)).trans ((eu_n (by omega)).trans ((rng_n (by omega)).trans ((eu_n (by omega)).trans ((eu_n (by omega)).trans ((rng_n (by omega)).trans ((eu_n (by omega)).trans ((eu_n (by omega)).trans ((rng_n (by omega)).trans ((eu_n (by omega)).trans ((eu_n (by omega)).trans ((rng_n (by omega)).trans ((eu_n (by omega)).trans ((eu_n (by omega)).trans ((rng_n (by omega)).trans ((eu_n (by omega)).trans ((eu_n (by omega)).trans (rng_y (by omega)))))))))))))))))))))).symm
    · exact ((eu_n (by omega)).trans ((eu_n (by omega)).trans ((rng_n (by omega)).trans ((eu_n (by omega)).trans ((eu_n (by omega)).trans ((rng_n (by omega)).trans ((eu_n (by omega)).trans ((eu_n (by omega)).trans ((rng_n (by omega)).trans ((eu_n (by omega)).trans ((eu_n (by omega)).trans ((rng_n (by omega)).trans ((eu_n (by omega)).trans ((eu_n (by omega)).trans ((rng_n (by omega)).trans ((eu_n (by omega)).trans ((eu_n (by omega)).trans (rng_y (by omega))))))))))))))))))).symm
    · exact ((eu_n (by omega)).trans ((eu_n (by omega)).trans ((rng_n (by omega)).trans ((eu_n (by omega)).trans ((eu_n (by omega)).trans ((rng_n (by omega)).trans ((eu_n (by omega)).trans ((eu_n (by omega)).trans ((rng_n (by omega)).trans ((eu_n (by omega)).trans ((eu_n (by omega)).trans ((rng_n (by omega)).trans ((eu_n (by omega)).trans ((eu_n (by omega)).trans (rng_y (by omega)))))))))))))))).symm
    · exact ((eu_n (by omega)).trans ((eu_n (by omega)).trans ((rng_n (by omega)).trans ((eu_n (by omega)).trans ((eu_n (by omega)).trans ((rng_n (by omega)).trans ((eu_n (by omega)).trans ((eu_n (by omega)).trans ((rng_n (by omega)).trans ((eu_n (by omega)).trans ((eu_n (by omega)).trans (rng_y (by omega))))))))))))).symm
    · exact ((eu_n (by omega)).trans ((eu_n (by omega)).trans ((rng_n (by omega)).trans ((eu_n (by omega)).trans ((eu_n (by omega)).trans ((rng_n (by omega)).trans ((eu_n (by omega)).trans ((eu_n (by omega)).trans (rng_y (by omega)))))))))).symm
    · exact ((eu_n (by omega)).trans ((eu_n (by omega)).trans ((rng_n (by omega)).trans ((eu_n (by omega)).trans ((eu_n (by omega)).trans (rng_y (by omega))))))).symm
    · exact ((eu_n (by omega)).trans ((eu_n (by omega)).trans (rng_y (by omega)))).symm
  · rw [rng_n hk]
    exact ((eu_n (by omega)).trans ((eu_n (by omega)).trans ((rng_n (by omega)).trans ((eu_n (by omega)).trans ((eu_n (by omega)).trans ((rng_n (by omega)).trans ((eu_n (by omega)).trans ((eu_n (by omega)).trans ((rng_n (by omega)).trans ((eu_n (by omega)).trans ((eu_n (by omega)).trans ((rng_n (by omega)).trans ((eu_n (by omega)).trans ((eu_n (by omega)).trans ((rng_n (by omega)).trans ((eu_n (by omega)).trans ((eu_n (by omega)).trans ((rng_n (by omega)).trans ((eu_n (by omega)).trans ((eu_n (by omega)).trans ((rng_n (by omega)).trans ((eu_n (by omega)).trans ((eu_n (by omega)).trans ((rng_n (by omega)).trans ((eu_n (by omega)).trans ((eu_n (by omega)).trans ((eu_n (by omega)).trans ((eu_n (by omega)).trans ((rng_n (by omega)).trans ((eu_n (by omega)).trans (rfl))))))))))))))))))))))))))))))).symm)
  exact W.vret hx hb hrt (fun t ht hW => ⟨⟨rfl, by rw [ht]; exact hz29, by rw [ht]; exact hpe⟩, hS29.F ht⟩) hS29.2.2 (by decide +kernel)
theorem kw_17 : Cond.methodLink "ThrowFlow$Flow" 5 Lib.objectInit ∈ al_w := in_w 158 (by decide +kernel) rfl
theorem kw_18 : Cond.fieldLink "ThrowFlow$Flow" 11 "ThrowFlow$Flow" "stale" "Z" ∈ al_w := in_w 160 (by decide +kernel) rfl
theorem kw_19 : Cond.fieldLink "ThrowFlow$Flow" 15 "ThrowFlow$Flow" "raised" "[I" ∈ al_w := in_w 162 (by decide +kernel) rfl
theorem kw_20 : Cond.fieldLink "ThrowFlow$Flow" 19 "ThrowFlow$Flow" "lengths" "[I" ∈ al_w := in_w 163 (by decide +kernel) rfl
theorem kw_21 : Cond.fieldLink "ThrowFlow$Flow" 22 "ThrowFlow$Flow" "passed" "[I" ∈ al_w := in_w 164 (by decide +kernel) rfl
theorem kw_22 : Cond.fieldLink "ThrowFlow$Flow" 25 "ThrowFlow$Flow" "fresh" "[I" ∈ al_w := in_w 165 (by decide +kernel) rfl
theorem kw_23 : Cond.fieldLink "ThrowFlow$Flow" 28 "ThrowFlow$Flow" "coming" "[I" ∈ al_w := in_w 166 (by decide +kernel) rfl
theorem kw_24 : Cond.fieldLink "ThrowFlow$Flow" 31 "ThrowFlow$Flow" "text" "LThrowFlow$Text;" ∈ al_w := in_w 159 (by decide +kernel) rfl
set_option maxHeartbeats 4000000 in
set_option maxRecDepth 100000 in
theorem ini3 (l : Launch) (D : va_G) (ca : Nat → ClassId) (N0 : Nat) {F : Nat → Option va_E} (hF0 : F (69) = some (.inr (3, [.null, .int 0, .null, .null, .null, .null, .null]))) : Met l yI3 wsI3 { frames := 1, cells := 5, slots := 2232, locals := 20 } (PcK D ca N0 (69 + 1) F [.ref (N0 + 69), .ref (N0 + 1)]) (QcK D N0 (75) (rng N0 ca (69) (75) F)) 5 2232 (fun x => N0 ≤ x) := by
  refine Met.ofW (cc := prog_3_method_1_code) (maxL := 2) (ret := none) (by decide +kernel) rfl ?_
  intro p e s m args below meth c s₁ B hml hv
  obtain ⟨rfl, hz, hp, hK, hkw⟩ := hv
  have hx := B.exec
  have hb := B.bytes
  have hrt := B.returns
  have hts0 := atoms_spec (ws := wsI3) B.pre
  have hts : ∀ w ∈ al_w, w.before ([.ref (N0 + 69), .ref (N0 + 1)] : List Value).toArray s = true := fun w h => hts0 w (List.mem_cons_of_mem _ h)
  have hown : s.vm.findClass "ThrowFlow$Flow" = some m.cls := findClass_of_methodNamed B.named
  have hlocks := B.notSynchronized
  have hin : meth.name = "<init>" := (name_of_methodNamed B.named B.method).1
  have hS : va_S (fun x => N0 ≤ x) s.heap s.heap [] := va_S.rf
  have hl := lv_entry [.ref (N0 + 69), .ref (N0 + 1)] (n := 2) (Nat.le_of_ble_eq_true rfl)
  rw [lg_entry_eq]
  generalize (lg_sl [.ref (N0 + 69), .ref (N0 + 1)] ++ List.replicate (2 - (lg_sl [.ref (N0 + 69), .ref (N0 + 1)]).length) Slot.unset).toArray = lsA at hl ⊢
  have hl : lv_has lsA 2 [(0, .ref (N0 + 69)), (1, .ref (N0 + 1))] := hl
  refine lv_aload_n (k := 0) hx hb (by decide +kernel) rfl (lv_at hl 0 rfl) ?_
  refine W.objInit hx hb hown (hts _ kw_17) (hts _ kiO) (hts _ kcO) rfl (by rw [hml]; exact hl.1) rfl (by show decode prog_3_method_1_code 1 = .ok (.invokespecial 5, 3); decide +kernel) (Nat.le_of_ble_eq_true rfl) (Nat.le_of_ble_eq_true rfl) ?_
  refine W.eq (g2 := F0 m 4 lsA []) rfl ?_
  refine lv_aload_n (k := 0) hx hb (by decide +kernel) rfl (lv_at hl 0 rfl) ?_
  refine lv_iconst (n := 1) (v := 1) hx hb (by decide +kernel) (by decide) ?_
  refine k_put (N0 := N0) (o := 69) (ci := 3) (k := 1) (v := .int 1) (ty := tyC 3 1) hx hb hts hK hown hin rfl (by decide) rfl kw_18 ((cls_ok 3 _ _ _ rfl).2.1 1 (by decide)) rfl rfl (hF0) (Nat.le_of_ble_eq_true rfl) hp hS (Nat.le_add_right _ _) (by decide +kernel) (fun H1 locs1 hp1 hy1 hS1 => ?_)
  have hz1 := hy1.trans hz
  refine lv_aload_n (k := 0) hx hb (by decide +kernel) rfl (lv_at hl 0 rfl) ?_
  refine lv_sipush (n := 192) (v := 192) hx hb (by decide +kernel) (by decide) ?_
  refine k_newi (N0 := N0) (o := 70) (N := 192) hx hb hts hK kaI (by decide) (by decide) (by decide) hp1 hz1 hS1 (Nat.le_of_ble_eq_true rfl) (Nat.le_of_ble_eq_true rfl) (by decide +kernel) (fun H2 hp2 hz2 hS2 => ?_)
  refine k_put (N0 := N0) (o := 69) (ci := 3) (k := 2) (v := .ref (N0 + 70)) (ty := tyC 3 2) hx hb hts hK hown hin rfl (by decide) rfl kw_19 ((cls_ok 3 _ _ _ rfl).2.1 2 (by decide)) rfl rfl ((eu_n (by omega)).trans (eu_s)) (Nat.le_of_ble_eq_true rfl) hp2 hS2 (Nat.le_add_right _ _) (by decide +kernel) (fun H3 locs3 hp3 hy3 hS3 => ?_)
  have hz3 := hy3.trans hz2
  refine lv_aload_n (k := 0) hx hb (by decide +kernel) rfl (lv_at hl 0 rfl) ?_
  refine lv_sipush (n := 1920) (v := 1920) hx hb (by decide +kernel) (by decide) ?_
  refine k_newi (N0 := N0) (o := 71) (N := 1920) hx hb hts hK kaI (by decide) (by decide) (by decide) hp3 hz3 hS3 (Nat.le_of_ble_eq_true rfl) (Nat.le_of_ble_eq_true rfl) (by decide +kernel) (fun H4 hp4 hz4 hS4 => ?_)
  refine k_put (N0 := N0) (o := 69) (ci := 3) (k := 3) (v := .ref (N0 + 71)) (ty := tyC 3 3) hx hb hts hK hown hin rfl (by decide) rfl kw_20 ((cls_ok 3 _ _ _ rfl).2.1 3 (by decide)) rfl rfl ((eu_n (by omega)).trans (eu_s)) (Nat.le_of_ble_eq_true rfl) hp4 hS4 (Nat.le_add_right _ _) (by decide +kernel) (fun H5 locs5 hp5 hy5 hS5 => ?_)
  have hz5 := hy5.trans hz4
  refine lv_aload_n (k := 0) hx hb (by decide +kernel) rfl (lv_at hl 0 rfl) ?_
  refine lv_bipush (n := 40) (v := 40) hx hb (by decide +kernel) (by decide) ?_
  refine k_newi (N0 := N0) (o := 72) (N := 40) hx hb hts hK kaI (by decide) (by decide) (by decide) hp5 hz5 hS5 (Nat.le_of_ble_eq_true rfl) (Nat.le_of_ble_eq_true rfl) (by decide +kernel) (fun H6 hp6 hz6 hS6 => ?_)
  refine k_put (N0 := N0) (o := 69) (ci := 3) (k := 4) (v := .ref (N0 + 72)) (ty := tyC 3 4) hx hb hts hK hown hin rfl (by decide) rfl kw_21 ((cls_ok 3 _ _ _ rfl).2.1 4 (by decide)) rfl rfl ((eu_n (by omega)).trans (eu_s)) (Nat.le_of_ble_eq_true rfl) hp6 hS6 (Nat.le_add_right _ _) (by decide +kernel) (fun H7 locs7 hp7 hy7 hS7 => ?_)
  have hz7 := hy7.trans hz6
  refine lv_aload_n (k := 0) hx hb (by decide +kernel) rfl (lv_at hl 0 rfl) ?_
  refine lv_bipush (n := 40) (v := 40) hx hb (by decide +kernel) (by decide) ?_
  refine k_newi (N0 := N0) (o := 73) (N := 40) hx hb hts hK kaI (by decide) (by decide) (by decide) hp7 hz7 hS7 (Nat.le_of_ble_eq_true rfl) (Nat.le_of_ble_eq_true rfl) (by decide +kernel) (fun H8 hp8 hz8 hS8 => ?_)
  refine k_put (N0 := N0) (o := 69) (ci := 3) (k := 5) (v := .ref (N0 + 73)) (ty := tyC 3 5) hx hb hts hK hown hin rfl (by decide) rfl kw_22 ((cls_ok 3 _ _ _ rfl).2.1 5 (by decide)) rfl rfl ((eu_n (by omega)).trans (eu_s)) (Nat.le_of_ble_eq_true rfl) hp8 hS8 (Nat.le_add_right _ _) (by decide +kernel) (fun H9 locs9 hp9 hy9 hS9 => ?_)
  have hz9 := hy9.trans hz8
  refine lv_aload_n (k := 0) hx hb (by decide +kernel) rfl (lv_at hl 0 rfl) ?_
  refine lv_bipush (n := 40) (v := 40) hx hb (by decide +kernel) (by decide) ?_
  refine k_newi (N0 := N0) (o := 74) (N := 40) hx hb hts hK kaI (by decide) (by decide) (by decide) hp9 hz9 hS9 (Nat.le_of_ble_eq_true rfl) (Nat.le_of_ble_eq_true rfl) (by decide +kernel) (fun H10 hp10 hz10 hS10 => ?_)
  refine k_put (N0 := N0) (o := 69) (ci := 3) (k := 6) (v := .ref (N0 + 74)) (ty := tyC 3 6) hx hb hts hK hown hin rfl (by decide) rfl kw_23 ((cls_ok 3 _ _ _ rfl).2.1 6 (by decide)) rfl rfl ((eu_n (by omega)).trans (eu_s)) (Nat.le_of_ble_eq_true rfl) hp10 hS10 (Nat.le_add_right _ _) (by decide +kernel) (fun H11 locs11 hp11 hy11 hS11 => ?_)
  have hz11 := hy11.trans hz10
  refine lv_aload_n (k := 0) hx hb (by decide +kernel) rfl (lv_at hl 0 rfl) ?_
  refine lv_aload_n (k := 1) hx hb (by decide +kernel) rfl (lv_at hl 1 rfl) ?_
  refine k_put (N0 := N0) (o := 69) (ci := 3) (k := 0) (v := .ref (N0 + 1)) (ty := tyC 3 0) hx hb hts hK hown hin rfl (by decide) rfl kw_24 ((cls_ok 3 _ _ _ rfl).2.1 0 (by decide)) rfl rfl (eu_s) (Nat.le_of_ble_eq_true rfl) hp11 hS11 (Nat.le_add_right _ _) (by decide +kernel) (fun H12 locs12 hp12 hy12 hS12 => ?_)
  have hz12 := hy12.trans hz11
  have hpe := pw.of (F' := rng N0 ca (69) (75) F) hp12 (fun k => by
  by_cases hk : (69) ≤ k ∧ k < (75)
  · rw [rng_y hk]
    obtain h | h | h | h | h | h : k = 69 ∨ k = 70 ∨ k = 71 ∨ k = 72 ∨ k = 73 ∨ k = 74 := by omega
    · subst h; rfl
    · subst h; rfl
    · subst h; rfl
    · subst h; rfl
    · subst h; rfl
    · subst h; rfl
  · rw [rng_n hk]
    exact ((eu_n (by omega)).trans ((eu_n (by omega)).trans ((eu_n (by omega)).trans ((eu_n (by omega)).trans ((eu_n (by omega)).trans ((eu_n (by omega)).trans ((eu_n (by omega)).trans ((eu_n (by omega)).trans ((eu_n (by omega)).trans ((eu_n (by omega)).trans ((eu_n (by omega)).trans ((eu_n (by omega)).trans (rfl))))))))))))).symm)
  exact W.vret hx hb hrt (fun t ht hW => ⟨⟨rfl, by rw [ht]; exact hz12, by rw [ht]; exact hpe⟩, hS12.F ht⟩) hS12.2.2 (by decide +kernel)
theorem kw_25 : Cond.methodLink "ThrowFlow$Machine" 3 Lib.objectInit ∈ al_w := in_w 187 (by decide +kernel) rfl
theorem kw_26 : Cond.fieldLink "ThrowFlow$Machine" 9 "ThrowFlow$Machine" "methods" "[I" ∈ al_w := in_w 189 (by decide +kernel) rfl
theorem kw_27 : Cond.fieldLink "ThrowFlow$Machine" 15 "ThrowFlow$Machine" "places" "[I" ∈ al_w := in_w 190 (by decide +kernel) rfl
theorem kw_28 : Cond.fieldLink "ThrowFlow$Machine" 18 "ThrowFlow$Machine" "registers" "[I" ∈ al_w := in_w 191 (by decide +kernel) rfl
theorem kw_29 : Cond.fieldLink "ThrowFlow$Machine" 21 "ThrowFlow$Machine" "caught" "[I" ∈ al_w := in_w 192 (by decide +kernel) rfl
theorem kw_30 : Cond.fieldLink "ThrowFlow$Machine" 24 "ThrowFlow$Machine" "cameOut" "I" ∈ al_w := in_w 198 (by decide +kernel) rfl
theorem kw_31 : Cond.fieldLink "ThrowFlow$Machine" 28 "ThrowFlow$Machine" "text" "LThrowFlow$Text;" ∈ al_w := in_w 188 (by decide +kernel) rfl
set_option maxHeartbeats 4000000 in
set_option maxRecDepth 100000 in
theorem ini4 (l : Launch) (D : va_G) (ca : Nat → ClassId) (N0 : Nat) {F : Nat → Option va_E} (hF0 : F (75) = some (.inr (4, [.null, .null, .null, .null, .null, .int 0, .int 0, .int 0, .int 0]))) : Met l yI4 wsI4 { frames := 1, cells := 4, slots := 120, locals := 20 } (PcK D ca N0 (75 + 1) F [.ref (N0 + 75), .ref (N0 + 1)]) (QcK D N0 (80) (rng N0 ca (75) (80) F)) 4 120 (fun x => N0 ≤ x) := by
  refine Met.ofW (cc := prog_5_method_1_code) (maxL := 2) (ret := none) (by decide +kernel) rfl ?_
  intro p e s m args below meth c s₁ B hml hv
  obtain ⟨rfl, hz, hp, hK, hkw⟩ := hv
  have hx := B.exec
  have hb := B.bytes
  have hrt := B.returns
  have hts0 := atoms_spec (ws := wsI4) B.pre
  have hts : ∀ w ∈ al_w, w.before ([.ref (N0 + 75), .ref (N0 + 1)] : List Value).toArray s = true := fun w h => hts0 w (List.mem_cons_of_mem _ h)
  have hown : s.vm.findClass "ThrowFlow$Machine" = some m.cls := findClass_of_methodNamed B.named
  have hlocks := B.notSynchronized
  have hin : meth.name = "<init>" := (name_of_methodNamed B.named B.method).1
  have hS : va_S (fun x => N0 ≤ x) s.heap s.heap [] := va_S.rf
  have hl := lv_entry [.ref (N0 + 75), .ref (N0 + 1)] (n := 2) (Nat.le_of_ble_eq_true rfl)
  rw [lg_entry_eq]
  generalize (lg_sl [.ref (N0 + 75), .ref (N0 + 1)] ++ List.replicate (2 - (lg_sl [.ref (N0 + 75), .ref (N0 + 1)]).length) Slot.unset).toArray = lsA at hl ⊢
  have hl : lv_has lsA 2 [(0, .ref (N0 + 75)), (1, .ref (N0 + 1))] := hl
  refine lv_aload_n (k := 0) hx hb (by decide +kernel) rfl (lv_at hl 0 rfl) ?_
  refine W.objInit hx hb hown (hts _ kw_25) (hts _ kiO) (hts _ kcO) rfl (by rw [hml]; exact hl.1) rfl (by show decode prog_5_method_1_code 1 = .ok (.invokespecial 3, 3); decide +kernel) (Nat.le_of_ble_eq_true rfl) (Nat.le_of_ble_eq_true rfl) ?_
  refine W.eq (g2 := F0 m 4 lsA []) rfl ?_
  refine lv_aload_n (k := 0) hx hb (by decide +kernel) rfl (lv_at hl 0 rfl) ?_
  refine lv_bipush (n := 12) (v := 12) hx hb (by decide +kernel) (by decide) ?_
  refine k_newi (N0 := N0) (o := 76) (N := 12) hx hb hts hK kaI (by decide) (by decide) (by decide) hp hz hS (Nat.le_of_ble_eq_true rfl) (Nat.le_of_ble_eq_true rfl) (by decide +kernel) (fun H1 hp1 hz1 hS1 => ?_)
  refine k_put (N0 := N0) (o := 75) (ci := 4) (k := 1) (v := .ref (N0 + 76)) (ty := tyC 4 1) hx hb hts hK hown hin rfl (by decide) rfl kw_26 ((cls_ok 4 _ _ _ rfl).2.1 1 (by decide)) rfl rfl ((eu_n (by omega)).trans (hF0)) (Nat.le_of_ble_eq_true rfl) hp1 hS1 (Nat.le_add_right _ _) (by decide +kernel) (fun H2 locs2 hp2 hy2 hS2 => ?_)
  have hz2 := hy2.trans hz1
  refine lv_aload_n (k := 0) hx hb (by decide +kernel) rfl (lv_at hl 0 rfl) ?_
  refine lv_bipush (n := 12) (v := 12) hx hb (by decide +kernel) (by decide) ?_
  refine k_newi (N0 := N0) (o := 77) (N := 12) hx hb hts hK kaI (by decide) (by decide) (by decide) hp2 hz2 hS2 (Nat.le_of_ble_eq_true rfl) (Nat.le_of_ble_eq_true rfl) (by decide +kernel) (fun H3 hp3 hz3 hS3 => ?_)
  refine k_put (N0 := N0) (o := 75) (ci := 4) (k := 2) (v := .ref (N0 + 77)) (ty := tyC 4 2) hx hb hts hK hown hin rfl (by decide) rfl kw_27 ((cls_ok 4 _ _ _ rfl).2.1 2 (by decide)) rfl rfl ((eu_n (by omega)).trans (eu_s)) (Nat.le_of_ble_eq_true rfl) hp3 hS3 (Nat.le_add_right _ _) (by decide +kernel) (fun H4 locs4 hp4 hy4 hS4 => ?_)
  have hz4 := hy4.trans hz3
  refine lv_aload_n (k := 0) hx hb (by decide +kernel) rfl (lv_at hl 0 rfl) ?_
  refine lv_bipush (n := 48) (v := 48) hx hb (by decide +kernel) (by decide) ?_
  refine k_newi (N0 := N0) (o := 78) (N := 48) hx hb hts hK kaI (by decide) (by decide) (by decide) hp4 hz4 hS4 (Nat.le_of_ble_eq_true rfl) (Nat.le_of_ble_eq_true rfl) (by decide +kernel) (fun H5 hp5 hz5 hS5 => ?_)
  refine k_put (N0 := N0) (o := 75) (ci := 4) (k := 3) (v := .ref (N0 + 78)) (ty := tyC 4 3) hx hb hts hK hown hin rfl (by decide) rfl kw_28 ((cls_ok 4 _ _ _ rfl).2.1 3 (by decide)) rfl rfl ((eu_n (by omega)).trans (eu_s)) (Nat.le_of_ble_eq_true rfl) hp5 hS5 (Nat.le_add_right _ _) (by decide +kernel) (fun H6 locs6 hp6 hy6 hS6 => ?_)
  have hz6 := hy6.trans hz5
  refine lv_aload_n (k := 0) hx hb (by decide +kernel) rfl (lv_at hl 0 rfl) ?_
  refine lv_bipush (n := 48) (v := 48) hx hb (by decide +kernel) (by decide) ?_
  refine k_newi (N0 := N0) (o := 79) (N := 48) hx hb hts hK kaI (by decide) (by decide) (by decide) hp6 hz6 hS6 (Nat.le_of_ble_eq_true rfl) (Nat.le_of_ble_eq_true rfl) (by decide +kernel) (fun H7 hp7 hz7 hS7 => ?_)
  refine k_put (N0 := N0) (o := 75) (ci := 4) (k := 4) (v := .ref (N0 + 79)) (ty := tyC 4 4) hx hb hts hK hown hin rfl (by decide) rfl kw_29 ((cls_ok 4 _ _ _ rfl).2.1 4 (by decide)) rfl rfl ((eu_n (by omega)).trans (eu_s)) (Nat.le_of_ble_eq_true rfl) hp7 hS7 (Nat.le_add_right _ _) (by decide +kernel) (fun H8 locs8 hp8 hy8 hS8 => ?_)
  have hz8 := hy8.trans hz7
  refine lv_aload_n (k := 0) hx hb (by decide +kernel) rfl (lv_at hl 0 rfl) ?_
  refine lv_iconst (n := (-1)) (v := (-1)) hx hb (by decide +kernel) (by decide) ?_
  refine k_put (N0 := N0) (o := 75) (ci := 4) (k := 8) (v := .int (-1)) (ty := tyC 4 8) hx hb hts hK hown hin rfl (by decide) rfl kw_30 ((cls_ok 4 _ _ _ rfl).2.1 8 (by decide)) rfl rfl (eu_s) (Nat.le_of_ble_eq_true rfl) hp8 hS8 (Nat.le_add_right _ _) (by decide +kernel) (fun H9 locs9 hp9 hy9 hS9 => ?_)
  have hz9 := hy9.trans hz8
  refine lv_aload_n (k := 0) hx hb (by decide +kernel) rfl (lv_at hl 0 rfl) ?_
  refine lv_aload_n (k := 1) hx hb (by decide +kernel) rfl (lv_at hl 1 rfl) ?_
  refine k_put (N0 := N0) (o := 75) (ci := 4) (k := 0) (v := .ref (N0 + 1)) (ty := tyC 4 0) hx hb hts hK hown hin rfl (by decide) rfl kw_31 ((cls_ok 4 _ _ _ rfl).2.1 0 (by decide)) rfl rfl (eu_s) (Nat.le_of_ble_eq_true rfl) hp9 hS9 (Nat.le_add_right _ _) (by decide +kernel) (fun H10 locs10 hp10 hy10 hS10 => ?_)
  have hz10 := hy10.trans hz9
  have hpe := pw.of (F' := rng N0 ca (75) (80) F) hp10 (fun k => by
  by_cases hk : (75) ≤ k ∧ k < (80)
  · rw [rng_y hk]
    obtain h | h | h | h | h : k = 75 ∨ k = 76 ∨ k = 77 ∨ k = 78 ∨ k = 79 := by omega
    · subst h; rfl
    · subst h; rfl
    · subst h; rfl
    · subst h; rfl
    · subst h; rfl
  · rw [rng_n hk]
    exact ((eu_n (by omega)).trans ((eu_n (by omega)).trans ((eu_n (by omega)).trans ((eu_n (by omega)).trans ((eu_n (by omega)).trans ((eu_n (by omega)).trans ((eu_n (by omega)).trans ((eu_n (by omega)).trans ((eu_n (by omega)).trans ((eu_n (by omega)).trans (rfl))))))))))).symm)
  exact W.vret hx hb hrt (fun t ht hW => ⟨⟨rfl, by rw [ht]; exact hz10, by rw [ht]; exact hpe⟩, hS10.F ht⟩) hS10.2.2 (by decide +kernel)
theorem kw_32 : Cond.methodLink "ThrowFlow" 1 Lib.objectInit ∈ al_w := in_w 67 (by decide +kernel) rfl
theorem kw_33 : Cond.classLink "ThrowFlow" 7 "ThrowFlow$Text" ∈ al_w := in_w 70 (by decide +kernel) rfl
theorem kw_34 : Cond.methodLink "ThrowFlow" 9 yI1 ∈ al_w := in_w 72 (by decide +kernel) rfl
theorem kw_35 : Cond.fieldLink "ThrowFlow" 10 "ThrowFlow" "text" "LThrowFlow$Text;" ∈ al_w := in_w 219 (by decide +kernel) rfl
theorem kw_36 : Cond.classLink "ThrowFlow" 16 "ThrowFlow$Flow" ∈ al_w := in_w 153 (by decide +kernel) rfl
theorem kw_37 : Cond.methodLink "ThrowFlow" 18 yI3 ∈ al_w := in_w 155 (by decide +kernel) rfl
theorem kw_38 : Cond.fieldLink "ThrowFlow" 21 "ThrowFlow" "flow" "LThrowFlow$Flow;" ∈ al_w := in_w 220 (by decide +kernel) rfl
theorem kw_39 : Cond.classLink "ThrowFlow" 25 "ThrowFlow$Machine" ∈ al_w := in_w 182 (by decide +kernel) rfl
theorem kw_40 : Cond.methodLink "ThrowFlow" 27 yI4 ∈ al_w := in_w 184 (by decide +kernel) rfl
theorem kw_41 : Cond.fieldLink "ThrowFlow" 28 "ThrowFlow" "machine" "LThrowFlow$Machine;" ∈ al_w := in_w 221 (by decide +kernel) rfl
set_option maxHeartbeats 4000000 in
set_option maxRecDepth 100000 in
theorem ini0 (l : Launch) (D : va_G) (ca : Nat → ClassId) (N0 : Nat) {F : Nat → Option va_E} (hF0 : F (0) = some (.inr (0, [.null, .null, .null]))) : Met l yI0 wsI0 { frames := 3, cells := 79, slots := 3167, locals := 80 } (PcK D ca N0 (0 + 1) F [.ref (N0 + 0)]) (QcK D N0 (80) (rng N0 ca (0) (80) F)) 79 3167 (fun x => N0 ≤ x) := by
  refine Met.ofW (cc := prog_1_method_1_code) (maxL := 1) (ret := none) (by decide +kernel) rfl ?_
  intro p e s m args below meth c s₁ B hml hv
  obtain ⟨rfl, hz, hp, hK, hkw⟩ := hv
  have hx := B.exec
  have hb := B.bytes
  have hrt := B.returns
  have hts0 := atoms_spec (ws := wsI0) B.pre
  have hts : ∀ w ∈ al_w, w.before ([.ref (N0 + 0)] : List Value).toArray s = true := fun w h => hts0 w (List.mem_cons_of_mem _ h)
  have hown : s.vm.findClass "ThrowFlow" = some m.cls := findClass_of_methodNamed B.named
  have hlocks := B.notSynchronized
  have hin : meth.name = "<init>" := (name_of_methodNamed B.named B.method).1
  have hS : va_S (fun x => N0 ≤ x) s.heap s.heap [] := va_S.rf
  have hl := lv_entry [.ref (N0 + 0)] (n := 1) (Nat.le_of_ble_eq_true rfl)
  rw [lg_entry_eq]
  generalize (lg_sl [.ref (N0 + 0)] ++ List.replicate (1 - (lg_sl [.ref (N0 + 0)]).length) Slot.unset).toArray = lsA at hl ⊢
  have hl : lv_has lsA 1 [(0, .ref (N0 + 0))] := hl
  refine lv_aload_n (k := 0) hx hb (by decide +kernel) rfl (lv_at hl 0 rfl) ?_
  refine W.objInit hx hb hown (hts _ kw_32) (hts _ kiO) (hts _ kcO) rfl (by rw [hml]; exact hl.1) rfl (by show decode prog_1_method_1_code 1 = .ok (.invokespecial 1, 3); decide +kernel) (Nat.le_of_ble_eq_true rfl) (Nat.le_of_ble_eq_true rfl) ?_
  refine W.eq (g2 := F0 m 4 lsA []) rfl ?_
  refine lv_aload_n (k := 0) hx hb (by decide +kernel) rfl (lv_at hl 0 rfl) ?_
  refine k_new (N0 := N0) (o := 1) (ci := 1) (fs := [.null, .null, .int 0]) hx hb hts hK hown rfl kw_33 kn1 kt1 dv1 hp hz hS (Nat.le_of_ble_eq_true rfl) (Nat.le_of_ble_eq_true rfl) (by decide +kernel) (fun H1 hp1 hz1 hS1 => ?_)
  refine lv_dup hx hb (by decide +kernel) rfl ?_
  refine k_go (va_runI (As := []) (b := N0 + 1) (rest := [.ref (N0 + 1), .ref (N0 + 0)]) ⟨hx, hb, hml, hown, hts⟩ (ini1 l D ca N0  (F := _) (eu_s)) (cwI 0 hts kg1 rfl rfl rfl (hts _ kt1) (hts _ kw_34) (hts _ km1) rfl (by decide +kernel) ⟨Nat.le_of_ble_eq_true rfl, Nat.le_of_ble_eq_true rfl⟩) ⟨PcK_blind, fun U hU hW => ⟨rfl, by rw [hU]; exact hz1, by rw [hU]; exact hp1, Kp.moved hW.alike hK, kw.to hW hkw⟩⟩ rfl rfl hl.1 rfl (Nat.le_of_ble_eq_true rfl) (by show decode prog_1_method_1_code 9 = .ok (.invokespecial 9, 3); decide +kernel) ⟨Nat.le_of_ble_eq_true rfl, Nat.le_of_ble_eq_true rfl⟩) hS1 (fun _ h => h) (fun H2 locs2 hp2 hz2 hS2 => ?_)
  refine k_put (N0 := N0) (o := 0) (ci := 0) (k := 0) (v := .ref (N0 + 1)) (ty := tyC 0 0) hx hb hts hK hown hin rfl (by decide) rfl kw_35 ((cls_ok 0 _ _ _ rfl).2.1 0 (by decide)) rfl rfl ((rng_n (by omega)).trans ((eu_n (by omega)).trans (hF0))) (Nat.le_of_ble_eq_true rfl) hp2 hS2 (Nat.le_add_right _ _) (by decide +kernel) (fun H3 locs3 hp3 hy3 hS3 => ?_)
  have hz3 := hy3.trans hz2
  refine lv_aload_n (k := 0) hx hb (by decide +kernel) rfl (lv_at hl 0 rfl) ?_
  refine k_new (N0 := N0) (o := 69) (ci := 3) (fs := [.null, .int 0, .null, .null, .null, .null, .null]) hx hb hts hK hown rfl kw_36 kn3 kt3 dv3 hp3 hz3 hS3 (Nat.le_of_ble_eq_true rfl) (Nat.le_of_ble_eq_true rfl) (by decide +kernel) (fun H4 hp4 hz4 hS4 => ?_)
  refine lv_dup hx hb (by decide +kernel) rfl ?_
  refine lv_aload_n (k := 0) hx hb (by decide +kernel) rfl (lv_at hl 0 rfl) ?_
  refine k_get (N0 := N0) (o := 0) (ci := 0) (k := 0) (v := .ref (N0 + 1)) hx hb hts hK hown rfl (by decide) kw_35 ((eu_n (by omega)).trans (eu_s)) rfl hp4 (by decide +kernel) ?_
  refine k_go (va_runI (As := [.ref (N0 + 1)]) (b := N0 + 69) (rest := [.ref (N0 + 69), .ref (N0 + 0)]) ⟨hx, hb, hml, hown, hts⟩ (ini3 l D ca N0  (F := _) (eu_s)) (cwI 1 hts kg3 rfl rfl rfl (hts _ kt3) (hts _ kw_37) (hts _ km3) rfl (by decide +kernel) ⟨Nat.le_of_ble_eq_true rfl, Nat.le_of_ble_eq_true rfl⟩) ⟨PcK_blind, fun U hU hW => ⟨rfl, by rw [hU]; exact hz4, by rw [hU]; exact hp4, Kp.moved hW.alike hK, kw.to hW hkw⟩⟩ rfl rfl hl.1 rfl (Nat.le_of_ble_eq_true rfl) (by show decode prog_1_method_1_code 24 = .ok (.invokespecial 18, 3); decide +kernel) ⟨Nat.le_of_ble_eq_true rfl, Nat.le_of_ble_eq_true rfl⟩) hS4 (fun _ h => h) (fun H5 locs5 hp5 hz5 hS5 => ?_)
  refine k_put (N0 := N0) (o := 0) (ci := 0) (k := 1) (v := .ref (N0 + 69)) (ty := tyC 0 1) hx hb hts hK hown hin rfl (by decide) rfl kw_38 ((cls_ok 0 _ _ _ rfl).2.1 1 (by decide)) rfl rfl ((rng_n (by omega)).trans ((eu_n (by omega)).trans (eu_s))) (Nat.le_of_ble_eq_true rfl) hp5 hS5 (Nat.le_add_right _ _) (by decide +kernel) (fun H6 locs6 hp6 hy6 hS6 => ?_)
  have hz6 := hy6.trans hz5
  refine lv_aload_n (k := 0) hx hb (by decide +kernel) rfl (lv_at hl 0 rfl) ?_
  refine k_new (N0 := N0) (o := 75) (ci := 4) (fs := [.null, .null, .null, .null, .null, .int 0, .int 0, .int 0, .int 0]) hx hb hts hK hown rfl kw_39 kn4 kt4 dv4 hp6 hz6 hS6 (Nat.le_of_ble_eq_true rfl) (Nat.le_of_ble_eq_true rfl) (by decide +kernel) (fun H7 hp7 hz7 hS7 => ?_)
  refine lv_dup hx hb (by decide +kernel) rfl ?_
  refine lv_aload_n (k := 0) hx hb (by decide +kernel) rfl (lv_at hl 0 rfl) ?_
  refine k_get (N0 := N0) (o := 0) (ci := 0) (k := 0) (v := .ref (N0 + 1)) hx hb hts hK hown rfl (by decide) kw_35 ((eu_n (by omega)).trans (eu_s)) rfl hp7 (by decide +kernel) ?_
  refine k_go (va_runI (As := [.ref (N0 + 1)]) (b := N0 + 75) (rest := [.ref (N0 + 75), .ref (N0 + 0)]) ⟨hx, hb, hml, hown, hts⟩ (ini4 l D ca N0  (F := _) (eu_s)) (cwI 1 hts kg4 rfl rfl rfl (hts _ kt4) (hts _ kw_40) (hts _ km4) rfl (by decide +kernel) ⟨Nat.le_of_ble_eq_true rfl, Nat.le_of_ble_eq_true rfl⟩) ⟨PcK_blind, fun U hU hW => ⟨rfl, by rw [hU]; exact hz7, by rw [hU]; exact hp7, Kp.moved hW.alike hK, kw.to hW hkw⟩⟩ rfl rfl hl.1 rfl (Nat.le_of_ble_eq_true rfl) (by show decode prog_1_method_1_code 39 = .ok (.invokespecial 27, 3); decide +kernel) ⟨Nat.le_of_ble_eq_true rfl, Nat.le_of_ble_eq_true rfl⟩) hS7 (fun _ h => h) (fun H8 locs8 hp8 hz8 hS8 => ?_)
  refine k_put (N0 := N0) (o := 0) (ci := 0) (k := 2) (v := .ref (N0 + 75)) (ty := tyC 0 2) hx hb hts hK hown hin rfl (by decide) rfl kw_41 ((cls_ok 0 _ _ _ rfl).2.1 2 (by decide)) rfl rfl ((rng_n (by omega)).trans ((eu_n (by omega)).trans (eu_s))) (Nat.le_of_ble_eq_true rfl) hp8 hS8 (Nat.le_add_right _ _) (by decide +kernel) (fun H9 locs9 hp9 hy9 hS9 => ?_)
  have hz9 := hy9.trans hz8
  have hpe := pw.of (F' := rng N0 ca (0) (80) F) hp9 (fun k => by
  by_cases hk : (0) ≤ k ∧ k < (80)
  · rw [rng_y hk]
    obtain h | h | h | h : k = 0 ∨ (1 ≤ k ∧ k < 69) ∨ (69 ≤ k ∧ k < 75) ∨ (75 ≤ k ∧ k < 80) := by omega
    · subst h; rfl
    · exact ((eu_n (by omega)).trans ((rng_n (by omega)).trans ((eu_n (by omega)).trans ((eu_n (by omega)).trans ((rng_n (by omega)).trans ((eu_n (by omega)).trans ((eu_n (by omega)).trans (rng_y (by omega))))))))).symm
    · exact ((eu_n (by omega)).trans ((rng_n (by omega)).trans ((eu_n (by omega)).trans ((eu_n (by omega)).trans (rng_y (by omega)))))).symm
    · exact ((eu_n (by omega)).trans (rng_y (by omega))).symm
  · rw [rng_n hk]
    exact ((eu_n (by omega)).trans ((rng_n (by omega)).trans ((eu_n (by omega)).trans ((eu_n (by omega)).trans ((rng_n (by omega)).trans ((eu_n (by omega)).trans ((eu_n (by omega)).trans ((rng_n (by omega)).trans ((eu_n (by omega)).trans (rfl)))))))))).symm)
  exact W.vret hx hb hrt (fun t ht hW => ⟨⟨rfl, by rw [ht]; exact hz9, by rw [ht]; exact hpe⟩, hS9.F ht⟩) hS9.2.2 (by decide +kernel)
theorem kw_42 : Cond.methodLink "ThrowFlowModel" 1 Lib.objectInit ∈ al_w := in_w 654 (by decide +kernel) rfl
theorem kw_43 : Cond.fieldLink "ThrowFlowModel" 7 "ThrowFlowModel" "kinds" "I" ∈ al_w := in_w 656 (by decide +kernel) rfl
theorem kw_44 : Cond.fieldLink "ThrowFlowModel" 13 "ThrowFlowModel" "parents" "[I" ∈ al_w := in_w 657 (by decide +kernel) rfl
theorem kw_45 : Cond.fieldLink "ThrowFlowModel" 17 "ThrowFlowModel" "sizes" "[I" ∈ al_w := in_w 659 (by decide +kernel) rfl
theorem kw_46 : Cond.fieldLink "ThrowFlowModel" 20 "ThrowFlowModel" "codes" "[I" ∈ al_w := in_w 660 (by decide +kernel) rfl
theorem kw_47 : Cond.fieldLink "ThrowFlowModel" 23 "ThrowFlowModel" "firstNumbers" "[I" ∈ al_w := in_w 661 (by decide +kernel) rfl
theorem kw_48 : Cond.fieldLink "ThrowFlowModel" 26 "ThrowFlowModel" "secondNumbers" "[I" ∈ al_w := in_w 662 (by decide +kernel) rfl
theorem kw_49 : Cond.fieldLink "ThrowFlowModel" 29 "ThrowFlowModel" "handlers" "[I" ∈ al_w := in_w 663 (by decide +kernel) rfl
theorem kw_50 : Cond.fieldLink "ThrowFlowModel" 32 "ThrowFlowModel" "firsts" "[I" ∈ al_w := in_w 664 (by decide +kernel) rfl
theorem kw_51 : Cond.fieldLink "ThrowFlowModel" 35 "ThrowFlowModel" "lasts" "[I" ∈ al_w := in_w 665 (by decide +kernel) rfl
theorem kw_52 : Cond.fieldLink "ThrowFlowModel" 38 "ThrowFlowModel" "handled" "[I" ∈ al_w := in_w 666 (by decide +kernel) rfl
theorem kw_53 : Cond.fieldLink "ThrowFlowModel" 41 "ThrowFlowModel" "targets" "[I" ∈ al_w := in_w 667 (by decide +kernel) rfl
theorem kw_54 : Cond.fieldLink "ThrowFlowModel" 44 "ThrowFlowModel" "stale" "Z" ∈ al_w := in_w 668 (by decide +kernel) rfl
theorem kw_55 : Cond.fieldLink "ThrowFlowModel" 48 "ThrowFlowModel" "lengths" "[I" ∈ al_w := in_w 669 (by decide +kernel) rfl
theorem kw_56 : Cond.fieldLink "ThrowFlowModel" 51 "ThrowFlowModel" "running" "[I" ∈ al_w := in_w 671 (by decide +kernel) rfl
theorem kw_57 : Cond.fieldLink "ThrowFlowModel" 54 "ThrowFlowModel" "places" "[I" ∈ al_w := in_w 672 (by decide +kernel) rfl
theorem kw_58 : Cond.fieldLink "ThrowFlowModel" 57 "ThrowFlowModel" "registers" "[I" ∈ al_w := in_w 673 (by decide +kernel) rfl
theorem kw_59 : Cond.fieldLink "ThrowFlowModel" 60 "ThrowFlowModel" "caught" "[I" ∈ al_w := in_w 674 (by decide +kernel) rfl
theorem kw_60 : Cond.fieldLink "ThrowFlowModel" 63 "ThrowFlowModel" "came" "I" ∈ al_w := in_w 676 (by decide +kernel) rfl
set_option maxHeartbeats 4000000 in
set_option maxRecDepth 100000 in
theorem ini6 (l : Launch) (D : va_G) (ca : Nat → ClassId) (N0 : Nat) {F : Nat → Option va_E} (hF0 : F (80) = some (.inr (6, [.int 0, .int 0, .null, .int 0, .null, .null, .null, .null, .null, .null, .null, .null, .null, .int 0, .null, .int 0, .null, .null, .null, .null, .int 0, .int 0, .int 0]))) : Met l yI6 wsI6 { frames := 1, cells := 15, slots := 2770, locals := 20 } (PcK D ca N0 (80 + 1) F [.ref (N0 + 80)]) (QcK D N0 (96) (rng N0 ca (80) (96) F)) 15 2770 (fun x => N0 ≤ x) := by
  refine Met.ofW (cc := prog_8_method_1_code) (maxL := 1) (ret := none) (by decide +kernel) rfl ?_
  intro p e s m args below meth c s₁ B hml hv
  obtain ⟨rfl, hz, hp, hK, hkw⟩ := hv
  have hx := B.exec
  have hb := B.bytes
  have hrt := B.returns
  have hts0 := atoms_spec (ws := wsI6) B.pre
  have hts : ∀ w ∈ al_w, w.before ([.ref (N0 + 80)] : List Value).toArray s = true := fun w h => hts0 w (List.mem_cons_of_mem _ h)
  have hown : s.vm.findClass "ThrowFlowModel" = some m.cls := findClass_of_methodNamed B.named
  have hlocks := B.notSynchronized
  have hin : meth.name = "<init>" := (name_of_methodNamed B.named B.method).1
  have hS : va_S (fun x => N0 ≤ x) s.heap s.heap [] := va_S.rf
  have hl := lv_entry [.ref (N0 + 80)] (n := 1) (Nat.le_of_ble_eq_true rfl)
  rw [lg_entry_eq]
  generalize (lg_sl [.ref (N0 + 80)] ++ List.replicate (1 - (lg_sl [.ref (N0 + 80)]).length) Slot.unset).toArray = lsA at hl ⊢
  have hl : lv_has lsA 1 [(0, .ref (N0 + 80))] := hl
  refine lv_aload_n (k := 0) hx hb (by decide +kernel) rfl (lv_at hl 0 rfl) ?_
  refine W.objInit hx hb hown (hts _ kw_42) (hts _ kiO) (hts _ kcO) rfl (by rw [hml]; exact hl.1) rfl (by show decode prog_8_method_1_code 1 = .ok (.invokespecial 1, 3); decide +kernel) (Nat.le_of_ble_eq_true rfl) (Nat.le_of_ble_eq_true rfl) ?_
  refine W.eq (g2 := F0 m 4 lsA []) rfl ?_
  refine lv_aload_n (k := 0) hx hb (by decide +kernel) rfl (lv_at hl 0 rfl) ?_
  refine lv_iconst (n := 3) (v := 3) hx hb (by decide +kernel) (by decide) ?_
  refine k_put (N0 := N0) (o := 80) (ci := 6) (k := 1) (v := .int 3) (ty := tyC 6 1) hx hb hts hK hown hin rfl (by decide) rfl kw_43 ((cls_ok 6 _ _ _ rfl).2.1 1 (by decide)) rfl rfl (hF0) (Nat.le_of_ble_eq_true rfl) hp hS (Nat.le_add_right _ _) (by decide +kernel) (fun H1 locs1 hp1 hy1 hS1 => ?_)
  have hz1 := hy1.trans hz
  refine lv_aload_n (k := 0) hx hb (by decide +kernel) rfl (lv_at hl 0 rfl) ?_
  refine lv_bipush (n := 10) (v := 10) hx hb (by decide +kernel) (by decide) ?_
  refine k_newi (N0 := N0) (o := 81) (N := 10) hx hb hts hK kaI (by decide) (by decide) (by decide) hp1 hz1 hS1 (Nat.le_of_ble_eq_true rfl) (Nat.le_of_ble_eq_true rfl) (by decide +kernel) (fun H2 hp2 hz2 hS2 => ?_)
  refine k_put (N0 := N0) (o := 80) (ci := 6) (k := 2) (v := .ref (N0 + 81)) (ty := tyC 6 2) hx hb hts hK hown hin rfl (by decide) rfl kw_44 ((cls_ok 6 _ _ _ rfl).2.1 2 (by decide)) rfl rfl ((eu_n (by omega)).trans (eu_s)) (Nat.le_of_ble_eq_true rfl) hp2 hS2 (Nat.le_add_right _ _) (by decide +kernel) (fun H3 locs3 hp3 hy3 hS3 => ?_)
  have hz3 := hy3.trans hz2
  refine lv_aload_n (k := 0) hx hb (by decide +kernel) rfl (lv_at hl 0 rfl) ?_
  refine lv_bipush (n := 8) (v := 8) hx hb (by decide +kernel) (by decide) ?_
  refine k_newi (N0 := N0) (o := 82) (N := 8) hx hb hts hK kaI (by decide) (by decide) (by decide) hp3 hz3 hS3 (Nat.le_of_ble_eq_true rfl) (Nat.le_of_ble_eq_true rfl) (by decide +kernel) (fun H4 hp4 hz4 hS4 => ?_)
  refine k_put (N0 := N0) (o := 80) (ci := 6) (k := 4) (v := .ref (N0 + 82)) (ty := tyC 6 4) hx hb hts hK hown hin rfl (by decide) rfl kw_45 ((cls_ok 6 _ _ _ rfl).2.1 4 (by decide)) rfl rfl ((eu_n (by omega)).trans (eu_s)) (Nat.le_of_ble_eq_true rfl) hp4 hS4 (Nat.le_add_right _ _) (by decide +kernel) (fun H5 locs5 hp5 hy5 hS5 => ?_)
  have hz5 := hy5.trans hz4
  refine lv_aload_n (k := 0) hx hb (by decide +kernel) rfl (lv_at hl 0 rfl) ?_
  refine lv_sipush (n := 192) (v := 192) hx hb (by decide +kernel) (by decide) ?_
  refine k_newi (N0 := N0) (o := 83) (N := 192) hx hb hts hK kaI (by decide) (by decide) (by decide) hp5 hz5 hS5 (Nat.le_of_ble_eq_true rfl) (Nat.le_of_ble_eq_true rfl) (by decide +kernel) (fun H6 hp6 hz6 hS6 => ?_)
  refine k_put (N0 := N0) (o := 80) (ci := 6) (k := 5) (v := .ref (N0 + 83)) (ty := tyC 6 5) hx hb hts hK hown hin rfl (by decide) rfl kw_46 ((cls_ok 6 _ _ _ rfl).2.1 5 (by decide)) rfl rfl ((eu_n (by omega)).trans (eu_s)) (Nat.le_of_ble_eq_true rfl) hp6 hS6 (Nat.le_add_right _ _) (by decide +kernel) (fun H7 locs7 hp7 hy7 hS7 => ?_)
  have hz7 := hy7.trans hz6
  refine lv_aload_n (k := 0) hx hb (by decide +kernel) rfl (lv_at hl 0 rfl) ?_
  refine lv_sipush (n := 192) (v := 192) hx hb (by decide +kernel) (by decide) ?_
  refine k_newi (N0 := N0) (o := 84) (N := 192) hx hb hts hK kaI (by decide) (by decide) (by decide) hp7 hz7 hS7 (Nat.le_of_ble_eq_true rfl) (Nat.le_of_ble_eq_true rfl) (by decide +kernel) (fun H8 hp8 hz8 hS8 => ?_)
  refine k_put (N0 := N0) (o := 80) (ci := 6) (k := 6) (v := .ref (N0 + 84)) (ty := tyC 6 6) hx hb hts hK hown hin rfl (by decide) rfl kw_47 ((cls_ok 6 _ _ _ rfl).2.1 6 (by decide)) rfl rfl ((eu_n (by omega)).trans (eu_s)) (Nat.le_of_ble_eq_true rfl) hp8 hS8 (Nat.le_add_right _ _) (by decide +kernel) (fun H9 locs9 hp9 hy9 hS9 => ?_)
  have hz9 := hy9.trans hz8
  refine lv_aload_n (k := 0) hx hb (by decide +kernel) rfl (lv_at hl 0 rfl) ?_
  refine lv_sipush (n := 192) (v := 192) hx hb (by decide +kernel) (by decide) ?_
  refine k_newi (N0 := N0) (o := 85) (N := 192) hx hb hts hK kaI (by decide) (by decide) (by decide) hp9 hz9 hS9 (Nat.le_of_ble_eq_true rfl) (Nat.le_of_ble_eq_true rfl) (by decide +kernel) (fun H10 hp10 hz10 hS10 => ?_)
  refine k_put (N0 := N0) (o := 80) (ci := 6) (k := 7) (v := .ref (N0 + 85)) (ty := tyC 6 7) hx hb hts hK hown hin rfl (by decide) rfl kw_48 ((cls_ok 6 _ _ _ rfl).2.1 7 (by decide)) rfl rfl ((eu_n (by omega)).trans (eu_s)) (Nat.le_of_ble_eq_true rfl) hp10 hS10 (Nat.le_add_right _ _) (by decide +kernel) (fun H11 locs11 hp11 hy11 hS11 => ?_)
  have hz11 := hy11.trans hz10
  refine lv_aload_n (k := 0) hx hb (by decide +kernel) rfl (lv_at hl 0 rfl) ?_
  refine lv_bipush (n := 8) (v := 8) hx hb (by decide +kernel) (by decide) ?_
  refine k_newi (N0 := N0) (o := 86) (N := 8) hx hb hts hK kaI (by decide) (by decide) (by decide) hp11 hz11 hS11 (Nat.le_of_ble_eq_true rfl) (Nat.le_of_ble_eq_true rfl) (by decide +kernel) (fun H12 hp12 hz12 hS12 => ?_)
  refine k_put (N0 := N0) (o := 80) (ci := 6) (k := 8) (v := .ref (N0 + 86)) (ty := tyC 6 8) hx hb hts hK hown hin rfl (by decide) rfl kw_49 ((cls_ok 6 _ _ _ rfl).2.1 8 (by decide)) rfl rfl ((eu_n (by omega)).trans (eu_s)) (Nat.le_of_ble_eq_true rfl) hp12 hS12 (Nat.le_add_right _ _) (by decide +kernel) (fun H13 locs13 hp13 hy13 hS13 => ?_)
  have hz13 := hy13.trans hz12
  refine lv_aload_n (k := 0) hx hb (by decide +kernel) rfl (lv_at hl 0 rfl) ?_
  refine lv_bipush (n := 32) (v := 32) hx hb (by decide +kernel) (by decide) ?_
  refine k_newi (N0 := N0) (o := 87) (N := 32) hx hb hts hK kaI (by decide) (by decide) (by decide) hp13 hz13 hS13 (Nat.le_of_ble_eq_true rfl) (Nat.le_of_ble_eq_true rfl) (by decide +kernel) (fun H14 hp14 hz14 hS14 => ?_)
  refine k_put (N0 := N0) (o := 80) (ci := 6) (k := 9) (v := .ref (N0 + 87)) (ty := tyC 6 9) hx hb hts hK hown hin rfl (by decide) rfl kw_50 ((cls_ok 6 _ _ _ rfl).2.1 9 (by decide)) rfl rfl ((eu_n (by omega)).trans (eu_s)) (Nat.le_of_ble_eq_true rfl) hp14 hS14 (Nat.le_add_right _ _) (by decide +kernel) (fun H15 locs15 hp15 hy15 hS15 => ?_)
  have hz15 := hy15.trans hz14
  refine lv_aload_n (k := 0) hx hb (by decide +kernel) rfl (lv_at hl 0 rfl) ?_
  refine lv_bipush (n := 32) (v := 32) hx hb (by decide +kernel) (by decide) ?_
  refine k_newi (N0 := N0) (o := 88) (N := 32) hx hb hts hK kaI (by decide) (by decide) (by decide) hp15 hz15 hS15 (Nat.le_of_ble_eq_true rfl) (Nat.le_of_ble_eq_true rfl) (by decide +kernel) (fun H16 hp16 hz16 hS16 => ?_)
  refine k_put (N0 := N0) (o := 80) (ci := 6) (k := 10) (v := .ref (N0 + 88)) (ty := tyC 6 10) hx hb hts hK hown hin rfl (by decide) rfl kw_51 ((cls_ok 6 _ _ _ rfl).2.1 10 (by decide)) rfl rfl ((eu_n (by omega)).trans (eu_s)) (Nat.le_of_ble_eq_true rfl) hp16 hS16 (Nat.le_add_right _ _) (by decide +kernel) (fun H17 locs17 hp17 hy17 hS17 => ?_)
  have hz17 := hy17.trans hz16
  refine lv_aload_n (k := 0) hx hb (by decide +kernel) rfl (lv_at hl 0 rfl) ?_
  refine lv_bipush (n := 32) (v := 32) hx hb (by decide +kernel) (by decide) ?_
  refine k_newi (N0 := N0) (o := 89) (N := 32) hx hb hts hK kaI (by decide) (by decide) (by decide) hp17 hz17 hS17 (Nat.le_of_ble_eq_true rfl) (Nat.le_of_ble_eq_true rfl) (by decide +kernel) (fun H18 hp18 hz18 hS18 => ?_)
  refine k_put (N0 := N0) (o := 80) (ci := 6) (k := 11) (v := .ref (N0 + 89)) (ty := tyC 6 11) hx hb hts hK hown hin rfl (by decide) rfl kw_52 ((cls_ok 6 _ _ _ rfl).2.1 11 (by decide)) rfl rfl ((eu_n (by omega)).trans (eu_s)) (Nat.le_of_ble_eq_true rfl) hp18 hS18 (Nat.le_add_right _ _) (by decide +kernel) (fun H19 locs19 hp19 hy19 hS19 => ?_)
  have hz19 := hy19.trans hz18
  refine lv_aload_n (k := 0) hx hb (by decide +kernel) rfl (lv_at hl 0 rfl) ?_
  refine lv_bipush (n := 32) (v := 32) hx hb (by decide +kernel) (by decide) ?_
  refine k_newi (N0 := N0) (o := 90) (N := 32) hx hb hts hK kaI (by decide) (by decide) (by decide) hp19 hz19 hS19 (Nat.le_of_ble_eq_true rfl) (Nat.le_of_ble_eq_true rfl) (by decide +kernel) (fun H20 hp20 hz20 hS20 => ?_)
  refine k_put (N0 := N0) (o := 80) (ci := 6) (k := 12) (v := .ref (N0 + 90)) (ty := tyC 6 12) hx hb hts hK hown hin rfl (by decide) rfl kw_53 ((cls_ok 6 _ _ _ rfl).2.1 12 (by decide)) rfl rfl ((eu_n (by omega)).trans (eu_s)) (Nat.le_of_ble_eq_true rfl) hp20 hS20 (Nat.le_add_right _ _) (by decide +kernel) (fun H21 locs21 hp21 hy21 hS21 => ?_)
  have hz21 := hy21.trans hz20
  refine lv_aload_n (k := 0) hx hb (by decide +kernel) rfl (lv_at hl 0 rfl) ?_
  refine lv_iconst (n := 1) (v := 1) hx hb (by decide +kernel) (by decide) ?_
  refine k_put (N0 := N0) (o := 80) (ci := 6) (k := 13) (v := .int 1) (ty := tyC 6 13) hx hb hts hK hown hin rfl (by decide) rfl kw_54 ((cls_ok 6 _ _ _ rfl).2.1 13 (by decide)) rfl rfl (eu_s) (Nat.le_of_ble_eq_true rfl) hp21 hS21 (Nat.le_add_right _ _) (by decide +kernel) (fun H22 locs22 hp22 hy22 hS22 => ?_)
  have hz22 := hy22.trans hz21
  refine lv_aload_n (k := 0) hx hb (by decide +kernel) rfl (lv_at hl 0 rfl) ?_
  refine lv_sipush (n := 1920) (v := 1920) hx hb (by decide +kernel) (by decide) ?_
  refine k_newi (N0 := N0) (o := 91) (N := 1920) hx hb hts hK kaI (by decide) (by decide) (by decide) hp22 hz22 hS22 (Nat.le_of_ble_eq_true rfl) (Nat.le_of_ble_eq_true rfl) (by decide +kernel) (fun H23 hp23 hz23 hS23 => ?_)
  refine k_put (N0 := N0) (o := 80) (ci := 6) (k := 14) (v := .ref (N0 + 91)) (ty := tyC 6 14) hx hb hts hK hown hin rfl (by decide) rfl kw_55 ((cls_ok 6 _ _ _ rfl).2.1 14 (by decide)) rfl rfl ((eu_n (by omega)).trans (eu_s)) (Nat.le_of_ble_eq_true rfl) hp23 hS23 (Nat.le_add_right _ _) (by decide +kernel) (fun H24 locs24 hp24 hy24 hS24 => ?_)
  have hz24 := hy24.trans hz23
  refine lv_aload_n (k := 0) hx hb (by decide +kernel) rfl (lv_at hl 0 rfl) ?_
  refine lv_bipush (n := 12) (v := 12) hx hb (by decide +kernel) (by decide) ?_
  refine k_newi (N0 := N0) (o := 92) (N := 12) hx hb hts hK kaI (by decide) (by decide) (by decide) hp24 hz24 hS24 (Nat.le_of_ble_eq_true rfl) (Nat.le_of_ble_eq_true rfl) (by decide +kernel) (fun H25 hp25 hz25 hS25 => ?_)
  refine k_put (N0 := N0) (o := 80) (ci := 6) (k := 16) (v := .ref (N0 + 92)) (ty := tyC 6 16) hx hb hts hK hown hin rfl (by decide) rfl kw_56 ((cls_ok 6 _ _ _ rfl).2.1 16 (by decide)) rfl rfl ((eu_n (by omega)).trans (eu_s)) (Nat.le_of_ble_eq_true rfl) hp25 hS25 (Nat.le_add_right _ _) (by decide +kernel) (fun H26 locs26 hp26 hy26 hS26 => ?_)
  have hz26 := hy26.trans hz25
  refine lv_aload_n (k := 0) hx hb (by decide +kernel) rfl (lv_at hl 0 rfl) ?_
  refine lv_bipush (n := 12) (v := 12) hx hb (by decide +kernel) (by decide) ?_
  refine k_newi (N0 := N0) (o := 93) (N := 12) hx hb hts hK kaI (by decide) (by decide) (by decide) hp26 hz26 hS26 (Nat.le_of_ble_eq_true rfl) (Nat.le_of_ble_eq_true rfl) (by decide +kernel) (fun H27 hp27 hz27 hS27 => ?_)
  refine k_put (N0 := N0) (o := 80) (ci := 6) (k := 17) (v := .ref (N0 + 93)) (ty := tyC 6 17) hx hb hts hK hown hin rfl (by decide) rfl kw_57 ((cls_ok 6 _ _ _ rfl).2.1 17 (by decide)) rfl rfl ((eu_n (by omega)).trans (eu_s)) (Nat.le_of_ble_eq_true rfl) hp27 hS27 (Nat.le_add_right _ _) (by decide +kernel) (fun H28 locs28 hp28 hy28 hS28 => ?_)
  have hz28 := hy28.trans hz27
  refine lv_aload_n (k := 0) hx hb (by decide +kernel) rfl (lv_at hl 0 rfl) ?_
  refine lv_bipush (n := 48) (v := 48) hx hb (by decide +kernel) (by decide) ?_
  refine k_newi (N0 := N0) (o := 94) (N := 48) hx hb hts hK kaI (by decide) (by decide) (by decide) hp28 hz28 hS28 (Nat.le_of_ble_eq_true rfl) (Nat.le_of_ble_eq_true rfl) (by decide +kernel) (fun H29 hp29 hz29 hS29 => ?_)
  refine k_put (N0 := N0) (o := 80) (ci := 6) (k := 18) (v := .ref (N0 + 94)) (ty := tyC 6 18) hx hb hts hK hown hin rfl (by decide) rfl kw_58 ((cls_ok 6 _ _ _ rfl).2.1 18 (by decide)) rfl rfl ((eu_n (by omega)).trans (eu_s)) (Nat.le_of_ble_eq_true rfl) hp29 hS29 (Nat.le_add_right _ _) (by decide +kernel) (fun H30 locs30 hp30 hy30 hS30 => ?_)
  have hz30 := hy30.trans hz29
  refine lv_aload_n (k := 0) hx hb (by decide +kernel) rfl (lv_at hl 0 rfl) ?_
  refine lv_bipush (n := 48) (v := 48) hx hb (by decide +kernel) (by decide) ?_
  refine k_newi (N0 := N0) (o := 95) (N := 48) hx hb hts hK kaI (by decide) (by decide) (by decide) hp30 hz30 hS30 (Nat.le_of_ble_eq_true rfl) (Nat.le_of_ble_eq_true rfl) (by decide +kernel) (fun H31 hp31 hz31 hS31 => ?_)
  refine k_put (N0 := N0) (o := 80) (ci := 6) (k := 19) (v := .ref (N0 + 95)) (ty := tyC 6 19) hx hb hts hK hown hin rfl (by decide) rfl kw_59 ((cls_ok 6 _ _ _ rfl).2.1 19 (by decide)) rfl rfl ((eu_n (by omega)).trans (eu_s)) (Nat.le_of_ble_eq_true rfl) hp31 hS31 (Nat.le_add_right _ _) (by decide +kernel) (fun H32 locs32 hp32 hy32 hS32 => ?_)
  have hz32 := hy32.trans hz31
  refine lv_aload_n (k := 0) hx hb (by decide +kernel) rfl (lv_at hl 0 rfl) ?_
  refine lv_iconst (n := (-1)) (v := (-1)) hx hb (by decide +kernel) (by decide) ?_
  refine k_put (N0 := N0) (o := 80) (ci := 6) (k := 21) (v := .int (-1)) (ty := tyC 6 21) hx hb hts hK hown hin rfl (by decide) rfl kw_60 ((cls_ok 6 _ _ _ rfl).2.1 21 (by decide)) rfl rfl (eu_s) (Nat.le_of_ble_eq_true rfl) hp32 hS32 (Nat.le_add_right _ _) (by decide +kernel) (fun H33 locs33 hp33 hy33 hS33 => ?_)
  have hz33 := hy33.trans hz32
  refine lv_aload_n (k := 0) hx hb (by decide +kernel) rfl (lv_at hl 0 rfl) ?_
  refine k_get (N0 := N0) (o := 80) (ci := 6) (k := 2) (v := .ref (N0 + 81)) hx hb hts hK hown rfl (by decide) kw_44 (eu_s) rfl hp33 (by decide +kernel) ?_
  refine lv_iconst (n := 0) (v := 0) hx hb (by decide +kernel) (by decide) ?_
  refine lv_iconst (n := (-1)) (v := (-1)) hx hb (by decide +kernel) (by decide) ?_
  refine k_iast (N0 := N0) (o := 81) (j := 0) (x := (-1)) hx hb hK ((eu_n (by omega)).trans ((eu_n (by omega)).trans ((eu_n (by omega)).trans ((eu_n (by omega)).trans ((eu_n (by omega)).trans ((eu_n (by omega)).trans ((eu_n (by omega)).trans ((eu_n (by omega)).trans ((eu_n (by omega)).trans ((eu_n (by omega)).trans ((eu_n (by omega)).trans ((eu_n (by omega)).trans ((eu_n (by omega)).trans ((eu_n (by omega)).trans ((eu_n (by omega)).trans ((eu_n (by omega)).trans ((eu_n (by omega)).trans ((eu_n (by omega)).trans ((eu_n (by omega)).trans ((eu_n (by omega)).trans ((eu_n (by omega)).trans ((eu_n (by omega)).trans ((eu_n (by omega)).trans ((eu_n (by omega)).trans ((eu_n (by omega)).trans ((eu_n (by omega)).trans ((eu_n (by omega)).trans ((eu_n (by omega)).trans ((eu_n (by omega)).trans ((eu_n (by omega)).trans ((eu_n (by omega)).trans (eu_s)))))))))))))))))))))))))))))))) hp33 hS33 (Nat.le_add_right _ _) (by rw [vp_in_iff]; decide) (by decide +kernel) (fun H34 locs34 hp34 hy34 hS34 => ?_)
  have hz34 := hy34.trans hz33
  refine lv_aload_n (k := 0) hx hb (by decide +kernel) rfl (lv_at hl 0 rfl) ?_
  refine k_get (N0 := N0) (o := 80) (ci := 6) (k := 2) (v := .ref (N0 + 81)) hx hb hts hK hown rfl (by decide) kw_44 ((eu_n (by omega)).trans (eu_s)) rfl hp34 (by decide +kernel) ?_
  refine lv_iconst (n := 1) (v := 1) hx hb (by decide +kernel) (by decide) ?_
  refine lv_iconst (n := 0) (v := 0) hx hb (by decide +kernel) (by decide) ?_
  refine k_iast (N0 := N0) (o := 81) (j := 1) (x := 0) hx hb hK (eu_s) hp34 hS34 (Nat.le_add_right _ _) (by rw [vp_in_iff]; decide) (by decide +kernel) (fun H35 locs35 hp35 hy35 hS35 => ?_)
  have hz35 := hy35.trans hz34
  refine lv_aload_n (k := 0) hx hb (by decide +kernel) rfl (lv_at hl 0 rfl) ?_
  refine k_get (N0 := N0) (o := 80) (ci := 6) (k := 2) (v := .ref (N0 + 81)) hx hb hts hK hown rfl (by decide) kw_44 ((eu_n (by omega)).trans ((eu_n (by omega)).trans (eu_s))) rfl hp35 (by decide +kernel) ?_
  refine lv_iconst (n := 2) (v := 2) hx hb (by decide +kernel) (by decide) ?_
  refine lv_iconst (n := 0) (v := 0) hx hb (by decide +kernel) (by decide) ?_
  refine k_iast (N0 := N0) (o := 81) (j := 2) (x := 0) hx hb hK (eu_s) hp35 hS35 (Nat.le_add_right _ _) (by rw [vp_in_iff]; decide) (by decide +kernel) (fun H36 locs36 hp36 hy36 hS36 => ?_)
  have hz36 := hy36.trans hz35
  have hpe := pw.of (F' := rng N0 ca (80) (96) F) hp36 (fun k => by
  by_cases hk : (80) ≤ k ∧ k < (96)
  · rw [rng_y hk]
    obtain h | h | h | h | h | h | h | h | h | h | h | h | h | h | h | h : k = 80 ∨ k = 81 ∨ k = 82 ∨ k = 83 ∨ k = 84 ∨ k = 85 ∨ k = 86 ∨ k = 87 ∨ k = 88 ∨ k = 89 ∨ k = 90 ∨ k = 91 ∨ k = 92 ∨ k = 93 ∨ k = 94 ∨ k = 95 := by omega
    · subst h; rfl
    · subst h; rfl
    · subst h; rfl
    · subst h; rfl
    · subst h; rfl
    · subst h; rfl
    · subst h; rfl
    · subst h; rfl
    · subst h; rfl
    · subst h; rfl
    · subst h; rfl
    · subst h; rfl
    · subst h; rfl
    · subst h; rfl
    · subst h; rfl
    · subst h; rfl
  · rw [rng_n hk]
    exact ((eu_n (by omega)).trans ((eu_n (by omega)).trans ((eu_n (by omega)).trans ((eu_n (by omega)).trans ((eu_n (by omega)).trans ((eu_n (by omega)).trans ((eu_n (by omega)).trans ((eu_n (by omega)).trans ((eu_n (by omega)).trans ((eu_n (by omega)).trans ((eu_n (by omega)).trans ((eu_n (by omega)).trans ((eu_n (by omega)).trans ((eu_n (by omega)).trans ((eu_n (by omega)).trans ((eu_n (by omega)).trans ((eu_n (by omega)).trans ((eu_n (by omega)).trans ((eu_n (by omega)).trans ((eu_n (by omega)).trans ((eu_n (by omega)).trans ((eu_n (by omega)).trans ((eu_n (by omega)).trans ((eu_n (by omega)).trans ((eu_n (by omega)).trans ((eu_n (by omega)).trans ((eu_n (by omega)).trans ((eu_n (by omega)).trans ((eu_n (by omega)).trans ((eu_n (by omega)).trans ((eu_n (by omega)).trans ((eu_n (by omega)).trans ((eu_n (by omega)).trans ((eu_n (by omega)).trans ((eu_n (by omega)).trans ((eu_n (by omega)).trans (rfl))))))))))))))))))))))))))))))))))))).symm)
  exact W.vret hx hb hrt (fun t ht hW => ⟨⟨rfl, by rw [ht]; exact hz36, by rw [ht]; exact hpe⟩, hS36.F ht⟩) hS36.2.2 (by decide +kernel)
