/-! Sheet: a ring of thirteen texts, as a list of states and a place in it. -/
def rsg (s : Nat) : List (Option Nat) := (List.range 13).map (fun i => some (s + 2 + 2 * i))
/-- a sheet at s: the states L (the oldest first), the shown one is the a-th; b: how many have gone -/
def she (M : jM) (s : Nat) (L : List (List Int)) (a b : Nat) : Prop := ∃ X : Nat → List Int,
  M s = some (.inl (3, [vR (s + 1), vI ((b + a : Nat) : Int), vI (a : Int), vI ((L.length : Int) - 1 - a)])) ∧ M (s + 1) = some (.inr (.inr (.object "Manydoors$Signs", rsg s))) ∧ (∀ i : Nat, i < 13 → sg M (s + 2 + 2 * i) (X i) 120) ∧ (b + a ≤ 100000 ∧ a < L.length ∧ L.length ≤ 13) ∧ ∀ j : Nat, j < L.length → L.getD j [] = X ((b + j) % 13)
def sad (s a b : Nat) : Nat := s + 2 + 2 * ((b + a) % 13)
theorem rsg_at {s k : Nat} (h : k < 13) : (rsg s)[k]? = some (some (s + 2 + 2 * k)) := by
  unfold rsg
  rw [List.getElem?_map, List.getElem?_range h]
  rfl
theorem rsg_len {s : Nat} : (rsg s).length = 13 := by simp [rsg]
theorem she.shown {M : jM} {s : Nat} {L : List (List Int)} {a b : Nat} (h : she M s L a b) : sg M (sad s a b) (L.getD a []) 120 := by
  obtain ⟨X, h1, h2, h3, ⟨h4, h5, h6⟩, h7⟩ := h
  rw [h7 a h5]
  exact h3 _ (Nat.mod_lt _ (by omega))
/-- the shown text changed -/
theorem she.upd {M M' : jM} {s : Nat} {L : List (List Int)} {a b : Nat} {xs : List Int} (h : she M s L a b) (hg : sg M' (sad s a b) xs 120) (hf : jfr (sad s a b) M M') : she M' s (L.set a xs) a b := by
  obtain ⟨X, h1, h2, h3, ⟨h4, h5, h6⟩, h7⟩ := h
  have hm : (b + a) % 13 < 13 := Nat.mod_lt _ (by omega)
  unfold sad at hg hf
  refine ⟨fun i => if i = (b + a) % 13 then xs else X i, ?_, ?_, fun i hi => ?_, ⟨h4, by rw [List.length_set]; exact h5, by rw [List.length_set]; exact h6⟩, fun j hj => ?_⟩
  · rw [hf s (by omega) (by omega), h1, List.length_set]
  · rw [hf (s + 1) (by omega) (by omega), h2]
  · by_cases c : i = (b + a) % 13
    · simp only [if_pos c]
      rw [c]
      exact hg
    · simp only [if_neg c]
      exact (h3 i hi).fr hf ⟨by omega, by omega, by omega⟩
  · rw [List.length_set] at hj
    by_cases c : j = a
    · subst c
      dsimp only
      rw [if_pos rfl, List.getD_eq_getElem?_getD, List.getElem?_set_self (by omega)]
      rfl
    · dsimp only
      rw [if_neg (by omega), List.getD_eq_getElem?_getD, List.getElem?_set_ne (by omega), ← List.getD_eq_getElem?_getD]
      exact h7 j hj
/-- a sheet elsewhere -/
theorem she.fr {M M' : jM} {s : Nat} {L : List (List Int)} {a b : Nat} (h : she M s L a b) (hf : ∀ q : Nat, s ≤ q → q < s + 28 → M' q = M q) : she M' s L a b := by
  obtain ⟨X, h1, h2, h3, h4, h7⟩ := h
  refine ⟨X, by rw [hf s (by omega) (by omega)]; exact h1, by rw [hf (s + 1) (by omega) (by omega)]; exact h2, fun i hi => ?_, h4, h7⟩
  obtain ⟨g, k1, k2, k3⟩ := h3 i hi
  exact ⟨g, by rw [hf _ (by omega) (by omega)]; exact k1, by rw [hf _ (by omega) (by omega)]; exact k2, k3⟩
theorem she.cls {M : jM} {s : Nat} {L : List (List Int)} {a b : Nat} (h : she M s L a b) : ∃ fs, M s = some (.inl (3, fs)) := by
  obtain ⟨X, h1, h2, h3, h4, h7⟩ := h
  exact ⟨_, h1⟩
def S_She_shown (_ : Nat) : jS := fun av M sz P _ => match av with
  | [.inr (.inr (some s))] => ∃ (L : List (List Int)) (a b : Nat), she M s L a b ∧ P (some (vR (sad s a b))) M sz
  | _ => False
def k_She_shown : List (Nat × jI5) := [(0, .aload_n 0, 1, 0, 0), (1, .getfield 13, 4, 0, 0), (4, .aload_n 0, 5, 0, 0), (5, .getfield 20, 8, 0, 0), (8, .bipush (13), 10, 0, 13), (10, .invokestatic 24, 13, 0, 0), (13, .aaload, 14, 0, 0), (14, .areturn, 15, 0, 0)]
theorem k_She_shown_ok : k_She_shown.all (jok1 prog_4_method_2_code) = true := by decide +kernel
abbrev y_She_shown : MethodName := ⟨"Manydoors$Sheet", "shown", "()LManydoors$Signs;"⟩
theorem Y_She_shown : jYok y_She_shown prog_4_method_2_code 1 (some (.object "Manydoors$Signs")) 0 := ⟨(jg_in (List.mem_of_getElem? (i := 283) (by decide +kernel)) rfl), (jg_in (List.mem_of_getElem? (i := 43) (by decide +kernel)) rfl), by decide +kernel, by decide⟩
theorem jc_She : jcOk 3 (R_She, F_She, 4) t_She := ⟨rfl, List.forall_mem_cons.mpr ⟨(jg_in (List.mem_of_getElem? (i := 102) (by decide +kernel)) rfl), List.forall_mem_cons.mpr ⟨(jg_in (List.mem_of_getElem? (i := 104) (by decide +kernel)) rfl), List.forall_mem_cons.mpr ⟨(jg_in (List.mem_of_getElem? (i := 106) (by decide +kernel)) rfl), List.forall_mem_cons.mpr ⟨(jg_in (List.mem_of_getElem? (i := 108) (by decide +kernel)) rfl), fun _ h => absurd h List.not_mem_nil⟩⟩⟩⟩, t_She_ok, n_She, by decide +kernel⟩
def cp_She_shown (sz0 : Nat) : List (Nat × Nat × jTr) := [(0, 13, jget 3 0), (0, 20, jget 3 1), (4, 24, jcall 2 0 0 (S_Mat_floorMod sz0))]
theorem cp_She_shown_ok {l : Launch} (hnt : l.stackTraces = false) (sz0 : Nat) : ∀ q ∈ cp_She_shown sz0, jSnd sz0 l "Manydoors$Sheet" "shown" 1 (jin q.1 q.2.1) (jlen (jin q.1 q.2.1)) q.2.2 := List.forall_mem_cons.mpr ⟨jget_snd (idx := 13) jc_She (k := 0) (by decide) (jg_in (List.mem_of_getElem? (i := 96) (by decide +kernel)) rfl), List.forall_mem_cons.mpr ⟨jget_snd (idx := 20) jc_She (k := 1) (by decide) (jg_in (List.mem_of_getElem? (i := 97) (by decide +kernel)) rfl), List.forall_mem_cons.mpr ⟨jcall_snd (idx := 24) (c_Mat_floorMod hnt sz0) Y_Mat_floorMod (jg_in (List.mem_of_getElem? (i := 285) (by decide +kernel)) rfl) (by omega) (jg_in (List.mem_of_getElem? (i := 284) (by decide +kernel)) rfl), fun _ h => absurd h List.not_mem_nil⟩⟩⟩
set_option maxRecDepth 20000 in
set_option maxHeartbeats 4000000 in
theorem c_She_shown {l : Launch} (hnt : l.stackTraces = false) (sz0 : Nat) : jCon sz0 l y_She_shown prog_4_method_2_code 1 (some (.object "Manydoors$Signs")) 1 0 0 (S_She_shown sz0) := by
  refine jmet (own := "Manydoors$Sheet") (nm := "shown") k_She_shown (cp_She_shown sz0) [] 30 (plainFor_of_name (by decide)) rfl rfl hnt k_She_shown_ok (cp_She_shown_ok hnt sz0) (fun _ h => absurd h List.not_mem_nil) ?_
  intro av M sz P X h hz hfr
  unfold S_She_shown at h
  split at h
  · rename_i s
    obtain ⟨L, a, b, ⟨X, h1, h2, h3, ⟨h4, h5, h6⟩, h7⟩, h⟩ := h
    refine ⟨rfl, [], ?_, fun pc a h => absurd h List.not_mem_nil⟩
    conv => whnf
    refine ⟨_, _, h1, rfl, ?_⟩
    refine ⟨_, _, h1, rfl, ?_⟩
    conv => whnf
    refine ⟨Nat.zero_le _, Nat.zero_le _, ⟨by omega, jrn (by omega), by omega, ⟨by omega, by omega⟩⟩, ?_⟩
    have e : ((b + a : Nat) : Int) % 13 = (((b + a) % 13 : Nat) : Int) := by omega
    rw [e]
    conv => whnf
    refine ⟨_, _, _, h2, rfl, ⟨by omega, by rw [rsg_len]; omega, by rw [rsg_len]; omega⟩, rsg_at (by omega), ?_⟩
    conv => whnf
    exact ⟨rfl, h⟩
  · exact h.elim
def stepA (a : Nat) : Nat := if a = 12 then 12 else a + 1
def stepL (L : List (List Int)) (a : Nat) (x : List Int) : List (List Int) := if a = 12 then L.drop 1 ++ [x] else L.take (a + 1) ++ [x]
theorem stepL_len {L : List (List Int)} {a : Nat} {x : List Int} (h1 : a < L.length) (h2 : L.length ≤ 13) : (stepL L a x).length = stepA a + 1 := by
  unfold stepL stepA
  split
  · rw [List.length_append, List.length_drop]; simp; omega
  · rw [List.length_append, List.length_take]; simp; omega
def S_She_makeStep (sz0 : Nat) : jS := fun av M sz P _ => match av with
  | [.inr (.inr (some s))] => ∃ (L : List (List Int)) (a b : Nat), she M s L a b ∧ sz0 ≤ s ∧ b + a < 100000 ∧ ∀ (M' : jM) (b' : Nat), she M' s (stepL L a (L.getD a [])) (stepA a) b' → b' + stepA a = b + a + 1 → (∀ q : Nat, q ≠ s → q ≠ sad s (stepA a) b' → q ≠ sad s (stepA a) b' + 1 → M' q = M q) → P (some (vR (sad s (stepA a) b'))) M' sz
  | _ => False
def k_She_makeStep : List (Nat × jI5) := [(0, .aload_n 0, 1, 0, 0), (1, .invokevirtual 30, 4, 0, 0), (4, .astore_n 1, 5, 0, 0), (5, .aload_n 0, 6, 0, 0), (6, .dup, 7, 0, 0), (7, .getfield 20, 10, 0, 0), (10, .iconst (1), 11, 0, 1), (11, .iadd, 12, 0, 0), (12, .putfield 20, 15, 0, 0), (15, .aload_n 0, 16, 0, 0), (16, .aload_n 0, 17, 0, 0), (17, .getfield 34, 20, 0, 0), (20, .iconst (1), 21, 0, 1), (21, .iadd, 22, 0, 0), (22, .bipush (12), 24, 0, 12), (24, .invokestatic 37, 27, 0, 0), (27, .putfield 34, 30, 0, 0), (30, .aload_n 0, 31, 0, 0), (31, .iconst (0), 32, 0, 0), (32, .putfield 40, 35, 0, 0), (35, .aload_n 0, 36, 0, 0), (36, .invokevirtual 30, 39, 0, 0), (39, .aload_n 1, 40, 0, 0), (40, .invokevirtual 43, 43, 0, 0), (43, .aload_n 0, 44, 0, 0), (44, .invokevirtual 30, 47, 0, 0), (47, .areturn, 48, 0, 0)]
theorem k_She_makeStep_ok : k_She_makeStep.all (jok1 prog_4_method_3_code) = true := by decide +kernel
abbrev y_She_makeStep : MethodName := ⟨"Manydoors$Sheet", "makeStep", "()LManydoors$Signs;"⟩
theorem Y_She_makeStep : jYok y_She_makeStep prog_4_method_3_code 2 (some (.object "Manydoors$Signs")) 0 := ⟨(jg_in (List.mem_of_getElem? (i := 490) (by decide +kernel)) rfl), (jg_in (List.mem_of_getElem? (i := 43) (by decide +kernel)) rfl), by decide +kernel, by decide⟩
def cp_She_makeStep (sz0 : Nat) : List (Nat × Nat × jTr) := [(0, 20, jget 3 1), (0, 34, jget 3 2), (1, 20, jputf sz0 3 1 (.int)), (1, 34, jputf sz0 3 2 (.int)), (1, 40, jputf sz0 3 3 (.int)), (3, 30, jcalv 1 0 0 3 (S_She_shown sz0)), (3, 43, jcalv 2 0 0 4 (S_Sig_becomeLike sz0)), (4, 37, jcall 2 0 0 (S_Mat_min sz0))]
theorem cp_She_makeStep_ok {l : Launch} (hnt : l.stackTraces = false) (sz0 : Nat) : ∀ q ∈ cp_She_makeStep sz0, jSnd sz0 l "Manydoors$Sheet" "makeStep" 4 (jin q.1 q.2.1) (jlen (jin q.1 q.2.1)) q.2.2 := List.forall_mem_cons.mpr ⟨jget_snd (idx := 20) jc_She (k := 1) (by decide) (jg_in (List.mem_of_getElem? (i := 97) (by decide +kernel)) rfl), List.forall_mem_cons.mpr ⟨jget_snd (idx := 34) jc_She (k := 2) (by decide) (jg_in (List.mem_of_getElem? (i := 98) (by decide +kernel)) rfl), List.forall_mem_cons.mpr ⟨jputf_snd (idx := 20) jc_She (k := 1) (by decide) (jg_in (List.mem_of_getElem? (i := 97) (by decide +kernel)) rfl) rfl, List.forall_mem_cons.mpr ⟨jputf_snd (idx := 34) jc_She (k := 2) (by decide) (jg_in (List.mem_of_getElem? (i := 98) (by decide +kernel)) rfl) rfl, List.forall_mem_cons.mpr ⟨jputf_snd (idx := 40) jc_She (k := 3) (by decide) (jg_in (List.mem_of_getElem? (i := 100) (by decide +kernel)) rfl) rfl, List.forall_mem_cons.mpr ⟨jcalv_snd (idx := 30) (r := (R_She, F_She, 4)) (c_She_shown hnt sz0) Y_She_shown rfl rfl (jg_in (List.mem_of_getElem? (i := 281) (by decide +kernel)) rfl) (jg_in (List.mem_of_getElem? (i := 282) (by decide +kernel)) rfl) (by omega) (jg_in (List.mem_of_getElem? (i := 491) (by decide +kernel)) rfl), List.forall_mem_cons.mpr ⟨jcalv_snd (idx := 43) (r := (R_Sig, F_Sig, 2)) (c_Sig_becomeLike hnt sz0) Y_Sig_becomeLike rfl rfl (jg_in (List.mem_of_getElem? (i := 302) (by decide +kernel)) rfl) (jg_in (List.mem_of_getElem? (i := 303) (by decide +kernel)) rfl) (by omega) (jg_in (List.mem_of_getElem? (i := 343) (by decide +kernel)) rfl), List.forall_mem_cons.mpr ⟨jcall_snd (idx := 37) (c_Mat_min hnt sz0) Y_Mat_min (jg_in (List.mem_of_getElem? (i := 318) (by decide +kernel)) rfl) (by omega) (jg_in (List.mem_of_getElem? (i := 348) (by decide +kernel)) rfl), fun _ h => absurd h List.not_mem_nil⟩⟩⟩⟩⟩⟩⟩⟩
set_option maxRecDepth 20000 in
set_option maxHeartbeats 4000000 in
theorem c_She_makeStep {l : Launch} (hnt : l.stackTraces = false) (sz0 : Nat) : jCon sz0 l y_She_makeStep prog_4_method_3_code 2 (some (.object "Manydoors$Signs")) 4 0 0 (S_She_makeStep sz0) := by
  refine jmet (own := "Manydoors$Sheet") (nm := "makeStep") k_She_makeStep (cp_She_makeStep sz0) [] 60 (plainFor_of_name (by decide)) rfl rfl hnt k_She_makeStep_ok (cp_She_makeStep_ok hnt sz0) (fun _ h => absurd h List.not_mem_nil) ?_
  intro av M sz P X h hz hfr
  unfold S_She_makeStep at h
  split at h
  · rename_i s
    obtain ⟨L, a, b, hs, ho, hlt, h⟩ := h
    have hs0 := hs
    obtain ⟨X, h1, h2, h3, ⟨h4, h5, h6⟩, h7⟩ := hs
    refine ⟨rfl, [], ?_, fun pc a h => absurd h List.not_mem_nil⟩
    conv => whnf
    refine ⟨⟨_, h1⟩, Nat.zero_le _, Nat.zero_le _, L, a, b, hs0, ?_⟩
    conv => whnf
    refine ⟨_, _, h1, rfl, ?_⟩
    conv => whnf
    refine ⟨ho, _, h1, fun M1 e1 => ?_⟩
    have f1 : M1 s = some (.inl (3, [vR (s + 1), vI (((b + a : Nat) : Int) + 1), vI (a : Int), vI ((L.length : Int) - 1 - a)])) := by rw [e1, jup_s]; rfl
    conv => whnf
    refine ⟨_, _, f1, rfl, ?_⟩
    conv => whnf
    refine ⟨Nat.zero_le _, Nat.zero_le _, ⟨by omega, by omega⟩, ⟨by omega, by omega⟩, ?_⟩
    have ea : (if (a : Int) + 1 ≤ 12 then (a : Int) + 1 else 12) = ((stepA a : Nat) : Int) := by unfold stepA; split <;> split <;> omega
    rw [ea]
    conv => whnf
    refine ⟨ho, _, f1, fun M2 e2 => ?_⟩
    have f2 : M2 s = some (.inl (3, [vR (s + 1), vI (((b + a : Nat) : Int) + 1), vI ((stepA a : Nat) : Int), vI ((L.length : Int) - 1 - a)])) := by rw [e2, jup_s]; rfl
    conv => whnf
    refine ⟨ho, _, f2, fun M3 e3 => ?_⟩
    have hA : stepA a ≤ a + 1 ∧ stepA a ≤ 12 := by unfold stepA; split <;> omega
    obtain ⟨b', hb'⟩ : ∃ b', b' + stepA a = b + a + 1 := ⟨b + a + 1 - stepA a, by omega⟩
    have f3 : M3 s = some (.inl (3, [vR (s + 1), vI ((b' + stepA a : Nat) : Int), vI ((stepA a : Nat) : Int), vI (0 : Int)])) := by
      rw [e3, jup_s, hb']
      show some (Sum.inl (3, [vR (s + 1), vI (((b + a : Nat) : Int) + 1), vI ((stepA a : Nat) : Int), vI 0])) = _
      congr 5
    have fr3 : ∀ q : Nat, q ≠ s → M3 q = M q := fun q hq => by rw [e3, jup_n hq, e2, jup_n hq, e1, jup_n hq]
    have g3 : M3 (s + 1) = some (.inr (.inr (.object "Manydoors$Signs", rsg s))) := by rw [fr3 _ (by omega)]; exact h2
    have k3 : ∀ i : Nat, i < 13 → sg M3 (s + 2 + 2 * i) (X i) 120 := fun i hi => by
      obtain ⟨g, k1, k2, k3⟩ := h3 i hi
      exact ⟨g, by rw [fr3 _ (by omega)]; exact k1, by rw [fr3 _ (by omega)]; exact k2, k3⟩
    generalize hX : X ((b + a) % 13) = x0
    have hLa : L.getD a [] = x0 := by rw [← hX]; exact h7 a h5
    rw [hLa] at h
    have hl := stepL_len (x := X ((b' + stepA a) % 13)) h5 h6
    -- the ring as it is now, the shown text an old one
    have ring : ∀ x : List Int, (∀ j : Nat, j < (stepL L a x).length → (stepL L a x).getD j [] = (fun i => if i = (b' + stepA a) % 13 then x else X i) ((b' + j) % 13)) := by
      intro x j hj
      rw [stepL_len h5 h6] at hj
      by_cases cj : j = stepA a
      · subst cj
        simp only [if_true]
        unfold stepL stepA
        by_cases c : a = 12
        · subst c
          simp only [if_true]
          rw [List.getD_eq_getElem?_getD, List.getElem?_append_right (by rw [List.length_drop]; omega)]
          simp
          rw [show 12 - (L.length - 1) = 0 by omega]
          rfl
        · rw [if_neg c, if_neg c, List.getD_eq_getElem?_getD, List.getElem?_append_right (by rw [List.length_take]; omega)]
          simp
          rw [show a + 1 - min (a + 1) L.length = 0 by omega]
          rfl
      · have hne : (b' + j) % 13 ≠ (b' + stepA a) % 13 := by omega
        simp only [if_neg hne]
        unfold stepL stepA at *
        by_cases c : a = 12
        · subst c
          simp only [if_true] at *
          rw [List.getD_eq_getElem?_getD, List.getElem?_append_left (by rw [List.length_drop]; omega), List.getElem?_drop, ← List.getD_eq_getElem?_getD, h7 (1 + j) (by omega)]
          congr 1
          omega
        · rw [if_neg c] at *
          rw [List.getD_eq_getElem?_getD, List.getElem?_append_left (by rw [List.length_take]; omega), List.getElem?_take, if_pos (by omega), ← List.getD_eq_getElem?_getD, h7 j (by omega)]
          congr 1
          omega
    have hm1 : (b' + stepA a) % 13 < 13 := Nat.mod_lt _ (by omega)
    have hm2 : (b + a) % 13 < 13 := Nat.mod_lt _ (by omega)
    have hmn : (b + a) % 13 ≠ (b' + stepA a) % 13 := by omega
    have hsh3 : she M3 s (stepL L a (X ((b' + stepA a) % 13))) (stepA a) b' := by
      refine ⟨X, ?_, g3, k3, ⟨by omega, by omega, by omega⟩, fun j hj => ?_⟩
      · rw [f3, hl]
        have z : ((stepA a + 1 : Nat) : Int) - 1 - ((stepA a : Nat) : Int) = 0 := by omega
        rw [z]
      · rw [ring _ j hj]
        simp only
        split
        · rename_i c; rw [c]
        · rfl
    conv => whnf
    refine ⟨⟨_, f3⟩, Nat.zero_le _, Nat.zero_le _, _, _, _, hsh3, ?_⟩
    conv => whnf
    have kold := k3 _ hm2
    have knew := k3 _ hm1
    rw [hX] at kold
    refine ⟨knew.cls, Nat.zero_le _, Nat.zero_le _, _, _, 120, 120, knew, kold, by unfold sad; omega, ⟨by unfold sad; omega, by unfold sad; omega, by unfold sad; omega⟩, kold.len.1, fun M4 g4 e4 => ?_⟩
    have hsh4 := hsh3.upd g4 e4
    have hset : (stepL L a (X ((b' + stepA a) % 13))).set (stepA a) x0 = stepL L a x0 := by
      unfold stepL stepA
      by_cases c : a = 12
      · subst c
        simp only [if_true]
        rw [List.set_append_right _ _ (by rw [List.length_drop]; omega), List.length_drop, show 12 - (L.length - 1) = 0 by omega]
        rfl
      · rw [if_neg c, if_neg c, if_neg c, List.set_append_right _ _ (by rw [List.length_take]; omega), List.length_take, show a + 1 - min (a + 1) L.length = 0 by omega]
        rfl
    rw [hset] at hsh4
    conv => whnf
    refine ⟨hsh4.cls, Nat.zero_le _, Nat.zero_le _, _, _, _, hsh4, ?_⟩
    conv => whnf
    exact ⟨rfl, h M4 b' hsh4 hb' fun q q1 q2 q3 => by rw [e4 q q2 q3]; exact fr3 q q1⟩
  · exact h.elim
def S_She_takeBack (sz0 : Nat) : jS := fun av M sz P _ => match av with
  | [.inr (.inr (some s)), .inl n] => ∃ (L : List (List Int)) (a b : Nat), she M s L a b ∧ sz0 ≤ s ∧ (0 ≤ n ∧ jr n) ∧ ∀ M' : jM, she M' s L (a - n.toNat) b → (∀ q : Nat, q ≠ s → M' q = M q) → P (some (vI ((min n.toNat a : Nat) : Int))) M' sz
  | _ => False
def k_She_takeBack : List (Nat × jI5) := [(0, .iload_n 1, 1, 0, 0), (1, .aload_n 0, 2, 0, 0), (2, .getfield 34, 5, 0, 0), (5, .invokestatic 37, 8, 0, 0), (8, .istore_n 2, 9, 0, 0), (9, .aload_n 0, 10, 0, 0), (10, .dup, 11, 0, 0), (11, .getfield 20, 14, 0, 0), (14, .iload_n 2, 15, 0, 0), (15, .isub, 16, 0, 0), (16, .putfield 20, 19, 0, 0), (19, .aload_n 0, 20, 0, 0), (20, .dup, 21, 0, 0), (21, .getfield 34, 24, 0, 0), (24, .iload_n 2, 25, 0, 0), (25, .isub, 26, 0, 0), (26, .putfield 34, 29, 0, 0), (29, .aload_n 0, 30, 0, 0), (30, .dup, 31, 0, 0), (31, .getfield 40, 34, 0, 0), (34, .iload_n 2, 35, 0, 0), (35, .iadd, 36, 0, 0), (36, .putfield 40, 39, 0, 0), (39, .iload_n 2, 40, 0, 0), (40, .ireturn, 41, 0, 0)]
theorem k_She_takeBack_ok : k_She_takeBack.all (jok1 prog_4_method_4_code) = true := by decide +kernel
abbrev y_She_takeBack : MethodName := ⟨"Manydoors$Sheet", "takeBack", "(I)I"⟩
theorem Y_She_takeBack : jYok y_She_takeBack prog_4_method_4_code 3 (some .int) 1 := ⟨(jg_in (List.mem_of_getElem? (i := 347) (by decide +kernel)) rfl), (jg_in (List.mem_of_getElem? (i := 43) (by decide +kernel)) rfl), by decide +kernel, by decide⟩
def cp_She_takeBack (sz0 : Nat) : List (Nat × Nat × jTr) := [(0, 20, jget 3 1), (0, 34, jget 3 2), (0, 40, jget 3 3), (1, 20, jputf sz0 3 1 (.int)), (1, 34, jputf sz0 3 2 (.int)), (1, 40, jputf sz0 3 3 (.int)), (4, 37, jcall 2 0 0 (S_Mat_min sz0))]
theorem cp_She_takeBack_ok {l : Launch} (hnt : l.stackTraces = false) (sz0 : Nat) : ∀ q ∈ cp_She_takeBack sz0, jSnd sz0 l "Manydoors$Sheet" "takeBack" 1 (jin q.1 q.2.1) (jlen (jin q.1 q.2.1)) q.2.2 := List.forall_mem_cons.mpr ⟨jget_snd (idx := 20) jc_She (k := 1) (by decide) (jg_in (List.mem_of_getElem? (i := 97) (by decide +kernel)) rfl), List.forall_mem_cons.mpr ⟨jget_snd (idx := 34) jc_She (k := 2) (by decide) (jg_in (List.mem_of_getElem? (i := 98) (by decide +kernel)) rfl), List.forall_mem_cons.mpr ⟨jget_snd (idx := 40) jc_She (k := 3) (by decide) (jg_in (List.mem_of_getElem? (i := 100) (by decide +kernel)) rfl), List.forall_mem_cons.mpr ⟨jputf_snd (idx := 20) jc_She (k := 1) (by decide) (jg_in (List.mem_of_getElem? (i := 97) (by decide +kernel)) rfl) rfl, List.forall_mem_cons.mpr ⟨jputf_snd (idx := 34) jc_She (k := 2) (by decide) (jg_in (List.mem_of_getElem? (i := 98) (by decide +kernel)) rfl) rfl, List.forall_mem_cons.mpr ⟨jputf_snd (idx := 40) jc_She (k := 3) (by decide) (jg_in (List.mem_of_getElem? (i := 100) (by decide +kernel)) rfl) rfl, List.forall_mem_cons.mpr ⟨jcall_snd (idx := 37) (c_Mat_min hnt sz0) Y_Mat_min (jg_in (List.mem_of_getElem? (i := 318) (by decide +kernel)) rfl) (by omega) (jg_in (List.mem_of_getElem? (i := 348) (by decide +kernel)) rfl), fun _ h => absurd h List.not_mem_nil⟩⟩⟩⟩⟩⟩⟩
set_option maxRecDepth 20000 in
set_option maxHeartbeats 4000000 in
theorem c_She_takeBack {l : Launch} (hnt : l.stackTraces = false) (sz0 : Nat) : jCon sz0 l y_She_takeBack prog_4_method_4_code 3 (some .int) 1 0 0 (S_She_takeBack sz0) := by
  refine jmet (own := "Manydoors$Sheet") (nm := "takeBack") k_She_takeBack (cp_She_takeBack sz0) [] 60 (plainFor_of_name (by decide)) rfl rfl hnt k_She_takeBack_ok (cp_She_takeBack_ok hnt sz0) (fun _ h => absurd h List.not_mem_nil) ?_
  intro av M sz P X h hz hfr
  unfold S_She_takeBack at h
  split at h
  · rename_i s n
    obtain ⟨L, a, b, hs, ho, ⟨hn, hjn⟩, h⟩ := h
    obtain ⟨X, h1, h2, h3, ⟨h4, h5, h6⟩, h7⟩ := hs
    refine ⟨rfl, [], ?_, fun pc a h => absurd h List.not_mem_nil⟩
    conv => whnf
    refine ⟨_, _, h1, rfl, ?_⟩
    conv => whnf
    refine ⟨Nat.zero_le _, Nat.zero_le _, hjn, jrn (by omega), ?_⟩
    have et : (if n ≤ (a : Int) then n else (a : Int)) = ((min n.toNat a : Nat) : Int) := by split <;> omega
    rw [et]
    conv => whnf
    refine ⟨_, _, h1, rfl, ?_⟩
    conv => whnf
    refine ⟨ho, _, h1, fun M1 e1 => ?_⟩
    generalize ht : min n.toNat a = t at *
    have f1 : M1 s = some (.inl (3, [vR (s + 1), vI (((b + a : Nat) : Int) - t), vI (a : Int), vI ((L.length : Int) - 1 - a)])) := by rw [e1, jup_s]; rfl
    conv => whnf
    refine ⟨_, _, f1, rfl, ?_⟩
    conv => whnf
    refine ⟨ho, _, f1, fun M2 e2 => ?_⟩
    have f2 : M2 s = some (.inl (3, [vR (s + 1), vI (((b + a : Nat) : Int) - t), vI ((a : Int) - t), vI ((L.length : Int) - 1 - a)])) := by rw [e2, jup_s]; rfl
    conv => whnf
    refine ⟨_, _, f2, rfl, ?_⟩
    conv => whnf
    refine ⟨ho, _, f2, fun M3 e3 => ?_⟩
    have fr3 : ∀ q : Nat, q ≠ s → M3 q = M q := fun q hq => by rw [e3, jup_n hq, e2, jup_n hq, e1, jup_n hq]
    conv => whnf
    refine ⟨trivial, h M3 ⟨X, ?_, ?_, fun i hi => ?_, ⟨by omega, by omega, h6⟩, h7⟩ fr3⟩
    · rw [e3, jup_s]
      show some (Sum.inl (3, [vR (s + 1), vI (((b + a : Nat) : Int) - t), vI ((a : Int) - t), vI ((L.length : Int) - 1 - a + t)])) = _
      have z1 : ((b + a : Nat) : Int) - t = ((b + (a - n.toNat) : Nat) : Int) := by omega
      have z2 : (a : Int) - t = ((a - n.toNat : Nat) : Int) := by omega
      have z3 : (L.length : Int) - 1 - a + t = (L.length : Int) - 1 - ((a - n.toNat : Nat) : Int) := by omega
      rw [z1, z2, z3]
    · rw [fr3 _ (by omega)]; exact h2
    · obtain ⟨g, k1, k2, k3⟩ := h3 i hi
      exact ⟨g, by rw [fr3 _ (by omega)]; exact k1, by rw [fr3 _ (by omega)]; exact k2, k3⟩
  · exact h.elim
def S_She_doAgain (sz0 : Nat) : jS := fun av M sz P _ => match av with
  | [.inr (.inr (some s)), .inl n] => ∃ (L : List (List Int)) (a b : Nat), she M s L a b ∧ sz0 ≤ s ∧ (0 ≤ n ∧ jr n) ∧ b + 12 ≤ 100000 ∧ ∀ M' : jM, she M' s L (a + min n.toNat (L.length - 1 - a)) b → (∀ q : Nat, q ≠ s → M' q = M q) → P (some (vI ((min n.toNat (L.length - 1 - a) : Nat) : Int))) M' sz
  | _ => False
def k_She_doAgain : List (Nat × jI5) := [(0, .iload_n 1, 1, 0, 0), (1, .aload_n 0, 2, 0, 0), (2, .getfield 40, 5, 0, 0), (5, .invokestatic 37, 8, 0, 0), (8, .istore_n 2, 9, 0, 0), (9, .aload_n 0, 10, 0, 0), (10, .dup, 11, 0, 0), (11, .getfield 20, 14, 0, 0), (14, .iload_n 2, 15, 0, 0), (15, .iadd, 16, 0, 0), (16, .putfield 20, 19, 0, 0), (19, .aload_n 0, 20, 0, 0), (20, .dup, 21, 0, 0), (21, .getfield 34, 24, 0, 0), (24, .iload_n 2, 25, 0, 0), (25, .iadd, 26, 0, 0), (26, .putfield 34, 29, 0, 0), (29, .aload_n 0, 30, 0, 0), (30, .dup, 31, 0, 0), (31, .getfield 40, 34, 0, 0), (34, .iload_n 2, 35, 0, 0), (35, .isub, 36, 0, 0), (36, .putfield 40, 39, 0, 0), (39, .iload_n 2, 40, 0, 0), (40, .ireturn, 41, 0, 0)]
theorem k_She_doAgain_ok : k_She_doAgain.all (jok1 prog_4_method_5_code) = true := by decide +kernel
abbrev y_She_doAgain : MethodName := ⟨"Manydoors$Sheet", "doAgain", "(I)I"⟩
theorem Y_She_doAgain : jYok y_She_doAgain prog_4_method_5_code 3 (some .int) 1 := ⟨(jg_in (List.mem_of_getElem? (i := 352) (by decide +kernel)) rfl), (jg_in (List.mem_of_getElem? (i := 43) (by decide +kernel)) rfl), by decide +kernel, by decide⟩
def cp_She_doAgain (sz0 : Nat) : List (Nat × Nat × jTr) := [(0, 20, jget 3 1), (0, 34, jget 3 2), (0, 40, jget 3 3), (1, 20, jputf sz0 3 1 (.int)), (1, 34, jputf sz0 3 2 (.int)), (1, 40, jputf sz0 3 3 (.int)), (4, 37, jcall 2 0 0 (S_Mat_min sz0))]
theorem cp_She_doAgain_ok {l : Launch} (hnt : l.stackTraces = false) (sz0 : Nat) : ∀ q ∈ cp_She_doAgain sz0, jSnd sz0 l "Manydoors$Sheet" "doAgain" 1 (jin q.1 q.2.1) (jlen (jin q.1 q.2.1)) q.2.2 := List.forall_mem_cons.mpr ⟨jget_snd (idx := 20) jc_She (k := 1) (by decide) (jg_in (List.mem_of_getElem? (i := 97) (by decide +kernel)) rfl), List.forall_mem_cons.mpr ⟨jget_snd (idx := 34) jc_She (k := 2) (by decide) (jg_in (List.mem_of_getElem? (i := 98) (by decide +kernel)) rfl), List.forall_mem_cons.mpr ⟨jget_snd (idx := 40) jc_She (k := 3) (by decide) (jg_in (List.mem_of_getElem? (i := 100) (by decide +kernel)) rfl), List.forall_mem_cons.mpr ⟨jputf_snd (idx := 20) jc_She (k := 1) (by decide) (jg_in (List.mem_of_getElem? (i := 97) (by decide +kernel)) rfl) rfl, List.forall_mem_cons.mpr ⟨jputf_snd (idx := 34) jc_She (k := 2) (by decide) (jg_in (List.mem_of_getElem? (i := 98) (by decide +kernel)) rfl) rfl, List.forall_mem_cons.mpr ⟨jputf_snd (idx := 40) jc_She (k := 3) (by decide) (jg_in (List.mem_of_getElem? (i := 100) (by decide +kernel)) rfl) rfl, List.forall_mem_cons.mpr ⟨jcall_snd (idx := 37) (c_Mat_min hnt sz0) Y_Mat_min (jg_in (List.mem_of_getElem? (i := 318) (by decide +kernel)) rfl) (by omega) (jg_in (List.mem_of_getElem? (i := 348) (by decide +kernel)) rfl), fun _ h => absurd h List.not_mem_nil⟩⟩⟩⟩⟩⟩⟩
set_option maxRecDepth 20000 in
set_option maxHeartbeats 4000000 in
theorem c_She_doAgain {l : Launch} (hnt : l.stackTraces = false) (sz0 : Nat) : jCon sz0 l y_She_doAgain prog_4_method_5_code 3 (some .int) 1 0 0 (S_She_doAgain sz0) := by
  refine jmet (own := "Manydoors$Sheet") (nm := "doAgain") k_She_doAgain (cp_She_doAgain sz0) [] 60 (plainFor_of_name (by decide)) rfl rfl hnt k_She_doAgain_ok (cp_She_doAgain_ok hnt sz0) (fun _ h => absurd h List.not_mem_nil) ?_
  intro av M sz P X h hz hfr
  unfold S_She_doAgain at h
  split at h
  · rename_i s n
    obtain ⟨L, a, b, hs, ho, ⟨hn, hjn⟩, hb, h⟩ := h
    obtain ⟨X, h1, h2, h3, ⟨h4, h5, h6⟩, h7⟩ := hs
    refine ⟨rfl, [], ?_, fun pc a h => absurd h List.not_mem_nil⟩
    conv => whnf
    refine ⟨_, _, h1, rfl, ?_⟩
    conv => whnf
    refine ⟨Nat.zero_le _, Nat.zero_le _, hjn, ⟨by omega, by omega⟩, ?_⟩
    have et : (if n ≤ (L.length : Int) - 1 - (a : Int) then n else (L.length : Int) - 1 - (a : Int)) = ((min n.toNat (L.length - 1 - a) : Nat) : Int) := by split <;> omega
    rw [et]
    conv => whnf
    refine ⟨_, _, h1, rfl, ?_⟩
    conv => whnf
    refine ⟨ho, _, h1, fun M1 e1 => ?_⟩
    generalize ht : min n.toNat (L.length - 1 - a) = t at *
    have f1 : M1 s = some (.inl (3, [vR (s + 1), vI (((b + a : Nat) : Int) + t), vI (a : Int), vI ((L.length : Int) - 1 - a)])) := by rw [e1, jup_s]; rfl
    conv => whnf
    refine ⟨_, _, f1, rfl, ?_⟩
    conv => whnf
    refine ⟨ho, _, f1, fun M2 e2 => ?_⟩
    have f2 : M2 s = some (.inl (3, [vR (s + 1), vI (((b + a : Nat) : Int) + t), vI ((a : Int) + t), vI ((L.length : Int) - 1 - a)])) := by rw [e2, jup_s]; rfl
    conv => whnf
    refine ⟨_, _, f2, rfl, ?_⟩
    conv => whnf
    refine ⟨ho, _, f2, fun M3 e3 => ?_⟩
    have fr3 : ∀ q : Nat, q ≠ s → M3 q = M q := fun q hq => by rw [e3, jup_n hq, e2, jup_n hq, e1, jup_n hq]
    conv => whnf
    refine ⟨trivial, h M3 ⟨X, ?_, ?_, fun i hi => ?_, ⟨by omega, by omega, h6⟩, h7⟩ fr3⟩
    · rw [e3, jup_s]
      show some (Sum.inl (3, [vR (s + 1), vI (((b + a : Nat) : Int) + t), vI ((a : Int) + t), vI ((L.length : Int) - 1 - a - t)])) = _
      have z1 : ((b + a : Nat) : Int) + t = ((b + (a + t) : Nat) : Int) := by omega
      have z2 : (a : Int) + t = ((a + t : Nat) : Int) := by omega
      have z3 : (L.length : Int) - 1 - a - t = (L.length : Int) - 1 - ((a + t : Nat) : Int) := by omega
      rw [z1, z2, z3]
    · rw [fr3 _ (by omega)]; exact h2
    · obtain ⟨g, k1, k2, k3⟩ := h3 i hi
      exact ⟨g, by rw [fr3 _ (by omega)]; exact k1, by rw [fr3 _ (by omega)]; exact k2, k3⟩
  · exact h.elim

