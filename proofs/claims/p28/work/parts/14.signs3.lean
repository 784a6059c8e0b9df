/-! Signs: turned, compared, sought. -/
def S_Sig_turnRound (sz0 : Nat) : jS := fun av M sz P _ => match av with
  | [.inr (.inr (some o))] => ∃ (xs : List Int) (rm : Nat), sg M o xs rm ∧ sz0 ≤ o ∧ ∀ M' : jM, sg M' o xs.reverse rm → jfr o M M' → P none M' sz
  | _ => False
theorem rev_of {xs zs : List Int} {l : Nat} (h1 : zs.length = xs.length) (h2 : ∀ j : Nat, j < xs.length → zs.getD j 0 = if j < l ∨ xs.length - l ≤ j then xs.getD (xs.length - 1 - j) 0 else xs.getD j 0) (h3 : xs.length ≤ 2 * l + 1) : zs = xs.reverse := by
  apply List.ext_getElem
  · rw [h1, List.length_reverse]
  · intro j c1 c2
    have c3 : j < xs.length := by omega
    have h4 := h2 j c3
    rw [List.getD_eq_getElem?_getD, List.getElem?_eq_getElem c1] at h4
    rw [List.getElem_reverse]
    split at h4
    · rw [List.getD_eq_getElem?_getD, List.getElem?_eq_getElem (by omega)] at h4
      exact h4
    · rw [List.getD_eq_getElem?_getD, List.getElem?_eq_getElem c3] at h4
      have e : xs.length - 1 - j = j := by omega
      simp only [e]
      exact h4
def k_Sig_turnRound : List (Nat × jI5) := [(0, .aload_n 0, 1, 0, 0), (1, .getfield 21, 4, 0, 0), (4, .iconst (1), 5, 0, 1), (5, .isub, 6, 0, 0), (6, .istore_n 1, 7, 0, 0), (7, .iconst (0), 8, 0, 0), (8, .istore_n 2, 9, 0, 0), (9, .iload_n 2, 10, 0, 0), (10, .iload_n 1, 11, 0, 0), (11, .if_icmp .ge (47), 14, 58, 0), (14, .iload_n 1, 15, 0, 0), (15, .aload_n 0, 16, 0, 0), (16, .getfield 15, 19, 0, 0), (19, .arraylength, 20, 0, 0), (20, .if_icmp .ge (38), 23, 58, 0), (23, .aload_n 0, 24, 0, 0), (24, .getfield 15, 27, 0, 0), (27, .iload_n 2, 28, 0, 0), (28, .iaload, 29, 0, 0), (29, .istore_n 3, 30, 0, 0), (30, .aload_n 0, 31, 0, 0), (31, .getfield 15, 34, 0, 0), (34, .iload_n 2, 35, 0, 0), (35, .aload_n 0, 36, 0, 0), (36, .getfield 15, 39, 0, 0), (39, .iload_n 1, 40, 0, 0), (40, .iaload, 41, 0, 0), (41, .iastore, 42, 0, 0), (42, .aload_n 0, 43, 0, 0), (43, .getfield 15, 46, 0, 0), (46, .iload_n 1, 47, 0, 0), (47, .iload_n 3, 48, 0, 0), (48, .iastore, 49, 0, 0), (49, .iinc 1 (-1), 52, 0, (-1)), (52, .iinc 2 (1), 55, 0, 1), (55, .goto (-46), 58, 9, 0), (58, .return_, 59, 0, 0)]
theorem k_Sig_turnRound_ok : k_Sig_turnRound.all (jok1 prog_5_method_14_code) = true := by decide +kernel
abbrev y_Sig_turnRound : MethodName := ⟨"Manydoors$Signs", "turnRound", "()V"⟩
theorem Y_Sig_turnRound : jYok y_Sig_turnRound prog_5_method_14_code 4 none 0 := ⟨(jg_in (List.mem_of_getElem? (i := 617) (by decide +kernel)) rfl), (jg_in (List.mem_of_getElem? (i := 41) (by decide +kernel)) rfl), by decide +kernel, by decide⟩
def cp_Sig_turnRound (sz0 : Nat) : List (Nat × Nat × jTr) := [(0, 15, jget 4 0), (0, 21, jget 4 1), (11, 0, jiast sz0)]
theorem cp_Sig_turnRound_ok {l : Launch} (hnt : l.stackTraces = false) (sz0 : Nat) : ∀ q ∈ cp_Sig_turnRound sz0, jSnd sz0 l "Manydoors$Signs" "turnRound" 0 (jin q.1 q.2.1) (jlen (jin q.1 q.2.1)) q.2.2 := List.forall_mem_cons.mpr ⟨jget_snd (idx := 15) jc_Sig (k := 0) (by decide) (jg_in (List.mem_of_getElem? (i := 81) (by decide +kernel)) rfl), List.forall_mem_cons.mpr ⟨jget_snd (idx := 21) jc_Sig (k := 1) (by decide) (jg_in (List.mem_of_getElem? (i := 82) (by decide +kernel)) rfl), List.forall_mem_cons.mpr ⟨jiast_snd, fun _ h => absurd h List.not_mem_nil⟩⟩⟩
set_option maxRecDepth 20000 in
set_option maxHeartbeats 4000000 in
theorem c_Sig_turnRound {l : Launch} (hnt : l.stackTraces = false) (sz0 : Nat) : jCon sz0 l y_Sig_turnRound prog_5_method_14_code 4 none 0 0 0 (S_Sig_turnRound sz0) := by
  refine jmet (own := "Manydoors$Signs") (nm := "turnRound") k_Sig_turnRound (cp_Sig_turnRound sz0) [] 50 (plainFor_of_name (by decide)) rfl rfl hnt k_Sig_turnRound_ok (cp_Sig_turnRound_ok hnt sz0) (fun _ h => absurd h List.not_mem_nil) ?_
  intro av M sz P X h hz hfr
  unfold S_Sig_turnRound at h
  split at h
  · rename_i o
    obtain ⟨xs, rm, hg, ho, h⟩ := h
    have hg0 := hg.len
    obtain ⟨g, h1, h2, h3, h4⟩ := id hg
    refine ⟨rfl, [(9, fun k lv st M1 sz1 kc ks => ∃ (l : Nat) (zs : List Int), (2 * l ≤ xs.length + 1 ∧ k = xs.length - l ∧ lv = [(0, vR o), (1, vI ((xs.length : Int) - 1 - l)), (2, vI (l : Int))] ++ lv.drop 3 ∧ st = [] ∧ sz1 = sz) ∧ (lv.drop 3 = [] ∨ ∃ w : Int, lv.drop 3 = [(3, vI w)]) ∧ M1 o = some (.inl (4, [vR (o + 1), vI xs.length])) ∧ M1 (o + 1) = some (.inr (.inl (.int, zs ++ g))) ∧ zs.length = xs.length ∧ (∀ j : Nat, j < xs.length → zs.getD j 0 = if j < l ∨ xs.length - l ≤ j then xs.getD (xs.length - 1 - j) 0 else xs.getD j 0) ∧ jfr o M M1)], ?_, fun pc a hpa => ?_⟩
    · conv => whnf
      refine ⟨_, _, h1, rfl, ?_⟩
      conv => whnf
      refine ⟨_, 0, xs, ⟨by omega, rfl, ?_, rfl, rfl⟩, Or.inl rfl, h1, h2, rfl, fun j hj => ?_, jfr.rfl'⟩
      · simp [jst, jl0, jct2]
      · rw [if_neg (by omega)]
    · cases List.mem_singleton.mp hpa
      rintro k lv st M1 sz1 kc ks ⟨l, zs, ⟨hl, rfl, hlv, rfl, rfl⟩, hlv2, g1, g2, g3, g4, g5⟩
      generalize hw : lv.drop 3 = w3 at hlv hlv2
      subst hlv
      have hzl : (zs ++ g).length = rm := by rw [List.length_append]; omega
      rcases hlv2 with rfl | ⟨w, rfl⟩
      all_goals
        conv => whnf
        refine ⟨⟨jrn (by omega), ⟨by omega, by omega⟩⟩, fun c1 => ?_, fun c1 => ?_⟩
        · conv => whnf
          refine ⟨rfl, h M1 ⟨g, ?_, ?_, by rw [List.length_reverse]; exact h3, h4.1, fun x hx => h4.2 x (List.mem_reverse.mp hx)⟩ g5⟩
          · rw [g1, List.length_reverse]
          · rw [g2, rev_of g3 g4 (by omega)]
        · conv => whnf
          refine ⟨_, _, g1, rfl, ?_⟩
          refine Or.inl ⟨_, _, g2, ?_⟩
          conv => whnf
          refine ⟨⟨⟨by omega, by omega⟩, jrn (by omega)⟩, fun c2 => by omega, fun c2 => ?_⟩
          conv => whnf
          refine ⟨_, _, g1, rfl, ?_⟩
          conv => whnf
          refine ⟨_, g2, ⟨by omega, by omega, by omega⟩, fun v1 hv1 hj1 => ?_⟩
          rw [List.getElem?_append_left (by omega)] at hv1
          conv => whnf
          refine ⟨_, _, g1, rfl, ?_⟩
          refine ⟨_, _, g1, rfl, ?_⟩
          conv => whnf
          refine ⟨_, g2, ⟨by omega, by omega, by omega⟩, fun v2 hv2 hj2 => ?_⟩
          rw [List.getElem?_append_left (by omega)] at hv2
          conv => whnf
          refine ⟨_, g2, by omega, ⟨by omega, by omega, by omega⟩, hj2, fun M2 e2 => ?_⟩
          have f1 : M2 o = some (.inl (4, [vR (o + 1), vI xs.length])) := by rw [e2, jup_n (by omega)]; exact g1
          have f2 : M2 (o + 1) = some (.inr (.inl (.int, zs.set l v2 ++ g))) := by
            rw [e2, jup_s, show ((l : Nat) : Int).toNat = l from rfl, List.set_append_left _ _ (by omega)]
          have hl2 : (zs.set l v2 ++ g).length = rm := by rw [List.length_append, List.length_set]; omega
          conv => whnf
          refine ⟨_, _, f1, rfl, ?_⟩
          conv => whnf
          refine ⟨_, f2, by omega, ⟨by omega, by omega, by omega⟩, hj1, fun M3 e3 => ?_⟩
          have e9 : ((xs.length : Int) - 1 - (l : Int)).toNat = xs.length - 1 - l := by omega
          rw [e9] at e3 hv2
          conv => whnf
          refine ⟨_, ?_, l + 1, (zs.set l v2).set (xs.length - 1 - l) v1, ⟨by omega, rfl, ?_, rfl, rfl⟩, Or.inr ⟨v1, rfl⟩, ?_, ?_, by rw [List.length_set, List.length_set]; exact g3, fun j hj => ?_, fun q q1 q2 => ?_⟩
          · omega
          · have e8 : (xs.length : Int) - 1 - (l : Int) + -1 = (xs.length : Int) - 1 - ((l + 1 : Nat) : Int) := by omega
            simp [jst, jl0, jct2, jdl, e8]
          · rw [e3, jup_n (by omega)]; exact f1
          · rw [e3, jup_s, List.set_append_left _ _ (by rw [List.length_set]; omega)]
          · have a1 : zs.getD l 0 = v1 := by rw [List.getD_eq_getElem?_getD, show l = ((l : Nat) : Int).toNat from rfl, hv1]; rfl
            have a2 : zs.getD (xs.length - 1 - l) 0 = v2 := by rw [List.getD_eq_getElem?_getD, hv2]; rfl
            have b1 := g4 l (by omega)
            have b2 := g4 (xs.length - 1 - l) (by omega)
            rw [if_neg (by omega)] at b1 b2
            rw [List.getD_eq_getElem?_getD]
            by_cases c5 : j = xs.length - 1 - l
            · rw [c5, List.getElem?_set_self (by rw [List.length_set]; omega), if_pos (by omega)]
              rw [show xs.length - 1 - (xs.length - 1 - l) = l by omega, ← b1, a1]
              rfl
            · rw [List.getElem?_set_ne (by omega)]
              by_cases c6 : j = l
              · rw [c6, List.getElem?_set_self (by omega), if_pos (by omega), ← b2, a2]
                rfl
              · rw [List.getElem?_set_ne (by omega), ← List.getD_eq_getElem?_getD, g4 j hj]
                by_cases c7 : j < l ∨ xs.length - l ≤ j
                · rw [if_pos c7, if_pos (by omega)]
                · rw [if_neg c7, if_neg (by omega)]
          · rw [e3, jup_n q2, e2, jup_n q2]; exact g5 q q1 q2
  · exact h.elim
/-- which of two lists is the less: by the first place where they differ, then the shorter one -/
def cmpL : List Int → List Int → Int
  | [], [] => 0
  | [], _ :: _ => -1
  | _ :: _, [] => 1
  | a :: x, b :: y => if a = b then cmpL x y else if a < b then -1 else 1
theorem cmpL_eq : ∀ {x y : List Int}, cmpL x y = 0 ↔ x = y
  | [], [] => by simp [cmpL]
  | [], _ :: _ => by simp [cmpL]
  | _ :: _, [] => by simp [cmpL]
  | a :: x, b :: y => by
    unfold cmpL
    by_cases h : a = b
    · rw [if_pos h, cmpL_eq, h]
      simp
    · rw [if_neg h]
      split <;> simp [h]
theorem cmpL_tri {x y : List Int} : cmpL x y = 0 ∨ cmpL x y = 1 ∨ cmpL x y = -1 := by
  induction x generalizing y with
  | nil => cases y <;> simp [cmpL]
  | cons a x ih =>
    cases y with
    | nil => simp [cmpL]
    | cons b y =>
      unfold cmpL
      split
      · exact ih
      · split <;> simp
theorem cmpL_step {x y : List Int} {i : Nat} (h1 : i < x.length) (h2 : i < y.length) : cmpL (x.drop i) (y.drop i) = if x[i] = y[i] then cmpL (x.drop (i + 1)) (y.drop (i + 1)) else if x[i] < y[i] then -1 else 1 := by
  rw [List.drop_eq_getElem_cons h1, List.drop_eq_getElem_cons h2]
  rfl
theorem cmpL_end {x y : List Int} {i : Nat} (h : i = x.length ∨ i = y.length) (h1 : i ≤ x.length) (h2 : i ≤ y.length) : cmpL (x.drop i) (y.drop i) = if x.length = y.length then 0 else if x.length < y.length then -1 else 1 := by
  rcases h with rfl | rfl
  · rw [List.drop_eq_nil_of_le (Nat.le_refl _)]
    by_cases c : x.length = y.length
    · rw [if_pos c, c, List.drop_eq_nil_of_le (Nat.le_refl _)]; rfl
    · rw [if_neg c, if_pos (by omega), List.drop_eq_getElem_cons (by omega)]; rfl
  · rw [List.drop_eq_nil_of_le (Nat.le_refl y.length)]
    by_cases c : x.length = y.length
    · rw [if_pos c, ← c, List.drop_eq_nil_of_le (Nat.le_refl _)]; rfl
    · rw [if_neg c, if_neg (by omega), List.drop_eq_getElem_cons (by omega)]; rfl
def S_Sig_orderTo (_ : Nat) : jS := fun av M sz P _ => match av with
  | [.inr (.inr (some o)), .inr (.inr (some p))] => ∃ (xs ys : List Int) (rm rn : Nat), sg M o xs rm ∧ sg M p ys rn ∧ P (some (vI (cmpL xs ys))) M sz
  | _ => False
def k_Sig_orderTo : List (Nat × jI5) := [(0, .aload_n 0, 1, 0, 0), (1, .getfield 21, 4, 0, 0), (4, .aload_n 1, 5, 0, 0), (5, .getfield 21, 8, 0, 0), (8, .invokestatic 29, 11, 0, 0), (11, .istore_n 2, 12, 0, 0), (12, .iconst (0), 13, 0, 0), (13, .istore_n 3, 14, 0, 0), (14, .iload_n 3, 15, 0, 0), (15, .iload_n 2, 16, 0, 0), (16, .if_icmp .ge (41), 19, 57, 0), (19, .aload_n 0, 20, 0, 0), (20, .iload_n 3, 21, 0, 0), (21, .invokevirtual 53, 24, 0, 0), (24, .aload_n 1, 25, 0, 0), (25, .iload_n 3, 26, 0, 0), (26, .invokevirtual 53, 29, 0, 0), (29, .if_icmp .eq (22), 32, 51, 0), (32, .aload_n 0, 33, 0, 0), (33, .iload_n 3, 34, 0, 0), (34, .invokevirtual 53, 37, 0, 0), (37, .aload_n 1, 38, 0, 0), (38, .iload_n 3, 39, 0, 0), (39, .invokevirtual 53, 42, 0, 0), (42, .if_icmp .ge (7), 45, 49, 0), (45, .iconst (-1), 46, 0, (-1)), (46, .goto (4), 49, 50, 0), (49, .iconst (1), 50, 0, 1), (50, .ireturn, 51, 0, 0), (51, .iinc 3 (1), 54, 0, 1), (54, .goto (-40), 57, 14, 0), (57, .aload_n 0, 58, 0, 0), (58, .getfield 21, 61, 0, 0), (61, .aload_n 1, 62, 0, 0), (62, .getfield 21, 65, 0, 0), (65, .if_icmp .ne (5), 68, 70, 0), (68, .iconst (0), 69, 0, 0), (69, .ireturn, 70, 0, 0), (70, .aload_n 0, 71, 0, 0), (71, .getfield 21, 74, 0, 0), (74, .aload_n 1, 75, 0, 0), (75, .getfield 21, 78, 0, 0), (78, .if_icmp .ge (7), 81, 85, 0), (81, .iconst (-1), 82, 0, (-1)), (82, .goto (4), 85, 86, 0), (85, .iconst (1), 86, 0, 1), (86, .ireturn, 87, 0, 0)]
theorem k_Sig_orderTo_ok : k_Sig_orderTo.all (jok1 prog_5_method_16_code) = true := by decide +kernel
abbrev y_Sig_orderTo : MethodName := ⟨"Manydoors$Signs", "orderTo", "(LManydoors$Signs;)I"⟩
theorem Y_Sig_orderTo : jYok y_Sig_orderTo prog_5_method_16_code 4 (some .int) 1 := ⟨(jg_in (List.mem_of_getElem? (i := 330) (by decide +kernel)) rfl), (jg_in (List.mem_of_getElem? (i := 41) (by decide +kernel)) rfl), by decide +kernel, by decide⟩
def cp_Sig_orderTo (sz0 : Nat) : List (Nat × Nat × jTr) := [(0, 21, jget 4 1), (3, 53, jcalv 2 0 0 4 (S_Sig_signOf sz0)), (4, 29, jcall 2 0 0 (S_Mat_min sz0))]
theorem cp_Sig_orderTo_ok {l : Launch} (hnt : l.stackTraces = false) (sz0 : Nat) : ∀ q ∈ cp_Sig_orderTo sz0, jSnd sz0 l "Manydoors$Signs" "orderTo" 1 (jin q.1 q.2.1) (jlen (jin q.1 q.2.1)) q.2.2 := List.forall_mem_cons.mpr ⟨jget_snd (idx := 21) jc_Sig (k := 1) (by decide) (jg_in (List.mem_of_getElem? (i := 82) (by decide +kernel)) rfl), List.forall_mem_cons.mpr ⟨jcalv_snd (idx := 53) (r := (R_Sig, F_Sig, 2)) (c_Sig_signOf hnt sz0) Y_Sig_signOf rfl rfl (jg_in (List.mem_of_getElem? (i := 332) (by decide +kernel)) rfl) (jg_in (List.mem_of_getElem? (i := 333) (by decide +kernel)) rfl) (by omega) (jg_in (List.mem_of_getElem? (i := 331) (by decide +kernel)) rfl), List.forall_mem_cons.mpr ⟨jcall_snd (idx := 29) (c_Mat_min hnt sz0) Y_Mat_min (jg_in (List.mem_of_getElem? (i := 318) (by decide +kernel)) rfl) (by omega) (jg_in (List.mem_of_getElem? (i := 317) (by decide +kernel)) rfl), fun _ h => absurd h List.not_mem_nil⟩⟩⟩
set_option maxRecDepth 20000 in
set_option maxHeartbeats 4000000 in
theorem c_Sig_orderTo {l : Launch} (hnt : l.stackTraces = false) (sz0 : Nat) : jCon sz0 l y_Sig_orderTo prog_5_method_16_code 4 (some .int) 1 0 0 (S_Sig_orderTo sz0) := by
  refine jmet (own := "Manydoors$Signs") (nm := "orderTo") k_Sig_orderTo (cp_Sig_orderTo sz0) [] 50 (plainFor_of_name (by decide)) rfl rfl hnt k_Sig_orderTo_ok (cp_Sig_orderTo_ok hnt sz0) (fun _ h => absurd h List.not_mem_nil) ?_
  intro av M sz P X h hz hfr
  unfold S_Sig_orderTo at h
  split at h
  · rename_i o p
    obtain ⟨xs, ys, rm, rn, hg, hg2, h⟩ := h
    have hg0 := hg.len
    have hg20 := hg2.len
    obtain ⟨g, h1, h2, h3, h4⟩ := id hg
    obtain ⟨g2, k1, k2, k3, k4⟩ := id hg2
    refine ⟨rfl, [(14, fun k lv st M1 sz1 kc ks => ∃ i n : Nat, (i ≤ n ∧ k = n - i ∧ lv = [(0, vR o), (1, vR p), (2, vI (n : Int)), (3, vI (i : Int))] ∧ st = [] ∧ sz1 = sz ∧ M1 = M) ∧ n = min xs.length ys.length ∧ cmpL (xs.drop i) (ys.drop i) = cmpL xs ys)], ?_, fun pc a hpa => ?_⟩
    · conv => whnf
      refine ⟨_, _, h1, rfl, ?_⟩
      conv => whnf
      refine ⟨_, _, k1, rfl, ?_⟩
      conv => whnf
      refine ⟨Nat.zero_le _, Nat.zero_le _, jrn (by omega), jrn (by omega), ?_⟩
      have e : (if (xs.length : Int) ≤ (ys.length : Int) then (xs.length : Int) else (ys.length : Int)) = ((min xs.length ys.length : Nat) : Int) := by split <;> omega
      rw [e]
      conv => whnf
      exact ⟨_, 0, _, ⟨Nat.zero_le _, rfl, rfl, rfl, rfl, rfl⟩, rfl, rfl⟩
    · cases List.mem_singleton.mp hpa
      rintro k lv st M1 sz1 kc ks ⟨i, n, ⟨hi, rfl, rfl, rfl, rfl, rfl⟩, hn, hc⟩
      conv => whnf
      refine ⟨⟨jrn (by omega), jrn (by omega)⟩, fun c1 => ?_, fun c1 => ?_⟩
      · rw [cmpL_end (by omega) (by omega) (by omega)] at hc
        conv => whnf
        refine ⟨_, _, h1, rfl, ?_⟩
        conv => whnf
        refine ⟨_, _, k1, rfl, ?_⟩
        conv => whnf
        refine ⟨⟨jrn (by omega), jrn (by omega)⟩, fun c2 => ?_, fun c2 => ?_⟩
        · rw [if_neg (by omega)] at hc
          conv => whnf
          refine ⟨_, _, h1, rfl, ?_⟩
          conv => whnf
          refine ⟨_, _, k1, rfl, ?_⟩
          conv => whnf
          refine ⟨⟨jrn (by omega), jrn (by omega)⟩, fun c3 => ?_, fun c3 => ?_⟩
          · rw [if_neg (by omega)] at hc
            conv => whnf
            rw [← hc] at h
            exact ⟨trivial, h⟩
          · rw [if_pos (by omega)] at hc
            conv => whnf
            rw [← hc] at h
            exact ⟨trivial, h⟩
        · rw [if_pos (by omega)] at hc
          conv => whnf
          rw [← hc] at h
          exact ⟨trivial, h⟩
      · have d1 : i < xs.length := by omega
        have d2 : i < ys.length := by omega
        rw [cmpL_step d1 d2] at hc
        conv => whnf
        refine ⟨hg.cls, Nat.zero_le _, Nat.zero_le _, xs, rm, hg, jrn (by omega), ?_⟩
        conv => whnf
        refine ⟨hg2.cls, Nat.zero_le _, Nat.zero_le _, ys, rn, hg2, jrn (by omega), ?_⟩
        rw [sgA_in d1, sgA_in d2]
        have j1 : jr xs[i] := by have := h4.2 _ (List.getElem_mem d1); exact ⟨by omega, by omega⟩
        have j2 : jr ys[i] := by have := k4.2 _ (List.getElem_mem d2); exact ⟨by omega, by omega⟩
        conv => whnf
        refine ⟨⟨j1, j2⟩, fun c2 => ?_, fun c2 => ?_⟩
        · rw [if_pos c2] at hc
          conv => whnf
          exact ⟨_, by omega, i + 1, n, ⟨by omega, rfl, rfl, rfl, rfl, rfl⟩, hn, hc⟩
        · rw [if_neg c2] at hc
          conv => whnf
          refine ⟨hg.cls, Nat.zero_le _, Nat.zero_le _, xs, rm, hg, jrn (by omega), ?_⟩
          conv => whnf
          refine ⟨hg2.cls, Nat.zero_le _, Nat.zero_le _, ys, rn, hg2, jrn (by omega), ?_⟩
          rw [sgA_in d1, sgA_in d2]
          conv => whnf
          refine ⟨⟨j1, j2⟩, fun c3 => ?_, fun c3 => ?_⟩
          · rw [if_neg (by omega)] at hc
            conv => whnf
            rw [← hc] at h
            exact ⟨trivial, h⟩
          · rw [if_pos c3] at hc
            conv => whnf
            rw [← hc] at h
            exact ⟨trivial, h⟩
  · exact h.elim
def S_Sig_sameAs (_ : Nat) : jS := fun av M sz P _ => match av with
  | [.inr (.inr (some o)), .inr (.inr (some p))] => ∃ (xs ys : List Int) (rm rn : Nat), sg M o xs rm ∧ sg M p ys rn ∧ P (some (vI (if xs = ys then 1 else 0))) M sz
  | _ => False
def k_Sig_sameAs : List (Nat × jI5) := [(0, .aload_n 0, 1, 0, 0), (1, .aload_n 1, 2, 0, 0), (2, .invokevirtual 49, 5, 0, 0), (5, .ifCond .ne (7), 8, 12, 0), (8, .iconst (1), 9, 0, 1), (9, .goto (4), 12, 13, 0), (12, .iconst (0), 13, 0, 0), (13, .ireturn, 14, 0, 0)]
theorem k_Sig_sameAs_ok : k_Sig_sameAs.all (jok1 prog_5_method_15_code) = true := by decide +kernel
abbrev y_Sig_sameAs : MethodName := ⟨"Manydoors$Signs", "sameAs", "(LManydoors$Signs;)Z"⟩
theorem Y_Sig_sameAs : jYok y_Sig_sameAs prog_5_method_15_code 2 (some .boolean) 1 := ⟨(jg_in (List.mem_of_getElem? (i := 326) (by decide +kernel)) rfl), (jg_in (List.mem_of_getElem? (i := 41) (by decide +kernel)) rfl), by decide +kernel, by decide⟩
def cp_Sig_sameAs (sz0 : Nat) : List (Nat × Nat × jTr) := [(3, 49, jcalv 2 0 0 4 (S_Sig_orderTo sz0))]
theorem cp_Sig_sameAs_ok {l : Launch} (hnt : l.stackTraces = false) (sz0 : Nat) : ∀ q ∈ cp_Sig_sameAs sz0, jSnd sz0 l "Manydoors$Signs" "sameAs" 2 (jin q.1 q.2.1) (jlen (jin q.1 q.2.1)) q.2.2 := List.forall_mem_cons.mpr ⟨jcalv_snd (idx := 49) (r := (R_Sig, F_Sig, 2)) (c_Sig_orderTo hnt sz0) Y_Sig_orderTo rfl rfl (jg_in (List.mem_of_getElem? (i := 328) (by decide +kernel)) rfl) (jg_in (List.mem_of_getElem? (i := 329) (by decide +kernel)) rfl) (by omega) (jg_in (List.mem_of_getElem? (i := 327) (by decide +kernel)) rfl), fun _ h => absurd h List.not_mem_nil⟩
set_option maxRecDepth 20000 in
set_option maxHeartbeats 4000000 in
theorem c_Sig_sameAs {l : Launch} (hnt : l.stackTraces = false) (sz0 : Nat) : jCon sz0 l y_Sig_sameAs prog_5_method_15_code 2 (some .boolean) 2 0 0 (S_Sig_sameAs sz0) := by
  refine jmet (own := "Manydoors$Signs") (nm := "sameAs") k_Sig_sameAs (cp_Sig_sameAs sz0) [] 20 (plainFor_of_name (by decide)) rfl rfl hnt k_Sig_sameAs_ok (cp_Sig_sameAs_ok hnt sz0) (fun _ h => absurd h List.not_mem_nil) ?_
  intro av M sz P X h hz hfr
  unfold S_Sig_sameAs at h
  split at h
  · rename_i o p
    obtain ⟨xs, ys, rm, rn, hg, hg2, h⟩ := h
    refine ⟨rfl, [], ?_, fun pc a h => absurd h List.not_mem_nil⟩
    conv => whnf
    refine ⟨hg.cls, Nat.zero_le _, Nat.zero_le _, xs, ys, rm, rn, hg, hg2, ?_⟩
    conv => whnf
    refine ⟨by rcases cmpL_tri (x := xs) (y := ys) with e | e | e <;> rw [e] <;> exact ⟨by omega, by omega⟩, fun c => ?_, fun c => ?_⟩
    · conv => whnf
      rw [if_neg (fun e => c (cmpL_eq.mpr e))] at h
      exact ⟨Or.inl rfl, h⟩
    · conv => whnf
      rw [if_pos (cmpL_eq.mp c)] at h
      exact ⟨Or.inr rfl, h⟩
  · exact h.elim
/-- ys stands in xs at p -/
def isat (xs ys : List Int) (p : Nat) : Prop := p + ys.length ≤ xs.length ∧ ∀ i : Nat, i < ys.length → xs.getD (p + i) 0 = ys.getD i 0
def S_Sig_hasAt (_ : Nat) : jS := fun av M sz P _ => match av with
  | [.inr (.inr (some o)), .inl a, .inr (.inr (some p))] => ∃ (xs ys : List Int) (rm rn : Nat), sg M o xs rm ∧ sg M p ys rn ∧ (0 ≤ a ∧ a + (ys.length : Int) ≤ (xs.length : Int)) ∧ (isat xs ys a.toNat → P (some (vI 1)) M sz) ∧ (¬ isat xs ys a.toNat → P (some (vI 0)) M sz)
  | _ => False
def k_Sig_hasAt : List (Nat × jI5) := [(0, .iconst (0), 1, 0, 0), (1, .istore_n 3, 2, 0, 0), (2, .iload_n 3, 3, 0, 0), (3, .aload_n 2, 4, 0, 0), (4, .getfield 21, 7, 0, 0), (7, .if_icmp .ge (26), 10, 33, 0), (10, .aload_n 0, 11, 0, 0), (11, .iload_n 1, 12, 0, 0), (12, .iload_n 3, 13, 0, 0), (13, .iadd, 14, 0, 0), (14, .invokevirtual 53, 17, 0, 0), (17, .aload_n 2, 18, 0, 0), (18, .iload_n 3, 19, 0, 0), (19, .invokevirtual 53, 22, 0, 0), (22, .if_icmp .eq (5), 25, 27, 0), (25, .iconst (0), 26, 0, 0), (26, .ireturn, 27, 0, 0), (27, .iinc 3 (1), 30, 0, 1), (30, .goto (-28), 33, 2, 0), (33, .iconst (1), 34, 0, 1), (34, .ireturn, 35, 0, 0)]
theorem k_Sig_hasAt_ok : k_Sig_hasAt.all (jok1 prog_5_method_19_code) = true := by decide +kernel
abbrev y_Sig_hasAt : MethodName := ⟨"Manydoors$Signs", "hasAt", "(ILManydoors$Signs;)Z"⟩
theorem Y_Sig_hasAt : jYok y_Sig_hasAt prog_5_method_19_code 4 (some .boolean) 2 := ⟨(jg_in (List.mem_of_getElem? (i := 857) (by decide +kernel)) rfl), (jg_in (List.mem_of_getElem? (i := 41) (by decide +kernel)) rfl), by decide +kernel, by decide⟩
def cp_Sig_hasAt (sz0 : Nat) : List (Nat × Nat × jTr) := [(0, 21, jget 4 1), (3, 53, jcalv 2 0 0 4 (S_Sig_signOf sz0))]
theorem cp_Sig_hasAt_ok {l : Launch} (hnt : l.stackTraces = false) (sz0 : Nat) : ∀ q ∈ cp_Sig_hasAt sz0, jSnd sz0 l "Manydoors$Signs" "hasAt" 1 (jin q.1 q.2.1) (jlen (jin q.1 q.2.1)) q.2.2 := List.forall_mem_cons.mpr ⟨jget_snd (idx := 21) jc_Sig (k := 1) (by decide) (jg_in (List.mem_of_getElem? (i := 82) (by decide +kernel)) rfl), List.forall_mem_cons.mpr ⟨jcalv_snd (idx := 53) (r := (R_Sig, F_Sig, 2)) (c_Sig_signOf hnt sz0) Y_Sig_signOf rfl rfl (jg_in (List.mem_of_getElem? (i := 332) (by decide +kernel)) rfl) (jg_in (List.mem_of_getElem? (i := 333) (by decide +kernel)) rfl) (by omega) (jg_in (List.mem_of_getElem? (i := 331) (by decide +kernel)) rfl), fun _ h => absurd h List.not_mem_nil⟩⟩
set_option maxRecDepth 20000 in
set_option maxHeartbeats 4000000 in
theorem c_Sig_hasAt {l : Launch} (hnt : l.stackTraces = false) (sz0 : Nat) : jCon sz0 l y_Sig_hasAt prog_5_method_19_code 4 (some .boolean) 1 0 0 (S_Sig_hasAt sz0) := by
  refine jmet (own := "Manydoors$Signs") (nm := "hasAt") k_Sig_hasAt (cp_Sig_hasAt sz0) [] 50 (plainFor_of_name (by decide)) rfl rfl hnt k_Sig_hasAt_ok (cp_Sig_hasAt_ok hnt sz0) (fun _ h => absurd h List.not_mem_nil) ?_
  intro av M sz P X h hz hfr
  unfold S_Sig_hasAt at h
  split at h
  · rename_i o a p
    obtain ⟨xs, ys, rm, rn, hg, hg2, ⟨ha, hal⟩, hp1, hp0⟩ := h
    have hg0 := hg.len
    have hg20 := hg2.len
    obtain ⟨g, h1, h2, h3, h4⟩ := id hg
    obtain ⟨g2, k1, k2, k3, k4⟩ := id hg2
    refine ⟨rfl, [(2, fun k lv st M1 sz1 kc ks => ∃ i : Nat, (i ≤ ys.length ∧ k = ys.length - i ∧ lv = [(0, vR o), (1, vI a), (2, vR p), (3, vI (i : Int))] ∧ st = [] ∧ sz1 = sz ∧ M1 = M) ∧ ∀ j : Nat, j < i → xs.getD (a.toNat + j) 0 = ys.getD j 0)], ?_, fun pc a hpa => ?_⟩
    · conv => whnf
      exact ⟨_, 0, ⟨Nat.zero_le _, rfl, rfl, rfl, rfl, rfl⟩, fun j hj => absurd hj (Nat.not_lt_zero j)⟩
    · cases List.mem_singleton.mp hpa
      rintro k lv st M1 sz1 kc ks ⟨i, ⟨hi, rfl, rfl, rfl, rfl, rfl⟩, hall⟩
      conv => whnf
      refine ⟨_, _, k1, rfl, ?_⟩
      conv => whnf
      refine ⟨⟨jrn (by omega), jrn (by omega)⟩, fun c1 => ?_, fun c1 => ?_⟩
      · conv => whnf
        exact ⟨Or.inr rfl, hp1 ⟨by omega, fun j hj => hall j (by omega)⟩⟩
      · have d2 : i < ys.length := by omega
        have d1 : a.toNat + i < xs.length := by omega
        have e1 : a + (i : Int) = ((a.toNat + i : Nat) : Int) := by omega
        conv => whnf
        refine ⟨hg.cls, Nat.zero_le _, Nat.zero_le _, xs, rm, hg, ⟨by omega, by omega⟩, ?_⟩
        conv => whnf
        refine ⟨hg2.cls, Nat.zero_le _, Nat.zero_le _, ys, rn, hg2, jrn (by omega), ?_⟩
        rw [e1, sgA_in d1, sgA_in d2]
        have j1 : jr xs[a.toNat + i] := by have := h4.2 _ (List.getElem_mem d1); exact ⟨by omega, by omega⟩
        have j2 : jr ys[i] := by have := k4.2 _ (List.getElem_mem d2); exact ⟨by omega, by omega⟩
        have f1 : xs.getD (a.toNat + i) 0 = xs[a.toNat + i] := by rw [List.getD_eq_getElem?_getD, List.getElem?_eq_getElem d1]; rfl
        have f2 : ys.getD i 0 = ys[i] := by rw [List.getD_eq_getElem?_getD, List.getElem?_eq_getElem d2]; rfl
        conv => whnf
        refine ⟨⟨j1, j2⟩, fun c2 => ?_, fun c2 => ?_⟩
        · conv => whnf
          refine ⟨_, by omega, i + 1, ⟨by omega, rfl, rfl, rfl, rfl, rfl⟩, fun j hj => ?_⟩
          by_cases hji : j = i
          · rw [hji, f1, f2]; exact c2
          · exact hall j (by omega)
        · conv => whnf
          exact ⟨Or.inl rfl, hp0 (fun hh => c2 (by rw [← f1, ← f2]; exact hh.2 i d2))⟩
  · exact h.elim
/-- the first place, the last place of a list in another; -1: none -/
def isfst (xs ys : List Int) (r : Int) : Prop := (r = -1 ∧ ∀ p : Nat, ¬ isat xs ys p) ∨ ∃ p : Nat, r = (p : Int) ∧ isat xs ys p ∧ ∀ q : Nat, q < p → ¬ isat xs ys q
def islst (xs ys : List Int) (r : Int) : Prop := (r = -1 ∧ ∀ p : Nat, ¬ isat xs ys p) ∨ ∃ p : Nat, r = (p : Int) ∧ isat xs ys p ∧ ∀ q : Nat, p < q → ¬ isat xs ys q
def S_Sig_firstPlaceOf (_ : Nat) : jS := fun av M sz P _ => match av with
  | [.inr (.inr (some o)), .inr (.inr (some p))] => ∃ (xs ys : List Int) (rm rn : Nat), sg M o xs rm ∧ sg M p ys rn ∧ ∀ r : Int, isfst xs ys r → P (some (vI r)) M sz
  | _ => False
def k_Sig_firstPlaceOf : List (Nat × jI5) := [(0, .iconst (0), 1, 0, 0), (1, .istore_n 2, 2, 0, 0), (2, .iload_n 2, 3, 0, 0), (3, .aload_n 0, 4, 0, 0), (4, .getfield 21, 7, 0, 0), (7, .aload_n 1, 8, 0, 0), (8, .getfield 21, 11, 0, 0), (11, .isub, 12, 0, 0), (12, .if_icmp .gt (20), 15, 32, 0), (15, .aload_n 0, 16, 0, 0), (16, .iload_n 2, 17, 0, 0), (17, .aload_n 1, 18, 0, 0), (18, .invokevirtual 57, 21, 0, 0), (21, .ifCond .eq (5), 24, 26, 0), (24, .iload_n 2, 25, 0, 0), (25, .ireturn, 26, 0, 0), (26, .iinc 2 (1), 29, 0, 1), (29, .goto (-27), 32, 2, 0), (32, .iconst (-1), 33, 0, (-1)), (33, .ireturn, 34, 0, 0)]
theorem k_Sig_firstPlaceOf_ok : k_Sig_firstPlaceOf.all (jok1 prog_5_method_17_code) = true := by decide +kernel
abbrev y_Sig_firstPlaceOf : MethodName := ⟨"Manydoors$Signs", "firstPlaceOf", "(LManydoors$Signs;)I"⟩
theorem Y_Sig_firstPlaceOf : jYok y_Sig_firstPlaceOf prog_5_method_17_code 3 (some .int) 1 := ⟨(jg_in (List.mem_of_getElem? (i := 861) (by decide +kernel)) rfl), (jg_in (List.mem_of_getElem? (i := 41) (by decide +kernel)) rfl), by decide +kernel, by decide⟩
def cp_Sig_firstPlaceOf (sz0 : Nat) : List (Nat × Nat × jTr) := [(0, 21, jget 4 1), (3, 57, jcalv 3 0 0 4 (S_Sig_hasAt sz0))]
theorem cp_Sig_firstPlaceOf_ok {l : Launch} (hnt : l.stackTraces = false) (sz0 : Nat) : ∀ q ∈ cp_Sig_firstPlaceOf sz0, jSnd sz0 l "Manydoors$Signs" "firstPlaceOf" 2 (jin q.1 q.2.1) (jlen (jin q.1 q.2.1)) q.2.2 := List.forall_mem_cons.mpr ⟨jget_snd (idx := 21) jc_Sig (k := 1) (by decide) (jg_in (List.mem_of_getElem? (i := 82) (by decide +kernel)) rfl), List.forall_mem_cons.mpr ⟨jcalv_snd (idx := 57) (r := (R_Sig, F_Sig, 2)) (c_Sig_hasAt hnt sz0) Y_Sig_hasAt rfl rfl (jg_in (List.mem_of_getElem? (i := 856) (by decide +kernel)) rfl) (jg_in (List.mem_of_getElem? (i := 21) (by decide +kernel)) rfl) (by omega) (jg_in (List.mem_of_getElem? (i := 854) (by decide +kernel)) rfl), fun _ h => absurd h List.not_mem_nil⟩⟩
set_option maxRecDepth 20000 in
set_option maxHeartbeats 4000000 in
theorem c_Sig_firstPlaceOf {l : Launch} (hnt : l.stackTraces = false) (sz0 : Nat) : jCon sz0 l y_Sig_firstPlaceOf prog_5_method_17_code 3 (some .int) 2 0 0 (S_Sig_firstPlaceOf sz0) := by
  refine jmet (own := "Manydoors$Signs") (nm := "firstPlaceOf") k_Sig_firstPlaceOf (cp_Sig_firstPlaceOf sz0) [] 50 (plainFor_of_name (by decide)) rfl rfl hnt k_Sig_firstPlaceOf_ok (cp_Sig_firstPlaceOf_ok hnt sz0) (fun _ h => absurd h List.not_mem_nil) ?_
  intro av M sz P X h hz hfr
  unfold S_Sig_firstPlaceOf at h
  split at h
  · rename_i o p
    obtain ⟨xs, ys, rm, rn, hg, hg2, h⟩ := h
    have hg0 := hg.len
    have hg20 := hg2.len
    obtain ⟨g, h1, h2, h3, h4⟩ := id hg
    obtain ⟨g2, k1, k2, k3, k4⟩ := id hg2
    refine ⟨rfl, [(2, fun k lv st M1 sz1 kc ks => ∃ i : Nat, (i ≤ xs.length + 1 ∧ k = xs.length + 1 - i ∧ lv = [(0, vR o), (1, vR p), (2, vI (i : Int))] ∧ st = [] ∧ sz1 = sz ∧ M1 = M) ∧ ∀ j : Nat, j < i → ¬ isat xs ys j)], ?_, fun pc a hpa => ?_⟩
    · conv => whnf
      exact ⟨_, 0, ⟨Nat.zero_le _, rfl, rfl, rfl, rfl, rfl⟩, fun j hj => absurd hj (Nat.not_lt_zero j)⟩
    · cases List.mem_singleton.mp hpa
      rintro k lv st M1 sz1 kc ks ⟨i, ⟨hi, rfl, rfl, rfl, rfl, rfl⟩, hall⟩
      conv => whnf
      refine ⟨_, _, h1, rfl, ?_⟩
      conv => whnf
      refine ⟨_, _, k1, rfl, ?_⟩
      conv => whnf
      refine ⟨⟨jrn (by omega), ⟨by omega, by omega⟩⟩, fun c1 => ?_, fun c1 => ?_⟩
      · conv => whnf
        refine ⟨trivial, h _ (Or.inl ⟨rfl, fun j hj => ?_⟩)⟩
        by_cases c : j < i
        · exact hall j c hj
        · have := hj.1; omega
      · conv => whnf
        refine ⟨hg.cls, Nat.zero_le _, Nat.zero_le _, xs, ys, rm, rn, hg, hg2, ⟨by omega, by omega⟩, fun c2 => ?_, fun c2 => ?_⟩
        · conv => whnf
          refine ⟨⟨by omega, by omega⟩, fun c3 => by omega, fun c3 => ?_⟩
          conv => whnf
          exact ⟨trivial, h _ (Or.inr ⟨i, rfl, c2, hall⟩)⟩
        · conv => whnf
          refine ⟨jr0, fun c3 => ?_, fun c3 => absurd rfl c3⟩
          conv => whnf
          refine ⟨_, by omega, i + 1, ⟨by omega, rfl, rfl, rfl, rfl, rfl⟩, fun j hj => ?_⟩
          by_cases hji : j = i
          · rw [hji]; exact c2
          · exact hall j (by omega)
  · exact h.elim
def S_Sig_lastPlaceOf (_ : Nat) : jS := fun av M sz P _ => match av with
  | [.inr (.inr (some o)), .inr (.inr (some p))] => ∃ (xs ys : List Int) (rm rn : Nat), sg M o xs rm ∧ sg M p ys rn ∧ ∀ r : Int, islst xs ys r → P (some (vI r)) M sz
  | _ => False
def k_Sig_lastPlaceOf : List (Nat × jI5) := [(0, .aload_n 0, 1, 0, 0), (1, .getfield 21, 4, 0, 0), (4, .aload_n 1, 5, 0, 0), (5, .getfield 21, 8, 0, 0), (8, .isub, 9, 0, 0), (9, .istore_n 2, 10, 0, 0), (10, .iload_n 2, 11, 0, 0), (11, .ifCond .lt (20), 14, 31, 0), (14, .aload_n 0, 15, 0, 0), (15, .iload_n 2, 16, 0, 0), (16, .aload_n 1, 17, 0, 0), (17, .invokevirtual 57, 20, 0, 0), (20, .ifCond .eq (5), 23, 25, 0), (23, .iload_n 2, 24, 0, 0), (24, .ireturn, 25, 0, 0), (25, .iinc 2 (-1), 28, 0, (-1)), (28, .goto (-18), 31, 10, 0), (31, .iconst (-1), 32, 0, (-1)), (32, .ireturn, 33, 0, 0)]
theorem k_Sig_lastPlaceOf_ok : k_Sig_lastPlaceOf.all (jok1 prog_5_method_18_code) = true := by decide +kernel
abbrev y_Sig_lastPlaceOf : MethodName := ⟨"Manydoors$Signs", "lastPlaceOf", "(LManydoors$Signs;)I"⟩
theorem Y_Sig_lastPlaceOf : jYok y_Sig_lastPlaceOf prog_5_method_18_code 3 (some .int) 1 := ⟨(jg_in (List.mem_of_getElem? (i := 853) (by decide +kernel)) rfl), (jg_in (List.mem_of_getElem? (i := 41) (by decide +kernel)) rfl), by decide +kernel, by decide⟩
def cp_Sig_lastPlaceOf (sz0 : Nat) : List (Nat × Nat × jTr) := [(0, 21, jget 4 1), (3, 57, jcalv 3 0 0 4 (S_Sig_hasAt sz0))]
theorem cp_Sig_lastPlaceOf_ok {l : Launch} (hnt : l.stackTraces = false) (sz0 : Nat) : ∀ q ∈ cp_Sig_lastPlaceOf sz0, jSnd sz0 l "Manydoors$Signs" "lastPlaceOf" 2 (jin q.1 q.2.1) (jlen (jin q.1 q.2.1)) q.2.2 := List.forall_mem_cons.mpr ⟨jget_snd (idx := 21) jc_Sig (k := 1) (by decide) (jg_in (List.mem_of_getElem? (i := 82) (by decide +kernel)) rfl), List.forall_mem_cons.mpr ⟨jcalv_snd (idx := 57) (r := (R_Sig, F_Sig, 2)) (c_Sig_hasAt hnt sz0) Y_Sig_hasAt rfl rfl (jg_in (List.mem_of_getElem? (i := 856) (by decide +kernel)) rfl) (jg_in (List.mem_of_getElem? (i := 21) (by decide +kernel)) rfl) (by omega) (jg_in (List.mem_of_getElem? (i := 854) (by decide +kernel)) rfl), fun _ h => absurd h List.not_mem_nil⟩⟩
set_option maxRecDepth 20000 in
set_option maxHeartbeats 4000000 in
theorem c_Sig_lastPlaceOf {l : Launch} (hnt : l.stackTraces = false) (sz0 : Nat) : jCon sz0 l y_Sig_lastPlaceOf prog_5_method_18_code 3 (some .int) 2 0 0 (S_Sig_lastPlaceOf sz0) := by
  refine jmet (own := "Manydoors$Signs") (nm := "lastPlaceOf") k_Sig_lastPlaceOf (cp_Sig_lastPlaceOf sz0) [] 50 (plainFor_of_name (by decide)) rfl rfl hnt k_Sig_lastPlaceOf_ok (cp_Sig_lastPlaceOf_ok hnt sz0) (fun _ h => absurd h List.not_mem_nil) ?_
  intro av M sz P X h hz hfr
  unfold S_Sig_lastPlaceOf at h
  split at h
  · rename_i o p
    obtain ⟨xs, ys, rm, rn, hg, hg2, h⟩ := h
    have hg0 := hg.len
    have hg20 := hg2.len
    obtain ⟨g, h1, h2, h3, h4⟩ := id hg
    obtain ⟨g2, k1, k2, k3, k4⟩ := id hg2
    refine ⟨rfl, [(10, fun k lv st M1 sz1 kc ks => ∃ i : Int, (-1 - (ys.length : Int) ≤ i ∧ i ≤ (xs.length : Int) - (ys.length : Int) ∧ k = (i + 1 + (ys.length : Int)).toNat ∧ lv = [(0, vR o), (1, vR p), (2, vI i)] ∧ st = [] ∧ sz1 = sz ∧ M1 = M) ∧ ∀ j : Nat, i < (j : Int) → ¬ isat xs ys j)], ?_, fun pc a hpa => ?_⟩
    · conv => whnf
      refine ⟨_, _, h1, rfl, ?_⟩
      conv => whnf
      refine ⟨_, _, k1, rfl, ?_⟩
      conv => whnf
      exact ⟨_, _, ⟨by omega, by omega, rfl, rfl, rfl, rfl, rfl⟩, fun j hj hh => by have := hh.1; omega⟩
    · cases List.mem_singleton.mp hpa
      rintro k lv st M1 sz1 kc ks ⟨i, ⟨hi, hi2, rfl, rfl, rfl, rfl, rfl⟩, hall⟩
      conv => whnf
      refine ⟨⟨by omega, by omega⟩, fun c1 => ?_, fun c1 => ?_⟩
      · conv => whnf
        exact ⟨trivial, h _ (Or.inl ⟨rfl, fun j => hall j (by omega)⟩)⟩
      · conv => whnf
        refine ⟨hg.cls, Nat.zero_le _, Nat.zero_le _, xs, ys, rm, rn, hg, hg2, ⟨by omega, by omega⟩, fun c2 => ?_, fun c2 => ?_⟩
        · conv => whnf
          refine ⟨⟨by omega, by omega⟩, fun c3 => by omega, fun c3 => ?_⟩
          conv => whnf
          exact ⟨trivial, h _ (Or.inr ⟨i.toNat, by omega, c2, fun q hq => hall q (by omega)⟩)⟩
        · conv => whnf
          refine ⟨jr0, fun c3 => ?_, fun c3 => absurd rfl c3⟩
          conv => whnf
          refine ⟨_, ?_, i + -1, ⟨by omega, by omega, rfl, rfl, rfl, rfl, rfl⟩, fun j hj => ?_⟩
          · omega
          · by_cases hji : (j : Int) = i
            · rw [show j = i.toNat by omega]; exact c2
            · exact hall j (by omega)
  · exact h.elim

