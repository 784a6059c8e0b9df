/-! What names a field, a class, an array: each as a demand of the world. -/
def jget (ci k : Nat) : jTr := fun st M sz kc ks K _ => match st with
  | .inr (.inr (some a)) :: r => ∃ (fs : List jV) (v : jV), M a = some (.inl (ci, fs)) ∧ fs[k]? = some v ∧ K (v :: r) M sz kc ks
  | _ => False
def jfit : FieldType → jV → Bool
  | .int, .inl _ => true
  | .long, .inr (.inl _) => true
  | .object _, .inr (.inr _) => true
  | .array _, .inr (.inr _) => true
  | _, _ => false
theorem jfit_ok {ty : FieldType} {v : jV} (h : jfit ty v = true) : narrow ty (jv v) = jv v ∧ fits ty (jv v) = true := by
  cases ty <;> rcases v with z | z | _ | a <;> first | (simp [jfit] at h; done) | exact ⟨rfl, rfl⟩
def jputf (sz0 ci k : Nat) (ty : FieldType) : jTr := fun st M sz kc ks K _ => match st with
  | v :: .inr (.inr (some a)) :: r => match jfit ty v with
    | true => sz0 ≤ a ∧ ∃ fs : List jV, M a = some (.inl (ci, fs)) ∧ ∀ M' : jM, M' = jup M a (.inl (ci, fs.set k v)) → K r M' sz kc ks
    | false => False
  | _ => False
def jnew (ci N : Nat) (fs : List jV) : jTr := fun st M sz kc ks K _ => 1 ≤ kc ∧ N ≤ ks ∧ ∀ M' : jM, M sz = none → M' = jup M sz (.inl (ci, fs)) → K (vR sz :: st) M' (sz + 1) (kc - 1) (ks - N)
def jnewa (ty : FieldType) : jTr := fun st M sz kc ks K _ => match st with
  | .inl n :: r => 0 ≤ n ∧ n ≤ 100000000 ∧ 1 ≤ kc ∧ n.toNat ≤ ks ∧ ∀ M' : jM, M sz = none → M' = jup M sz (.inr (.inl (ty, List.replicate n.toNat 0))) → K (vR sz :: r) M' (sz + 1) (kc - 1) (ks - n.toNat)
  | _ => False
def jnewq (ty : FieldType) : jTr := fun st M sz kc ks K _ => match st with
  | .inl n :: r => 0 ≤ n ∧ n ≤ 100000000 ∧ 1 ≤ kc ∧ n.toNat ≤ ks ∧ ∀ M' : jM, M sz = none → M' = jup M sz (.inr (.inr (ty, List.replicate n.toNat none))) → K (vR sz :: r) M' (sz + 1) (kc - 1) (ks - n.toNat)
  | _ => False
def jiast (sz0 : Nat) : jTr := fun st M sz kc ks K _ => match st with
  | .inl v :: .inl j :: .inr (.inr (some a)) :: r => ∃ xs : List Int, M a = some (.inr (.inl (.int, xs))) ∧ sz0 ≤ a ∧ (0 ≤ j ∧ j < (xs.length : Int) ∧ xs.length < 2 ^ 31) ∧ jr v ∧ ∀ M' : jM, M' = jup M a (.inr (.inl (.int, xs.set j.toNat v))) → K r M' sz kc ks
  | _ => False
def jcast (sz0 : Nat) : jTr := fun st M sz kc ks K _ => match st with
  | .inl v :: .inl j :: .inr (.inr (some a)) :: r => ∃ xs : List Int, M a = some (.inr (.inl (.char, xs))) ∧ sz0 ≤ a ∧ (0 ≤ j ∧ j < (xs.length : Int) ∧ xs.length < 2 ^ 31) ∧ (0 ≤ v ∧ v < 65536) ∧ ∀ M' : jM, M' = jup M a (.inr (.inl (.char, xs.set j.toNat v))) → K r M' sz kc ks
  | _ => False
def jldc2 (v : Int) : jTr := fun st M sz kc ks K _ => K (vL v :: st) M sz kc ks
def jldcs : jTr := fun st M sz kc ks K _ => ∀ q : Nat, K (vR q :: st) M sz kc ks
/-- a class of the table: its words are taken along -/
def jcOk (ci : Nat) (r : vw_C) (ty : Nat → FieldType) : Prop := jcl[ci]? = some r ∧ (∀ w ∈ u_ws r.1 r.2.1 r.2.2, w ∈ jg) ∧ (∀ k, k < r.2.2 → parseFieldDescriptor (r.2.1 k).2.2.1 = some (ty k)) ∧ (∀ a, a < r.2.2 → ∀ b, b < r.2.2 → a ≠ b → (r.2.1 a).2.1 ≠ (r.2.1 b).2.1) ∧ (∀ k, k < r.2.2 → (r.2.1 k).1 = r.1)
section J8
variable {l : Launch} {sz0 : Nat} {own nm : String} {dep : Nat}
theorem jG1 {s : State} {q ci : Nat} {fs : List jV} {H : Heap} {r : vw_C} (h : jat s q (.inl (ci, fs)) H) (hr : jcl[ci]? = some r) : ∃ (cC : ClassId) (iS : Nat → Nat), u_Kn s r.1 r.2.1 r.2.2 cC iS ∧ t_OB q cC r.2.2 iS H (vp_V (fs.map jv)) ∧ fs.length = r.2.2 := by
  obtain ⟨r', cC, iS, h1, h2, h3, h4⟩ := h
  cases Option.some.inj (h1.symm.trans hr)
  exact ⟨cC, iS, h2, h3, h4⟩
theorem jK1 {s : State} {r : vw_C} {cC : ClassId} {iS : Nat → Nat} (h : u_Kn s r.1 r.2.1 r.2.2 cC iS) : va_K (fun _ => cC, fun _ => iS) [r] [] s := by
  refine ⟨fun c9 q hq => ?_, fun k9 q hq => by cases hq⟩
  cases c9 with
  | zero => cases hq; exact h
  | succ n => cases hq
theorem jP1 {r : vw_C} {cC : ClassId} {iS : Nat → Nat} {a : Nat} {fs : List Value} {H : Heap} (h : t_OB a cC r.2.2 iS H (vp_V fs)) : va_P (fun _ => cC, fun _ => iS) [r] [(a, .inr (0, fs))] H := by
  intro k9 q hq
  cases k9 with
  | zero => cases hq; exact ⟨r, rfl, h⟩
  | succ n => cases hq
theorem jget_snd {ci k idx : Nat} {r : vw_C} {ty : Nat → FieldType} (hc : jcOk ci r ty) (hk : k < r.2.2) (hlink : Cond.fieldLink own idx r.1 (r.2.1 k).2.1 (r.2.1 k).2.2.1 ∈ jg) : jSnd sz0 l own nm dep (.getfield idx) 3 (jget ci k) := by
  intro p e R s m args below meth c H locs cells slots Q cc nL pc ls ret st M sz kc ks K X hC hd hls hH h kK kX
  obtain ⟨hx, hb, hml, hown, hts, hlocks, hI, hsz0, hnt, hnm, hRf, hRl, hret⟩ := hC
  obtain ⟨hr, hin, hty, hnmd, hdecl⟩ := hc
  unfold jget at h
  split at h
  · rename_i a rr
    obtain ⟨fs, v, h1, h2, h⟩ := h
    obtain ⟨cC, iS, g1, g2, g3⟩ := jG1 (hH.1 _ _ h1) hr
    exact va_get (D := (fun _ => cC, fun _ => iS)) (cl := [r]) (tys := []) (ws := [(a, .inr (0, fs.map jv))]) (ci := 0) (v := jv v) (C := r.1) (T := r.2.1) (N := r.2.2) hx hb hts hin hown (jK1 g1) (jP1 g2) 0 rfl rfl k hk (hts _ hlink) (fun x h9 => by rw [hdecl k hk] at h9; exact h9) (by rw [List.getElem?_map, h2]; rfl) hd (kK _ _ _ _ _ _ _ _ _ h hH)
  · exact h.elim
theorem jgetN_snd {ci k idx : Nat} {r : vw_C} {ty : Nat → FieldType} {host : String} (hc : jcOk ci r ty) (hk : k < r.2.2) (hlink : Cond.fieldLinkNest own idx r.1 (r.2.1 k).2.1 (r.2.1 k).2.2.1 host ∈ lw_tbl) : jSnd sz0 l own nm dep (.getfield idx) 3 (jget ci k) := by
  intro p e R s m args below meth c H locs cells slots Q cc nL pc ls ret st M sz kc ks K X hC hd hls hH h kK kX
  obtain ⟨hx, hb, hml, hown, hts, hlocks, hI, hsz0, hnt, hnm, hRf, hRl, hret⟩ := hC
  obtain ⟨hr, hin, hty, hnmd, hdecl⟩ := hc
  unfold jget at h
  split at h
  · rename_i a rr
    obtain ⟨fs, v, h1, h2, h⟩ := h
    obtain ⟨cC, iS, g1, g2, g3⟩ := jG1 (hH.1 _ _ h1) hr
    exact va_getN (D := (fun _ => cC, fun _ => iS)) (cl := [r]) (tys := []) (ws := [(a, .inr (0, fs.map jv))]) (ci := 0) (v := jv v) (C := r.1) (T := r.2.1) (N := r.2.2) hx hb hts hin hown (jK1 g1) (jP1 g2) 0 rfl rfl k hk (va_Nw.use rfl (hI.1 _ hlink rfl)) (fun x h9 => by rw [hdecl k hk] at h9; exact h9) (by rw [List.getElem?_map, h2]; rfl) hd (kK _ _ _ _ _ _ _ _ _ h hH)
  · exact h.elim
theorem jap {s : State} {args : Array Value} {r : vw_C} {ci : Nat} {ty : Nat → FieldType} (hts : ∀ w ∈ jg, w.before args s = true) (hc : jcOk ci r ty) {cC : ClassId} {iS : Nat → Nat} (hK : u_Kn s r.1 r.2.1 r.2.2 cC iS) : ∀ x y, x < r.2.2 → y < r.2.2 → x ≠ y → iS x ≠ iS y := by
  obtain ⟨hr, hin, hty, hnmd, hdecl⟩ := hc
  exact va_apart (own := "") (D := (fun _ => cC, fun _ => iS)) (cl := [r]) (tys := []) (ci := 0) (C := r.1) (T := r.2.1) (N := r.2.2) hts hin ty hty hnmd (jK1 hK) rfl
theorem jH.put {s : State} {R : Room} {H H1 : Heap} {locs : List Loc} {cells slots : Nat} {M : jM} {sz kc ks a i : Nat} {e : jE} (hH : jH sz0 s R H locs cells slots M sz kc ks) (ha : sz0 ≤ a) (e1 : jat s a e H1) (e2 : H1.size = H.size) (e3 : ∀ q : Nat, q ≠ a → H1[q]? = H[q]?) : jH sz0 s R H1 (locs ++ [⟨a, i⟩]) cells slots (jup M a e) sz kc ks :=
  ⟨hH.1.put e1 e3, e2.trans hH.2.1, hH.2.2.1.put e2 e3 ha, hH.2.2.2⟩
theorem jH.push {s : State} {R : Room} {H H1 : Heap} {locs : List Loc} {cells slots : Nat} {M : jM} {sz kc ks n : Nat} {e : jE} (hH : jH sz0 s R H locs cells slots M sz kc ks) (hk : 1 ≤ kc) (hn : n ≤ ks) (e1 : jat s H.size e H1) (e2 : H1.size = H.size + 1) (e3 : ∀ q : Nat, q < H.size → H1[q]? = H[q]?) : jH sz0 s R H1 locs (cells + 1) (slots + n) (jup M sz e) (sz + 1) (kc - 1) (ks - n) := by
  obtain ⟨h1, h2, h3, h4, h5⟩ := hH
  refine ⟨?_, by omega, ⟨by have := h3.1; omega, fun q g1 g2 => ?_, h3.2.2⟩, by omega, by omega⟩
  · rw [← h2]
    exact h1.push e1 e3
  · rw [e3 q (Nat.lt_of_lt_of_le g1 h3.1)]
    exact h3.2.1 q g1 g2
theorem jobj_set {r : vw_C} {s : State} {args : Array Value} {ci k a : Nat} {ty : Nat → FieldType} (hts : ∀ w ∈ jg, w.before args s = true) (hc : jcOk ci r ty) {cC : ClassId} {iS : Nat → Nat} (hK : u_Kn s r.1 r.2.1 r.2.2 cC iS) (hk : k < r.2.2) {fs : List jV} {v : jV} {cell : Cell} {H1 : Heap} (hl : fs.length = r.2.2) (e1 : H1[a]? = some (cell.setSlot (iS k) (jv v))) (q2 : cell.cls = cC) (q3 : cell.vm = .none) (q4 : ∀ j, j < r.2.2 → cell.slots[iS j]? = some (vp_V (fs.map jv) j)) : jat s a (.inl (ci, fs.set k v)) H1 := by
  refine ⟨r, cC, iS, hc.1, hK, ?_, by rw [List.length_set]; exact hl⟩
  rw [List.map_set]
  exact t_OB.to (V := updV (vp_V (fs.map jv)) k (jv v)) ⟨_, e1, q2, q3, t_set q4 (jap hts hc hK) hk (jv v)⟩ (fun j _ => vp_updV_set (by rw [List.length_map]; omega) (jv v) j)
theorem jputf_snd {ci k idx : Nat} {r : vw_C} {ty : Nat → FieldType} (hc : jcOk ci r ty) (hk : k < r.2.2) (hlink : Cond.fieldLink own idx r.1 (r.2.1 k).2.1 (r.2.1 k).2.2.1 ∈ jg) (hfin : (r.2.1 k).2.2.2 = false) : jSnd sz0 l own nm dep (.putfield idx) 3 (jputf sz0 ci k (ty k)) := by
  intro p e R s m args below meth c H locs cells slots Q cc nL pc ls ret st M sz kc ks K X hC hd hls hH h kK kX
  obtain ⟨hx, hb, hml, hown, hts, hlocks, hI, hsz0, hnt, hnm, hRf, hRl, hret⟩ := hC
  have hc0 := hc
  obtain ⟨hr, hin, hty, hnmd, hdecl⟩ := hc
  unfold jputf at h
  split at h
  · rename_i v a rr
    split at h
    · rename_i hfit
      obtain ⟨ha, fs, h1, h⟩ := h
      obtain ⟨cC, iS, g1, ⟨cell, q1, q2, q3, q4⟩, g3⟩ := jG1 (hH.1 _ _ h1) hr
      obtain ⟨hS, hfc, kC, hkC, hkind⟩ := id g1
      obtain ⟨cf, kf, fi, f, hi, hsl⟩ := hS k hk
      have hlay := hts _ (hin _ (u_in_lay hk))
      unfold u_lay at hlay
      rw [if_neg (by rw [hfin]; decide)] at hlay
      have hst := (u_facts hfc hkC (u_lays hts hin hk) hi).1
      have h6 := u_store hfc hkC hkind hlay hi (hty k hk) (jfit_ok hfit).1 (jfit_ok hfit).2
      refine W.putK (v := jv v) (f := f) hx hb ⟨hown, hts _ hlink, ⟨_, _, _, by rw [hdecl k hk] at hi; exact hi⟩, hst⟩ (by rw [q2]; exact h6) q1 q3 (by rw [hsl]; exact k2_hasslot (q4 k hk)) rfl rfl hd fun H' e1 e2 e3 => ?_
      rw [hsl] at e1 ⊢
      exact kK _ _ _ _ _ _ _ _ _ (h _ rfl) (hH.put ha (jobj_set hts hc0 g1 hk g3 e1 q2 q3 q4) e2 e3)
    · exact h.elim
  · exact h.elim
theorem jputF_snd {ci k idx : Nat} {r : vw_C} {ty : Nat → FieldType} (hc : jcOk ci r ty) (hk : k < r.2.2) (hlink : Cond.fieldLink own idx r.1 (r.2.1 k).2.1 (r.2.1 k).2.2.1 ∈ jg) (hfin : (r.2.1 k).2.2.2 = true) (hown2 : r.1 = own) : jSnd sz0 l own "<init>" dep (.putfield idx) 3 (jputf sz0 ci k (ty k)) := by
  intro p e R s m args below meth c H locs cells slots Q cc nL pc ls ret st M sz kc ks K X hC hd hls hH h kK kX
  obtain ⟨hx, hb, hml, hown, hts, hlocks, hI, hsz0, hnt, hnm, hRf, hRl, hret⟩ := hC
  have hc0 := hc
  obtain ⟨hr, hin, hty, hnmd, hdecl⟩ := hc
  unfold jputf at h
  split at h
  · rename_i v a rr
    split at h
    · rename_i hfit
      obtain ⟨ha, fs, h1, h⟩ := h
      obtain ⟨cC, iS, g1, ⟨cell, q1, q2, q3, q4⟩, g3⟩ := jG1 (hH.1 _ _ h1) hr
      obtain ⟨hS, hfc, kC, hkC, hkind⟩ := id g1
      obtain ⟨cf, kf, fi, f, hi, hsl⟩ := hS k hk
      have hlay := hts _ (hin _ (u_in_lay hk))
      unfold u_lay at hlay
      rw [if_pos hfin] at hlay
      have hst := (u_facts hfc hkC (u_lays hts hin hk) hi).1
      have hcf : m.cls = cf := by
        obtain ⟨_, _, c', _, _, _, -, -, hf', -, -, -, hown3, -⟩ := Cond.laysFinal_spec hlay
        have e1 : c' = cf := by have := hi.symm.trans hf'; simp at this; exact this.1.symm
        rw [hdecl k hk, hown2] at hown3
        rw [← e1]; exact Option.some.inj (hown.symm.trans hown3)
      have h6 := u_fits hfc hkC hkind (Or.inr hlay) hi (hty k hk) (jfit_ok hfit).1 (jfit_ok hfit).2
      refine W.putFinK (v := jv v) (f := f) hx hb hown (hts _ hlink) (by rw [hdecl k hk] at hi; exact hi) hst hcf hnm (by rw [q2]; exact h6) q1 q3 (by rw [hsl]; exact k2_hasslot (q4 k hk)) rfl rfl hd fun H' e1 e2 e3 => ?_
      rw [hsl] at e1 ⊢
      exact kK _ _ _ _ _ _ _ _ _ (h _ rfl) (hH.put ha (jobj_set hts hc0 g1 hk g3 e1 q2 q3 q4) e2 e3)
    · exact h.elim
  · exact h.elim
theorem jnew_snd {ci idx N : Nat} {r : vw_C} {ty : Nat → FieldType} {fs : List jV} (hc : jcOk ci r ty) (hN : r.2.2 = N) (hfs : fs.length = N ∧ ∀ j, j < N → defaultValue (ty j) = vp_V (fs.map jv) j) (hlink : Cond.classLink own idx r.1 ∈ jg) (hins : Cond.instantiable r.1 N ∈ jg) (hini : Cond.initialized r.1 ∈ jg) : jSnd sz0 l own nm dep (.new idx) 3 (jnew ci N fs) := by
  intro p e R s m args below meth c H locs cells slots Q cc nL pc ls ret st M sz kc ks K X hC hd hls hH h kK kX
  obtain ⟨hx, hb, hml, hown, hts, hlocks, hI, hsz0, hnt, hnm, hRf, hRl, hret⟩ := hC
  obtain ⟨hr, hin, hty, hnmd, hdecl⟩ := hc
  subst hN
  obtain ⟨h1, h2, h3⟩ := h
  obtain ⟨cC, iS, hK⟩ := u_known hts hin (hts _ hins)
  have h4 := hH.2.2.2.1
  have h5 := hH.2.2.2.2
  refine W.newcK hx hb hown (hts _ hlink) (hts _ hins) (hts _ hini) rfl hd (by omega) (by omega) hK.2.1 rfl fun H1 kC hkC e1 z1 o1 => ?_
  have h9 := kK _ _ _ _ _ _ _ _ _ (h3 _ (by rw [← hH.2.1]; exact hH.1.fresh) rfl) (hH.push (H1 := H1) (n := r.2.2) (e := .inl (ci, fs)) h1 h2 ⟨r, cC, iS, hr, hK, (u_born ty hts hin hK hkC e1 hty).to hfs.2, hfs.1⟩ z1 o1)
  rw [← hH.2.1] at h9
  exact h9
theorem jputN_snd {ci k idx : Nat} {r : vw_C} {ty : Nat → FieldType} {host : String} (hc : jcOk ci r ty) (hk : k < r.2.2) (hlink : Cond.fieldLinkNest own idx r.1 (r.2.1 k).2.1 (r.2.1 k).2.2.1 host ∈ lw_tbl) (hfin : (r.2.1 k).2.2.2 = false) : jSnd sz0 l own nm dep (.putfield idx) 3 (jputf sz0 ci k (ty k)) := by
  intro p e R s m args below meth c H locs cells slots Q cc nL pc ls ret st M sz kc ks K X hC hd hls hH h kK kX
  obtain ⟨hx, hb, hml, hown, hts, hlocks, hI, hsz0, hnt, hnm, hRf, hRl, hret⟩ := hC
  have hc0 := hc
  obtain ⟨hr, hin, hty, hnmd, hdecl⟩ := hc
  unfold jputf at h
  split at h
  · rename_i v a rr
    split at h
    · rename_i hfit
      obtain ⟨ha, fs, h1, h⟩ := h
      obtain ⟨cC, iS, g1, ⟨cell, q1, q2, q3, q4⟩, g3⟩ := jG1 (hH.1 _ _ h1) hr
      obtain ⟨hS, hfc, kC, hkC, hkind⟩ := id g1
      obtain ⟨cf, kf, fi, f, hi, hsl⟩ := hS k hk
      have hlay := hts _ (hin _ (u_in_lay hk))
      unfold u_lay at hlay
      rw [if_neg (by rw [hfin]; decide)] at hlay
      have hst := (u_facts hfc hkC (u_lays hts hin hk) hi).1
      have h6 := u_store hfc hkC hkind hlay hi (hty k hk) (jfit_ok hfit).1 (jfit_ok hfit).2
      refine va_WputK (v := jv v) (f := f) hx hb hown (va_Nw.use rfl (hI.1 _ hlink rfl)) (by rw [hdecl k hk] at hi; exact hi) hst (by rw [q2]; exact h6) q1 q3 (by rw [hsl]; exact k2_hasslot (q4 k hk)) rfl rfl hd fun H' e1 e2 e3 => ?_
      rw [hsl] at e1 ⊢
      exact kK _ _ _ _ _ _ _ _ _ (h _ rfl) (hH.put ha (jobj_set hts hc0 g1 hk g3 e1 q2 q3 q4) e2 e3)
    · exact h.elim
  · exact h.elim
theorem jrep {n j : Nat} : (List.replicate n (0 : Int)).getD j 0 = 0 := by
  rw [List.getD_eq_getElem?_getD, List.getElem?_replicate]
  split <;> rfl
theorem jrepq {n j : Nat} : (List.replicate n (none : Option Nat)).getD j none = none := by
  rw [List.getD_eq_getElem?_getD, List.getElem?_replicate]
  split <;> rfl
theorem jnewa_snd {at_ : ArrayType} {ty : FieldType} (hat : newarray.typeOf at_ = ty) (hsel : ty = .int ∨ ty = .char) (hw : Cond.arrayClass ty ∈ jg) : jSnd sz0 l own nm dep (.newarray at_) 2 (jnewa ty) := by
  intro p e R s m args below meth c H locs cells slots Q cc nL pc ls ret st M sz kc ks K X hC hd hls hH h kK kX
  obtain ⟨hx, hb, hml, hown, hts, hlocks, hI, hsz0, hnt, hnm, hRf, hRl, hret⟩ := hC
  subst hat
  unfold jnewa at h
  split at h
  · rename_i n rr
    obtain ⟨h1, h2, h3, h4, h⟩ := h
    have hjn : jr n := ⟨by omega, by omega⟩
    have h5 := hH.2.2.2.1
    have h6 := hH.2.2.2.2
    have hdef : defaultValue (newarray.typeOf at_) = .int 0 := by rcases hsel with e | e <;> rw [e] <;> rfl
    have hcb : componentBytes (newarray.typeOf at_) ≤ 4 := by rcases hsel with e | e <;> rw [e] <;> decide
    refine W.newaK (N := n.toNat) (h := H.size) hx hb (hts _ hw) rfl hd rfl (iI_neg_not hjn h1) (iI_clamp hjn h1) (Nat.le_trans (Nat.mul_le_mul_left _ hcb) (by omega)) (by omega) (by omega) rfl fun H1 cA e1 z1 o1 hAr => ?_
    have h9 := kK _ _ _ _ _ _ _ _ _ (h _ (by rw [← hH.2.1]; exact hH.1.fresh) rfl) (hH.push (H1 := H1) (n := n.toNat) (e := .inr (.inl (newarray.typeOf at_, List.replicate n.toNat 0))) h3 h4 ⟨Or.inl ⟨cA, ?_, hAr⟩, fun x hx9 => ?_⟩ z1 o1)
    · rw [← hH.2.1] at h9
      exact h9
    · rw [e1, hdef, vp_cell_i]
      simp only [List.length_replicate, jrep]
      rfl
    · rw [(List.mem_replicate.mp hx9).2]
      exact jr0
  · exact h.elim
theorem jupd {xs : List Int} {k : Nat} {v : Int} (hk : k < xs.length) : updV (fun j => Value.int (iI (xs.getD j 0))) k (.int (iI v)) = fun j => Value.int (iI ((xs.set k v).getD j 0)) := by
  funext j
  by_cases hj : j = k
  · subst hj
    simp [updV, List.getD_eq_getElem?_getD, hk]
  · simp [updV, hj, List.getD_eq_getElem?_getD, List.getElem?_set_ne (Ne.symm hj)]
theorem jiast_snd : jSnd sz0 l own nm dep .iastore 1 (jiast sz0) := by
  intro p e R s m args below meth c H locs cells slots Q cc nL pc ls ret st M sz kc ks K X hC hd hls hH h kK kX
  obtain ⟨hx, hb, hml, hown, hts, hlocks, hI, hsz0, hnt, hnm, hRf, hRl, hret⟩ := hC
  unfold jiast at h
  split at h
  · rename_i v j a rr
    obtain ⟨xs, h1, ha, ⟨g1, g2, g3⟩, hv, h⟩ := h
    have hjj : jr j := ⟨by omega, by omega⟩
    have hlt : j.toNat < xs.length := by omega
    obtain ⟨h2, hjr⟩ := hH.1 _ _ h1
    rcases h2 with ⟨cA, h2, h3⟩ | ⟨h0, -⟩
    · refine W.iast (x := iI v) (j := iI j) hx hb h2 (h3 xs.length (fun j => .int (iI (xs.getD j 0)))) (fun q => by cases q) ?_ rfl rfl hd fun H1 e z oq => ?_
      · rw [vp_cell_i, arrV_size, iI_clamp hjj g1]
        intro q
        rcases q with q | q
        · exact iI_neg_not hjj g1 q
        · exact absurd hlt (Nat.not_lt.mpr q)
      · refine kK _ _ _ _ _ _ _ _ _ (h _ rfl) (hH.put ha ⟨Or.inl ⟨cA, ?_, h3⟩, fun x hx9 => ?_⟩ z oq)
        · rw [e, vp_cell_i, vp_cell_i, arrV_store, iI_clamp hjj g1, jupd hlt]
          simp
        · rcases List.mem_or_eq_of_mem_set hx9 with g | g
          · exact hjr x g
          · rw [g]; exact hv
    · dsimp only at h0
      rw [h0] at hlt
      exact absurd hlt (Nat.not_lt_zero _)
  · exact h.elim
theorem jcast_snd : jSnd sz0 l own nm dep .castore 1 (jcast sz0) := by
  intro p e R s m args below meth c H locs cells slots Q cc nL pc ls ret st M sz kc ks K X hC hd hls hH h kK kX
  obtain ⟨hx, hb, hml, hown, hts, hlocks, hI, hsz0, hnt, hnm, hRf, hRl, hret⟩ := hC
  unfold jcast at h
  split at h
  · rename_i v j a rr
    obtain ⟨xs, h1, ha, ⟨g1, g2, g3⟩, hv, h⟩ := h
    have hjj : jr j := ⟨by omega, by omega⟩
    have hlt : j.toNat < xs.length := by omega
    obtain ⟨n, rfl⟩ := Int.eq_ofNat_of_zero_le hv.1
    obtain ⟨h2, hjr⟩ := hH.1 _ _ h1
    rcases h2 with ⟨cA, h2, h3⟩ | ⟨h0, -⟩
    · have hn9 := (pk_charN (q := n) (by omega)).1
      refine W.cast (x := iI (n : Int)) (j := iI j) hx hb h2 (h3 xs.length (fun j => .int (iI (xs.getD j 0)))) (fun q => by cases q) ?_ rfl rfl hd fun H1 e z oq => ?_
      · rw [vp_cell_i, arrV_size, iI_clamp hjj g1]
        intro q
        rcases q with q | q
        · exact iI_neg_not hjj g1 q
        · exact absurd hlt (Nat.not_lt.mpr q)
      · refine kK _ _ _ _ _ _ _ _ _ (h _ rfl) (hH.put ha ⟨Or.inl ⟨cA, ?_, h3⟩, fun x hx9 => ?_⟩ z oq)
        · rw [e, vp_cell_i, vp_cell_i, iI_nat, hn9, ← iI_nat, arrV_store, iI_clamp hjj g1, jupd hlt]
          simp
        · rcases List.mem_or_eq_of_mem_set hx9 with g | g
          · exact hjr x g
          · rw [g]; exact ⟨by omega, by omega⟩
    · dsimp only at h0
      rw [h0] at hlt
      exact absurd hlt (Nat.not_lt_zero _)
  · exact h.elim
theorem jldc2_snd {v : Int} {idx : Nat} (hw : Cond.constantLong own idx (Int64.ofInt v) ∈ jg) : jSnd sz0 l own nm dep (.ldc2_w idx) 3 (jldc2 v) := by
  intro p e R s m args below meth c H locs cells slots Q cc nL pc ls ret st M sz kc ks K X hC hd hls hH h kK kX
  obtain ⟨hx, hb, hml, hown, hts, hlocks, hI, hsz0, hnt, hnm, hRf, hRl, hret⟩ := hC
  exact lv_ldc2 hx hb hown (hts _ hw) hd (kK _ _ _ _ _ _ _ _ _ h hH)
end J8
