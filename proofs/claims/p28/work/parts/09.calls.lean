/-! Calls. -/
def jpop : Nat → List jV → List jV → Option (List jV × List jV)
  | 0, st, acc => some (acc, st)
  | n + 1, v :: st, acc => jpop n st (v :: acc)
  | _ + 1, [], _ => none
theorem jpop_spec : ∀ {n : Nat} {st acc av rest : List jV}, jpop n st acc = some (av, rest) → ∃ xs : List jV, xs.length = n ∧ st = xs ++ rest ∧ av = xs.reverse ++ acc
  | 0, st, acc, av, rest, h => by
    simp only [jpop, Option.some.injEq, Prod.mk.injEq] at h
    exact ⟨[], rfl, by rw [h.2]; rfl, by rw [← h.1]; rfl⟩
  | n + 1, [], acc, av, rest, h => by simp [jpop] at h
  | n + 1, v :: st, acc, av, rest, h => by
    simp only [jpop] at h
    obtain ⟨xs, h1, h2, h3⟩ := jpop_spec h
    exact ⟨v :: xs, by simp [h1], by simp [h2], by simp [h3]⟩
def jcat2 : List jV → Nat
  | [] => 0
  | v :: r => match jct2 v with
    | true => 2 + jcat2 r
    | false => 1 + jcat2 r
theorem jcat2_sum : ∀ (st : List jV), ((st.map jv).map fun v => v.category).sum = jcat2 st
  | [] => rfl
  | v :: r => by
    have h := jcat2_sum r
    rcases v with z | z | _ | a <;> simp only [List.map_cons, List.sum_cons, h] <;> rfl
/-- a call: n arguments (the receiver among them), at most mc cells of ms slots -/
def jcall (n mc ms : Nat) (S : jS) : jTr := fun st M sz kc ks K X => match jpop n st [] with
  | none => False
  | some (av, rest) => match Nat.ble (jcat2 rest) 8 with
    | false => False
    | true => mc ≤ kc ∧ ms ≤ ks ∧ S av M sz (fun v M' sz' => K (v.toList ++ rest) M' sz' (kc - mc) (ks - ms)) (fun E M' sz' => X E M' sz' (kc - mc) (ks - ms))
def jcalv (n mc ms ci : Nat) (S : jS) : jTr := fun st M sz kc ks K X => match jpop n st [] with
  | some (.inr (.inr (some a)) :: av, rest) => match Nat.ble (jcat2 rest) 8 with
    | false => False
    | true => (∃ fs : List jV, M a = some (.inl (ci, fs))) ∧ mc ≤ kc ∧ ms ≤ ks ∧ S (vR a :: av) M sz (fun v M' sz' => K (v.toList ++ rest) M' sz' (kc - mc) (ks - ms)) (fun E M' sz' => X E M' sz' (kc - mc) (ks - ms))
  | _ => False
/-- a method that the tables have -/
def jYok (y : MethodName) (cc : ByteArray) (maxL : Nat) (ret : Option FieldType) (n : Nat) : Prop :=
  Cond.code y cc maxL ret ∈ jg ∧ Cond.initialized y.cls ∈ jg ∧ (y.cls ≠ "java/lang/invoke/MethodHandle" ∧ y.cls ≠ "java/lang/invoke/VarHandle" ∧ (parseMethodDescriptor y.desc).map (fun d => d.parameters.length) = some n) ∧ maxL ≤ 20
section J9
variable {p : Program} {l : Launch} {e : Env} {R : Room} {s : State} {m : MethodId} {args : Array Value} {below : List Frame} {meth : Method} {c : Code} {H : Heap} {locs : List Loc} {cells slots : Nat} {Q : State → Prop}
variable {sz0 : Nat} {own nm : String} {dep : Nat}
theorem jrun {pc : Nat} {ls : Array Slot} {st0 rest : List Value} {mc ms : Nat} {P : Option jV → jM → Nat → Prop} {X : Nat → jM → Nat → Prop} {a : Array Value} {M : jM} {sz kc ks : Nat} (hr : vx_Run p l e R s m args below meth c H locs cells slots mc ms (F0 m pc ls st0) rest (jQc sz0 P a) (jXC sz0 X) (jA sz0)) (hH : jH sz0 s R H locs cells slots M sz kc ks) (hmc : mc ≤ kc) (hms : ms ≤ ks)
    (kk : ∀ (v : Option jV) (M' : jM) (H' : Heap) (locs' : List Loc), P v M' H'.size → jH sz0 s R H' locs' (cells + mc) (slots + ms) M' H'.size (kc - mc) (ks - ms) → W p l e R s m args below meth c H' locs' (cells + mc) (slots + ms) Q (F0 m (pc + 3) ls ((v.map jv).toList ++ rest)))
    (kx : ∀ (E : Nat) (M' : jM) (H' : Heap) (locs' : List Loc) (ce : Cell) (q : Nat), X E M' H'.size → jH sz0 s R H' locs' (cells + mc) (slots + ms) M' H'.size (kc - mc) (ks - ms) → H'[q]? = some ce → ce.vm = .none → s.vm.findClass (jEx E) = some ce.cls → vx_W p l e R s m args below meth c H' locs' (cells + mc) (slots + ms) Q (F0 m pc ls rest) q) :
    W p l e R s m args below meth c H locs cells slots Q (F0 m pc ls st0) := by
  intro T hT X9
  obtain ⟨h1, h2, h3, h4, h5⟩ := hH
  rcases hr T hT X9 with ⟨v, st₀, t, T', L, h0, X', hL, e1, e2, ⟨v', M', hv, hp, hb, hF⟩, st⟩ | ⟨q, st₀, t, T', L, E, ce, h0, X', hL, e1, e2, ⟨k, M', hE, hp, hb, hF⟩, hce, hcv, hcl, st⟩
  · cases hv
    obtain ⟨k1, k2, k3⟩ := vx_keep h0 e1 h3 (fun q _ h => h) (fun q h => h) hL hF
    have hm : t.vm.Alike s.vm := by rw [← e2]; exact X'.warmed.alike.symm
    have hJ : jH sz0 s R T'.heap (locs ++ L) (cells + mc) (slots + ms) M' T'.heap.size (kc - mc) (ks - ms) := ⟨by rw [e1]; exact hb.moved hm, rfl, k3, by omega, by omega⟩
    obtain ⟨t2, a1, b1⟩ := kk v' M' T'.heap (locs ++ L) (by rw [e1]; exact hp) hJ T' rfl X'
    exact ⟨t2, st t2 a1, b1⟩
  · obtain ⟨k1, k2, k3⟩ := vx_keep h0 e1 h3 (fun q _ h => h) (fun q h => h) hL hF
    have hm : t.vm.Alike s.vm := by rw [← e2]; exact X'.warmed.alike.symm
    have hJ : jH sz0 s R T'.heap (locs ++ L) (cells + mc) (slots + ms) M' T'.heap.size (kc - mc) (ks - ms) := ⟨by rw [e1]; exact hb.moved hm, rfl, k3, by omega, by omega⟩
    subst hE
    obtain ⟨t2, a1, b1⟩ := kx k M' T'.heap (locs ++ L) ce q (by rw [e1]; exact hp) hJ (by rw [e1]; exact hce) hcv hcl T' rfl X'
    exact ⟨t2, st.trans a1, b1⟩
theorem jpre {nL : Nat} {cc : ByteArray} {ret : Option FieldType} {av : List jV} {M : jM} {sz kc ks : Nat} (hC : jCx sz0 own nm dep p l R s m args meth c cc nL ret) (hH : jH sz0 s R H locs cells slots M sz kc ks) : PreS s H (jPc sz0 av M sz) (av.map jv) := by
  obtain ⟨hx, hb, hml, hown, hts, hlocks, hI, hsz0, hnt, hnm, hRf, hRl, hret⟩ := hC
  obtain ⟨h1, h2, h3, h4, h5⟩ := hH
  refine ⟨jPc.blind, fun U hU hW => ⟨rfl, by rw [hU]; exact h1.moved hW.alike, by rw [hU]; exact h2, by have := h3.1; omega, ?_⟩⟩
  exact hI.kept hW (fun a ha hn => by rw [hU]; exact h3.2.1 a ha hn)
theorem jcb {y : MethodName} {cc9 : ByteArray} {maxL dc mc ms n idx : Nat} {ret ret9 : Option FieldType} {nL : Nat} {cc : ByteArray} (hC : jCx sz0 own nm dep p l R s m args meth c cc nL ret) (hY : jYok y cc9 maxL ret9 n) (hdep : dc + 1 ≤ dep) (hl : Cond.methodLink own idx y ∈ jg) : CallB R s args own idx y cc9 maxL ret9 (Cond.code y cc9 maxL ret9 :: jg) (jRm dc mc ms) mc ms n := by
  obtain ⟨hx, hb, hml, hown, hts, hlocks, hI, hsz0, hnt, hnm, hRf, hRl, hret⟩ := hC
  obtain ⟨h1, h2, h3, h4⟩ := hY
  exact callB_of n hts (jg_good h1) rfl rfl rfl (hts _ h2) (hts _ hl) h3 ⟨by show dc + 1 ≤ R.frames; omega, by show 8 + (maxL + 11) + 39 * dc ≤ R.locals; omega⟩
theorem jcall_snd {y : MethodName} {cc9 : ByteArray} {maxL dc mc ms n idx : Nat} {ret9 : Option FieldType} {S : jS} (hM : jCon sz0 l y cc9 maxL ret9 dc mc ms S) (hY : jYok y cc9 maxL ret9 n) (hst : Cond.static y ∈ jg) (hdep : dc + 1 ≤ dep) (hl : Cond.methodLink own idx y ∈ jg) : jSnd sz0 l own nm dep (.invokestatic idx) 3 (jcall n mc ms S) := by
  intro p e R s m args below meth c H locs cells slots Q cc nL pc ls ret st M sz kc ks K X hC hd hls hH h kK kX
  have hC0 := hC
  obtain ⟨hx, hb, hml, hown, hts, hlocks, hI, hsz0, hnt, hnm, hRf, hRl, hret⟩ := hC
  unfold jcall at h
  split at h
  · exact h.elim
  · rename_i av rest hpop
    split at h
    · exact h.elim
    · rename_i hble
      obtain ⟨h1, h2, h⟩ := h
      obtain ⟨xs, e1, e2, e3⟩ := jpop_spec hpop
      rw [List.append_nil] at e3
      have h4 := hH.2.2.2.1
      have h5 := hH.2.2.2.2
      refine jrun (rest := rest.map jv) (vx_runS (As := av.map jv) ⟨hx, hb, hml, hown, hts⟩ (hM av M sz _ _ h) ⟨jcb hC0 hY hdep hl, hts _ hst⟩ (jpre hC0 hH) rfl (by rw [List.length_map, e3, List.length_reverse]; exact e1) hls ?_ (lv_room (by rw [jcat2_sum]; exact Nat.le_of_ble_eq_true hble)) hd ⟨by omega, by omega⟩) hH h1 h2 (fun v M' H' locs' hp hJ => ?_) (fun E M' H' locs' ce q hp hJ hce hcv hcl => ?_)
      · show st.map jv = (av.map jv).reverse ++ rest.map jv
        rw [e2, e3, List.map_append, List.map_reverse, List.reverse_reverse]
      · have h9 := kK _ _ _ _ _ _ _ _ _ hp hJ
        rw [List.map_append] at h9
        cases v <;> exact h9
      · exact kX _ _ _ _ _ _ _ _ _ _ _ _ hp hJ hce hcv hcl
theorem jrecv {ci a : Nat} {r : vw_C} {fs : List jV} {M : jM} {sz kc ks : Nat} (hH : jH sz0 s R H locs cells slots M sz kc ks) (hr : jcl[ci]? = some r) (h1 : M a = some (.inl (ci, fs))) : ∃ cellB : Cell, H[a]? = some cellB ∧ cellB.vm.isStatics = false ∧ s.vm.findClass r.1 = some cellB.cls := by
  obtain ⟨cC, iS, g1, ⟨cell, q1, q2, q3, q4⟩, g3⟩ := jG1 (hH.1 _ _ h1) hr
  exact ⟨cell, q1, by rw [q3]; rfl, by rw [q2]; exact g1.2.1⟩
theorem jcalv_snd {y : MethodName} {cc9 : ByteArray} {maxL dc mc ms n idx ci : Nat} {ret9 : Option FieldType} {S : jS} {r : vw_C} (hM : jCon sz0 l y cc9 maxL ret9 dc mc ms S) (hY : jYok y cc9 maxL ret9 n) (hr : jcl[ci]? = some r) (hry : r.1 = y.cls) (hin : Cond.instanceMethod y ∈ jg) (hse : Cond.selects y.cls y y ∈ jg) (hdep : dc + 1 ≤ dep) (hl : Cond.methodLink own idx y ∈ jg) : jSnd sz0 l own nm dep (.invokevirtual idx) 3 (jcalv (n + 1) mc ms ci S) := by
  intro p e R s m args below meth c H locs cells slots Q cc nL pc ls ret st M sz kc ks K X hC hd hls hH h kK kX
  have hC0 := hC
  obtain ⟨hx, hb, hml, hown, hts, hlocks, hI, hsz0, hnt, hnm, hRf, hRl, hret⟩ := hC
  unfold jcalv at h
  split at h
  · rename_i a av rest hpop
    split at h
    · exact h.elim
    · rename_i hble
      obtain ⟨⟨fs, h0⟩, h1, h2, h⟩ := h
      obtain ⟨xs, e1, e2, e3⟩ := jpop_spec hpop
      rw [List.append_nil] at e3
      have h4 := hH.2.2.2.1
      have h5 := hH.2.2.2.2
      have e4 : av.length = n := by
        have := congrArg List.length e3
        rw [List.length_reverse, e1] at this
        simpa using this
      have hp9 := jpre (av := vR a :: av) hC0 hH
      refine jrun (rest := rest.map jv) (vx_runV (b := a) (As := av.map jv) ⟨hx, hb, hml, hown, hts⟩ (hM (vR a :: av) M sz _ _ h) ⟨jcb hC0 hY hdep hl, hts _ hin, hts _ hse⟩ ⟨hp9.1, by rw [← hry]; exact jrecv hH hr h0, hp9.2⟩ rfl (by rw [List.length_map]; exact e4) hls ?_ (lv_room (by rw [jcat2_sum]; exact Nat.le_of_ble_eq_true hble)) hd ⟨by omega, by omega⟩) hH h1 h2 (fun v M' H' locs' hp hJ => ?_) (fun E M' H' locs' ce q hp hJ hce hcv hcl => ?_)
      · show st.map jv = (av.map jv).reverse ++ .ref a :: rest.map jv
        have e5 : xs = (vR a :: av).reverse := by rw [e3, List.reverse_reverse]
        rw [e2, e5, List.map_append, List.map_reverse, List.map_cons, List.reverse_cons, List.append_assoc]
        rfl
      · have h9 := kK _ _ _ _ _ _ _ _ _ hp hJ
        rw [List.map_append] at h9
        cases v <;> exact h9
      · exact kX _ _ _ _ _ _ _ _ _ _ _ _ hp hJ hce hcv hcl
  · exact h.elim
theorem jcali_snd {y : MethodName} {cc9 : ByteArray} {maxL dc mc ms n idx ci : Nat} {S : jS} {r : vw_C} (hM : jCon sz0 l y cc9 maxL none dc mc ms S) (hY : jYok y cc9 maxL none n) (hr : jcl[ci]? = some r) (hy1 : y.name = "<init>") (hin : Cond.instanceMethod y ∈ jg) (hdep : dc + 1 ≤ dep) (hl : Cond.methodLink own idx y ∈ jg) : jSnd sz0 l own nm dep (.invokespecial idx) 3 (jcalv (n + 1) mc ms ci S) := by
  intro p e R s m args below meth c H locs cells slots Q cc nL pc ls ret st M sz kc ks K X hC hd hls hH h kK kX
  have hC0 := hC
  obtain ⟨hx, hb, hml, hown, hts, hlocks, hI, hsz0, hnt, hnm, hRf, hRl, hret⟩ := hC
  unfold jcalv at h
  split at h
  · rename_i a av rest hpop
    split at h
    · exact h.elim
    · rename_i hble
      obtain ⟨⟨fs, h0⟩, h1, h2, h⟩ := h
      obtain ⟨xs, e1, e2, e3⟩ := jpop_spec hpop
      rw [List.append_nil] at e3
      have h4 := hH.2.2.2.1
      have h5 := hH.2.2.2.2
      have e4 : av.length = n := by
        have := congrArg List.length e3
        rw [List.length_reverse, e1] at this
        simpa using this
      refine jrun (rest := rest.map jv) (vx_runI (b := a) (As := av.map jv) ⟨hx, hb, hml, hown, hts⟩ (hM (vR a :: av) M sz _ _ h) ⟨jcb hC0 hY hdep hl, hy1, hts _ hin⟩ (jpre (av := vR a :: av) hC0 hH) rfl (by rw [List.length_map]; exact e4) hls ?_ (lv_room (by rw [jcat2_sum]; exact Nat.le_of_ble_eq_true hble)) hd ⟨by omega, by omega⟩) hH h1 h2 (fun v M' H' locs' hp hJ => ?_) (fun E M' H' locs' ce q hp hJ hce hcv hcl => ?_)
      · show st.map jv = (av.map jv).reverse ++ .ref a :: rest.map jv
        have e5 : xs = (vR a :: av).reverse := by rw [e3, List.reverse_reverse]
        rw [e2, e5, List.map_append, List.map_reverse, List.map_cons, List.reverse_cons, List.append_assoc]
        rfl
      · have h9 := kK _ _ _ _ _ _ _ _ _ hp hJ
        rw [List.map_append] at h9
        cases v <;> exact h9
      · exact kX _ _ _ _ _ _ _ _ _ _ _ _ hp hJ hce hcv hcl
  · exact h.elim
theorem jcaliN_snd {y : MethodName} {cc9 : ByteArray} {maxL dc mc ms n idx ci : Nat} {S : jS} {r : vw_C} {host : String} (hM : jCon sz0 l y cc9 maxL none dc mc ms S) (hY : jYok y cc9 maxL none n) (hr : jcl[ci]? = some r) (hy1 : y.name = "<init>") (hin : Cond.instanceMethod y ∈ jg) (hdep : dc + 1 ≤ dep) (hl : Cond.methodLinkNest own idx y host ∈ lw_tbl) : jSnd sz0 l own nm dep (.invokespecial idx) 3 (jcalv (n + 1) mc ms ci S) := by
  intro p e R s m args below meth c H locs cells slots Q cc nL pc ls ret st M sz kc ks K X hC hd hls hH h kK kX
  have hC0 := hC
  obtain ⟨hx, hb, hml, hown, hts, hlocks, hI, hsz0, hnt, hnm, hRf, hRl, hret⟩ := hC
  unfold jcalv at h
  split at h
  · rename_i a av rest hpop
    split at h
    · exact h.elim
    · rename_i hble
      obtain ⟨⟨fs, h0⟩, h1, h2, h⟩ := h
      obtain ⟨xs, e1, e2, e3⟩ := jpop_spec hpop
      rw [List.append_nil] at e3
      have h4 := hH.2.2.2.1
      have h5 := hH.2.2.2.2
      have e4 : av.length = n := by
        have := congrArg List.length e3
        rw [List.length_reverse, e1] at this
        simpa using this
      refine jrun (rest := rest.map jv) (vx_runIN (b := a) (As := av.map jv) ⟨hx, hb, hml, hown, hts⟩ (hM (vR a :: av) M sz _ _ h) ⟨va_cnB n hts (jg_good hY.1) rfl rfl rfl (hI.1 _ hl rfl) (hts _ hY.2.1) hY.2.2.1 ⟨by show dc + 1 ≤ R.frames; omega, by show 8 + (maxL + 11) + 39 * dc ≤ R.locals; have := hY.2.2.2; omega⟩, hy1, hts _ hin⟩ (jpre (av := vR a :: av) hC0 hH) rfl (by rw [List.length_map]; exact e4) hls ?_ (lv_room (by rw [jcat2_sum]; exact Nat.le_of_ble_eq_true hble)) hd ⟨by omega, by omega⟩) hH h1 h2 (fun v M' H' locs' hp hJ => ?_) (fun E M' H' locs' ce q hp hJ hce hcv hcl => ?_)
      · show st.map jv = (av.map jv).reverse ++ .ref a :: rest.map jv
        have e5 : xs = (vR a :: av).reverse := by rw [e3, List.reverse_reverse]
        rw [e2, e5, List.map_append, List.map_reverse, List.map_cons, List.reverse_cons, List.append_assoc]
        rfl
      · have h9 := kK _ _ _ _ _ _ _ _ _ hp hJ
        rw [List.map_append] at h9
        cases v <;> exact h9
      · exact kX _ _ _ _ _ _ _ _ _ _ _ _ hp hJ hce hcv hcl
  · exact h.elim
end J9
