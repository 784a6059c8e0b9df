/-! The walk of a method, and a method's contract out of it. -/
section J7
variable {p : Program} {l : Launch} {e : Env} {R : Room} {s : State} {m : MethodId} {args : Array Value} {below : List Frame} {meth : Method} {c : Code} {H : Heap} {locs : List Loc} {cells slots : Nat} {Q : State → Prop}
variable {cc : ByteArray} {nL pc : Nat} {ls : Array Slot} {sz0 : Nat} {own nm : String} {dep : Nat} {ret : Option FieldType}
/-- several instructions that are one -/
def jSnp (sz0 : Nat) (l : Launch) (own nm : String) (dep : Nat) (cc : ByteArray) (pc : Nat) (tr : jTr) : Prop :=
  ∀ {p : Program} {e : Env} {R : Room} {s : State} {m : MethodId} {args : Array Value} {below : List Frame} {meth : Method} {c : Code} {H : Heap} {locs : List Loc} {cells slots : Nat} {nL : Nat} {ls : Array Slot} {ret : Option FieldType} {st : List jV} {M : jM} {sz kc ks : Nat} {Qr : Option jV → jM → Nat → Prop} {Qx : Nat → jM → Nat → Prop},
    jCx sz0 own nm dep p l R s m args meth c cc nL ret → (∀ x ∈ c.exceptionTable.toList, False) → ls.size = nL → jH sz0 s R H locs cells slots M sz kc ks → tr st M sz kc ks (fun _ _ _ _ _ => False) (fun E M' sz' _ _ => Qx E M' sz') →
    W p l e R s m args below meth c H locs cells slots (jQ below sz0 Qr Qx args s R) (F0 m pc ls (st.map jv))
/-- the handlers of a method: none, or where each catches -/
def jHd (own : String) (hd : Option (List (Nat × List (Nat × Nat)))) (s : State) (args : Array Value) (c : Code) : Prop := match hd with
  | none => ∀ x ∈ c.exceptionTable.toList, False
  | some hx => ∀ (pc : Nat) (L : List (Nat × Nat)), (pc, L) ∈ hx → ∀ (E h : Nat), (E, h) ∈ L → ∃ (pre : List ExceptionTableEntry) (x : ExceptionTableEntry) (suf : List ExceptionTableEntry) (name : String), c.exceptionTable.toList = pre ++ x :: suf ∧
      (∀ z ∈ pre, covers z pc = false ∨ (z.catchType ≠ 0 ∧ ∃ nm : String, (Cond.classLink own z.catchType nm).before args s = true ∧ va_Nc (jEx E) nm s)) ∧ covers x pc = true ∧ x.catchType ≠ 0 ∧ x.handlerPc = h ∧ (Cond.classLink own x.catchType name).before args s = true ∧ (Cond.castable (jEx E) name).before args s = true
theorem jwp_sound {Qr : Option jV → jM → Nat → Prop} {Qx : Nat → jM → Nat → Prop} {code : List (Nat × jI5)} {cp : List (Nat × Nat × jTr)} {cut : List (Nat × jAs)} {sp : List (Nat × jTr)} {hd : Option (List (Nat × List (Nat × Nat)))}
    (hC : jCx sz0 own nm dep p l R s m args meth c cc nL ret) (hok : code.all (jok1 cc) = true)
    (hcp : ∀ q ∈ cp, jSnd sz0 l own nm dep (jin q.1 q.2.1) (jlen (jin q.1 q.2.1)) q.2.2) (hsp : ∀ q ∈ sp, hd = none ∧ jSnp sz0 l own nm dep cc q.1 q.2) (hhd : jHd own hd s args c)
    (hcut : ∀ (pc : Nat) (a : jAs), (pc, a) ∈ cut → ∀ (lv : List (Nat × jV)) (st : List jV) (M : jM) (sz kc ks : Nat) (ls : Array Slot) (H : Heap) (locs : List Loc) (cells slots : Nat), a lv st M sz kc ks → lv_has ls nL (jlm lv) → jH sz0 s R H locs cells slots M sz kc ks → W p l e R s m args below meth c H locs cells slots (jQ below sz0 Qr Qx args s R) (F0 m pc ls (st.map jv))) :
    ∀ (n : Nat) (b : Bool) (pc : Nat) (lv : List (Nat × jV)) (st : List jV) (M : jM) (sz kc ks : Nat) (ls : Array Slot) (H : Heap) (locs : List Loc) (cells slots : Nat), jwp code cp cut sp hd ret nL Qr Qx n b pc lv st M sz kc ks → lv_has ls nL (jlm lv) → jH sz0 s R H locs cells slots M sz kc ks → W p l e R s m args below meth c H locs cells slots (jQ below sz0 Qr Qx args s R) (F0 m pc ls (st.map jv)) := by
  intro n
  induction n with
  | zero => intro b pc lv st M sz kc ks ls H locs cells slots h; exact h.elim
  | succ n ih =>
    intro b pc lv st M sz kc ks ls H locs cells slots h hlv hH
    have kX : ∀ (pc : Nat) (lv : List (Nat × jV)) (ls : Array Slot), lv_has ls nL (jlm lv) → ∀ (E : Nat) (M' : jM) (sz' kc' ks' : Nat) (H' : Heap) (locs' : List Loc) (cells' slots' : Nat) (ce : Cell) (q : Nat) (rest : List Value), jx hd Qx (jwp code cp cut sp hd ret nL Qr Qx n true) pc lv E M' sz' kc' ks' → jH sz0 s R H' locs' cells' slots' M' sz' kc' ks' → H'[q]? = some ce → ce.vm = .none → s.vm.findClass (jEx E) = some ce.cls → vx_W p l e R s m args below meth c H' locs' cells' slots' (jQ below sz0 Qr Qx args s R) (F0 m pc ls rest) q := by
      intro pc lv ls hlv E M' sz' kc' ks' H' locs' cells' slots' ce q rest hx hH' hce hvm hcl
      have hlocks : meth.locks = false := hC.2.2.2.2.2.1
      have hown := hC.2.2.2.1
      cases hd with
      | none =>
        have hx : Qx E M' sz' := hx
        have g1 : cells' ≤ R.cells := by have := hH'.2.2.2.1; omega
        have g2 : slots' ≤ R.slots := by have := hH'.2.2.2.2; omega
        refine vx_out (fun x hx9 => (hhd x hx9).elim) hlocks hce hvm hcl (fun t ht ha => ⟨E, M', rfl, by rw [ht, hH'.2.1]; exact hx, by rw [ht]; exact hH'.1.moved ha, hH'.2.2.1.F ht⟩) hH'.2.2.1.2.2 g1 g2
      | some hx0 =>
        simp only [jx] at hx
        split at hx
        · exact hx.elim
        · rename_i L hL
          split at hx
          · exact hx.elim
          · rename_i h9 hE
            obtain ⟨pre, x, suf, name, e1, e2, e3, e4, e5, e6, e7⟩ := hhd pc L (jlk_mem hL) E h9 (jlk_mem hE)
            refine vx_catch hown pre x suf e1 e2 e3 e4 e6 e7 hce hvm hcl ?_
            rw [e5]
            exact ih true h9 lv [vR q] M' sz' kc' ks' ls H' locs' cells' slots' (hx q) hlv hH'
    simp only [jwp] at h
    split at h
    · rename_i a ha
      cases b with
      | true => exact hcut pc a (jlk_mem ha) lv st M sz kc ks ls H locs cells slots h hlv hH
      | false => cases ha
    · split at h
      · rename_i tr ht
        obtain ⟨e1, e2⟩ := hsp (pc, tr) (jlk_mem ht)
        subst e1
        exact e2 hC hhd hlv.1 hH h
      · split at h
        · exact h.elim
        · rename_i i npc tgt cst hi
          exact js_sound hC (List.all_eq_true.mp hok _ (jlk_mem hi)) hlv hH hcp h (fun pc' lv' st' M' sz' kc' ks' ls' H' locs' cells' slots' hk hl hh => ih true pc' lv' st' M' sz' kc' ks' ls' H' locs' cells' slots' hk hl hh) (kX pc lv ls hlv)
/-- the locals at the start -/
def jl0 : Nat → List jV → List (Nat × jV)
  | _, [] => []
  | k, v :: r => (k, v) :: (match jct2 v with
    | true => jl0 (k + 2) r
    | false => jl0 (k + 1) r)
theorem jl0_args : ∀ (vs : List jV) (k : Nat), lv_args k (vs.map jv) = jlm (jl0 k vs) := by
  intro vs
  induction vs with
  | nil => intro k; rfl
  | cons v r ih =>
    intro k
    rcases v with z | z | _ | a
    · show (k, jv (.inl z)) :: lv_args (k + 1) (r.map jv) = (k, jv (.inl z)) :: jlm (jl0 (k + 1) r)
      rw [ih]
    · show (k, jv (.inr (.inl z))) :: lv_args (k + 2) (r.map jv) = (k, jv (.inr (.inl z))) :: jlm (jl0 (k + 2) r)
      rw [ih]
    · show (k, jv vN) :: lv_args (k + 1) (r.map jv) = (k, jv vN) :: jlm (jl0 (k + 1) r)
      rw [ih]
    · show (k, jv (vR a)) :: lv_args (k + 1) (r.map jv) = (k, jv (vR a)) :: jlm (jl0 (k + 1) r)
      rw [ih]
/-- as vx_ofW of the pasted rows, of a method by its name -/
theorem jofW {y : MethodName} {ws ws' : List Cond} {rm : Room} {Pc : Array Value → State → Prop} {Qc : Array Value → State → Outcome → State → Prop} {XC : String → State → State → Prop} {mc ms : Nat} {free : Addr → Prop} {cc : ByteArray} {maxL : Nat} {ret : Option FieldType}
    (hy : plainFor y = true) (hw : ws = Cond.code y cc maxL ret :: ws')
    (body : ∀ p e s m args below meth c s₁, BodyLoose p l y (headSpec ws rm) cc maxL ret e s m args below meth c s₁ → c.maxLocals = maxL → (∀ x ∈ c.exceptionTable.toList, False) → Pc args s →
      W p l e (headSpec ws rm).room s m args below meth c s.heap [] 0 0 (vx_MQ below Qc XC args s mc ms free) (entryFrame m args maxL)) : vx_Met l y ws rm Pc Qc XC mc ms free := by
  refine MetFree.of_bodySF (code := cc) (maxLocals := maxL) (ret := ret) hy ?_ ?_
  · intro args s m h hn
    obtain ⟨meth, c, h1, h2, h3, h4, h5, h6, -, -⟩ := Cond.code_spec hn (atoms_spec (ws := ws) h _ (by rw [hw]; exact List.mem_cons_self))
    exact ⟨meth, c, h1, h2, h3, h4, h5, h6⟩
  · intro p e s m args below meth c s₁ B hml hP _
    have hh0 : s₁.heap = s.heap := by rw [B.state]; rfl
    have ht : ∀ x ∈ c.exceptionTable.toList, False := by
      obtain ⟨meth9, c9, h1, h2, -, -, -, -, h7, -⟩ := Cond.code_spec B.named (atoms_spec (ws := ws) B.pre _ (by rw [hw]; exact List.mem_cons_self))
      cases Option.some.inj (h1.symm.trans B.method)
      cases Option.some.inj (h2.symm.trans (Stand.of_body B).code)
      intro x hx
      rw [Array.isEmpty_iff.mp h7] at hx
      cases hx
    obtain ⟨t, a1, o, b1, b2, b3⟩ := body p e s m args below meth c s₁ B hml ht hP s₁ hh0 (Stand.of_body B)
    exact ⟨t, o, a1, b1, b2, b3⟩
/-- the cuts of a walk from a cut of measure k on: what is met again has a smaller one; of the walk from the start: any -/
def jcuts (I : List (Nat × (Nat → jAs))) (k : Nat) : List (Nat × jAs) := I.map (fun q => (q.1, fun lv st M sz kc ks => ∃ k' : Nat, k' < k ∧ q.2 k' lv st M sz kc ks))
def jcutE (I : List (Nat × (Nat → jAs))) : List (Nat × jAs) := I.map (fun q => (q.1, fun lv st M sz kc ks => ∃ k' : Nat, q.2 k' lv st M sz kc ks))
/-- a method's contract: its walk from the start, each of its cuts walked with a measure that falls -/
theorem jmet {y : MethodName} {maxL mc ms : Nat} {S : jS} (code : List (Nat × jI5)) (cp : List (Nat × Nat × jTr)) (sp : List (Nat × jTr)) (n : Nat) (hy : plainFor y = true) (hyc : y.cls = own) (hyn : y.name = nm) (hnt : l.stackTraces = false)
    (hok : code.all (jok1 cc) = true) (hcp : ∀ q ∈ cp, jSnd sz0 l own nm dep (jin q.1 q.2.1) (jlen (jin q.1 q.2.1)) q.2.2) (hsp : ∀ q ∈ sp, jSnp sz0 l own nm dep cc q.1 q.2)
    (hS : ∀ (av : List jV) (M : jM) (sz : Nat) (P : Option jV → jM → Nat → Prop) (X : Nat → jM → Nat → Prop), S av M sz P X → sz0 ≤ sz → M sz = none →
      Nat.ble (lg_sl (av.map jv)).length maxL = true ∧ ∃ I : List (Nat × (Nat → jAs)),
        jwp code cp (jcutE I) sp none ret maxL P X n true 0 (jl0 0 av) [] M sz mc ms ∧ (∀ (pc : Nat) (a : Nat → jAs), (pc, a) ∈ I → ∀ k lv st M1 sz1 kc ks, a k lv st M1 sz1 kc ks → jwp code cp (jcuts I k) sp none ret maxL P X n false pc lv st M1 sz1 kc ks)) :
    jCon sz0 l y cc maxL ret dep mc ms S := by
  intro av M sz P X hs
  refine jofW (cc := cc) (maxL := maxL) (ret := ret) hy rfl ?_
  intro p e s m args below meth c s₁ B hml htab hv
  obtain ⟨rfl, hM, hsz, hsz0, hI⟩ := hv
  have hts := atoms_spec (ws := Cond.code y cc maxL ret :: jg) B.pre
  have hown : s.vm.findClass own = some m.cls := by rw [← hyc]; exact findClass_of_methodNamed B.named
  have hC : jCx sz0 own nm dep p l (headSpec (Cond.code y cc maxL ret :: jg) (jRm dep mc ms)).room s m (av.map jv).toArray meth c cc maxL ret :=
    ⟨B.exec, B.bytes, hml, hown, fun w hw => hts w (List.mem_cons_of_mem _ hw), B.notSynchronized, hI, by rw [hsz]; exact hsz0, hnt, by rw [← hyn]; exact (name_of_methodNamed B.named B.method).1, Nat.le_refl _, Nat.le_refl _, B.returns⟩
  subst hsz
  obtain ⟨hb0, I, h1, h2⟩ := hS av M s.heap.size P X hs hsz0 hM.fresh
  have hH : jH sz0 s (headSpec (Cond.code y cc maxL ret :: jg) (jRm dep mc ms)).room s.heap [] 0 0 M s.heap.size mc ms := ⟨hM, rfl, va_S.rf, by show 0 + mc ≤ mc; omega, by show 0 + ms ≤ ms; omega⟩
  have key : ∀ (k : Nat) (pc : Nat) (a : Nat → jAs), (pc, a) ∈ I → ∀ (lv : List (Nat × jV)) (st : List jV) (M1 : jM) (sz kc ks : Nat) (ls : Array Slot) (H : Heap) (locs : List Loc) (cells slots : Nat), a k lv st M1 sz kc ks → lv_has ls maxL (jlm lv) → jH sz0 s (headSpec (Cond.code y cc maxL ret :: jg) (jRm dep mc ms)).room H locs cells slots M1 sz kc ks → W p l e (headSpec (Cond.code y cc maxL ret :: jg) (jRm dep mc ms)).room s m (av.map jv).toArray below meth c H locs cells slots (jQ below sz0 P X (av.map jv).toArray s (headSpec (Cond.code y cc maxL ret :: jg) (jRm dep mc ms)).room) (F0 m pc ls (st.map jv)) := by
    intro k
    induction k using Nat.strongRecOn with
    | ind k ih =>
      intro pc a hpa lv st M1 sz kc ks ls H locs cells slots ha hlv hH
      refine jwp_sound (hd := none) hC hok hcp (fun q hq => ⟨rfl, hsp q hq⟩) htab ?_ n false pc lv st M1 sz kc ks ls H locs cells slots (h2 pc a hpa k lv st M1 sz kc ks ha) hlv hH
      intro pc' a' hin lv' st' M' sz' kc' ks' ls' H' locs' cells' slots' h9 hlv' hH'
      obtain ⟨q, hq, he⟩ := List.mem_map.mp hin
      cases he
      obtain ⟨k', hk', h9⟩ := h9
      exact ih k' hk' q.1 q.2 hq lv' st' M' sz' kc' ks' ls' H' locs' cells' slots' h9 hlv' hH'
  have hl := lv_entry (av.map jv) (n := maxL) (Nat.le_of_ble_eq_true hb0)
  rw [jl0_args] at hl
  rw [lg_entry_eq]
  refine jwp_sound (hd := none) hC hok hcp (fun q hq => ⟨rfl, hsp q hq⟩) htab ?_ n true 0 (jl0 0 av) [] M s.heap.size mc ms _ s.heap [] 0 0 h1 hl hH
  intro pc' a' hin lv' st' M' sz' kc' ks' ls' H' locs' cells' slots' h9 hlv' hH'
  obtain ⟨q, hq, he⟩ := List.mem_map.mp hin
  cases he
  obtain ⟨k', h9⟩ := h9
  exact key k' q.1 q.2 hq lv' st' M' sz' kc' ks' ls' H' locs' cells' slots' h9 hlv' hH'
end J7
