/-! Object's constructor; throws; arraycopy. -/
def jobj : jTr := fun st M sz kc ks K _ => match st with
  | .inr (.inr (some _)) :: r => match Nat.ble (jcat2 r) 8 with
    | true => K r M sz kc ks
    | false => False
  | _ => False
def jthrow (E : Nat) : jTr := fun _ M sz kc ks _ X => 1 ≤ kc ∧ 6 ≤ ks ∧ ∀ sz' : Nat, sz ≤ sz' → X E M sz' (kc - 1) (ks - 6)
def jthrowS (E : Nat) : jTr := fun st M sz kc ks K X => match st with
  | [] => jthrow E [] M sz kc ks K X
  | _ => False
def jmemb (w : Cond) : Bool := lw_tbl.any (fun v => decide (v = w)) && (goodWord w || (jnk w && w.onTables))
theorem jmemb_ok {w : Cond} (h : jmemb w = true) : w ∈ jg ∨ (w ∈ lw_tbl ∧ jnk w = true ∧ w.onTables = true) := by
  unfold jmemb at h
  rw [Bool.and_eq_true, Bool.or_eq_true, Bool.and_eq_true] at h
  obtain ⟨h1, h2⟩ := h
  obtain ⟨v, hv, he⟩ := List.any_eq_true.mp h1
  have he := of_decide_eq_true he
  subst he
  rcases h2 with h2 | h2
  · exact Or.inl (jg_in hv h2)
  · exact Or.inr ⟨hv, h2.1, h2.2⟩
def jnames : List String := ["java/lang/RuntimeException", "java/lang/Exception"]
section J10
variable {l : Launch} {sz0 : Nat} {own nm : String} {dep : Nat}
theorem jobj_snd {idx : Nat} (h1 : Cond.methodLink own idx objectInit ∈ jg) (h2 : Cond.instanceMethod objectInit ∈ jg) (h3 : Cond.code objectInit ⟨#[0xb1]⟩ 1 none ∈ jg) (hdep : 1 ≤ dep) : jSnd sz0 l own nm dep (.invokespecial idx) 3 jobj := by
  intro p e R s m args below meth c H locs cells slots Q cc nL pc ls ret st M sz kc ks K X hC hd hls hH h kK kX
  obtain ⟨hx, hb, hml, hown, hts, hlocks, hI, hsz0, hnt, hnm, hRf, hRl, hret⟩ := hC
  unfold jobj at h
  split at h
  · rename_i a r
    split at h
    · rename_i hble
      refine W.objInit hx hb hown (hts _ h1) (hts _ h2) (hts _ h3) rfl (by rw [hml]; exact hls) rfl hd (by omega) ?_ (kK _ _ _ _ _ _ _ _ _ h hH)
      have h9 := Nat.le_of_ble_eq_true hble
      show 2 * 0 + ((r.map jv).map fun v => v.category).sum + 12 ≤ R.locals
      rw [jcat2_sum]
      omega
    · exact h.elim
  · exact h.elim
theorem jthrow_snp {cc : ByteArray} {pc E ik is ic : Nat} {text : String} {names : List String} (hE : Bundle.fit (jEx E) = true) (hnames : ∀ n ∈ names, Bundle.fit n = true) (hk : Cond.classLink own ik (jEx E) ∈ jg) (hini : Cond.initialized (jEx E) ∈ jg) (hstr : Cond.stringRef own is text ∈ lw_tbl)
    (hat : ∀ w ∈ vx_atS own ic (jEx E) names, w ∈ jg ∨ (w ∈ lw_tbl ∧ jnk w = true ∧ w.onTables = true)) (hgood : ∀ w ∈ Cond.classLink own ik (jEx E) :: Cond.initialized (jEx E) :: vx_atS own ic (jEx E) names, vx_ot w = true)
    (d0 : decode cc pc = .ok (.new ik, 3)) (d3 : decode cc (pc + 3) = .ok (.dup, 1)) (d4 : decode cc (pc + 4) = .ok (.ldc_w is, 3)) (d7 : decode cc (pc + 7) = .ok (.invokespecial ic, 3)) (d10 : decode cc (pc + 10) = .ok (.athrow, 1))
    (hf : names.length + 3 < dep) (hlo : 8 + (13 * (names.length + 1) + 43) ≤ 39 * dep) : jSnp sz0 l own nm dep cc pc (jthrowS E) := by
  intro p e R s m args below meth c H locs cells slots nL ls ret st M sz kc ks Qr Qx hC hnx hls hH h
  unfold jthrowS at h
  obtain ⟨hx, hb, hml, hown, hts, hlocks, hI, hsz0, hnt, hnm, hRf, hRl, hret⟩ := hC
  split at h
  · obtain ⟨h1, h2, h3⟩ := h
    obtain ⟨sa, hsa⟩ := hI.2.2.1 _ _ _ hstr
    obtain ⟨g1, g2, g3, g4, g5⟩ := hH
    refine vx_throwSW (rest := []) (A := jA sz0) hx hb hnt hown hE hnames (hts _ hk) (hts _ hini) hsa (fun w hw => ?_) hgood hI.2.2.2.1 hI.2.2.2.2 g3 (by rw [hml]; exact hls) d0 d3 d4 d7 d10 (fun x hx9 => (hnx x hx9).elim) (by omega) ?_ (by omega) (by omega) hlocks (fun t ha hz hq => ?_) g3.2.2 (by omega) (by omega)
    · rcases hat w hw with h9 | ⟨h9, h8, h7⟩
      · exact hts _ h9
      · exact va_Nw.use h7 (hI.1 w h9 h8)
    · show 0 + (13 * (names.length + 1) + 43) ≤ R.locals
      omega
    · refine ⟨E, M, rfl, h3 _ (by rw [← g2]; exact hz), ?_, ⟨Nat.le_trans g3.1 hz, fun q k1 k2 => ?_⟩⟩
      · exact (show jhv s M t.heap from fun q e9 hq9 => (g1 q e9 hq9).kept (hq q (g1 q e9 hq9).lt)).moved ha
      · rw [hq q (Nat.lt_of_lt_of_le k1 g3.1)]
        exact g3.2.1 q k1 k2
  · exact h.elim
/-- a part of a row over a part of another (or of the same) -/
def jcpy (xs ys : List Int) (sp dp n : Nat) : List Int := ys.take dp ++ ((xs.drop sp).take n ++ ys.drop (dp + n))
theorem jcpy_len {xs ys : List Int} {sp dp n : Nat} (h1 : sp + n ≤ xs.length) (h2 : dp + n ≤ ys.length) : (jcpy xs ys sp dp n).length = ys.length := by
  simp only [jcpy, List.length_append, List.length_take, List.length_drop]
  omega
theorem jcpy_get {xs ys : List Int} {sp dp n : Nat} (h1 : sp + n ≤ xs.length) (h2 : dp + n ≤ ys.length) : (fun j => iI ((jcpy xs ys sp dp n).getD j 0)) = va_cpy (fun j => iI (xs.getD j 0)) (fun j => iI (ys.getD j 0)) sp dp n := by
  funext j
  unfold va_cpy jcpy
  simp only [List.getD_eq_getElem?_getD]
  by_cases c1 : j < dp
  · rw [if_neg (by omega), List.getElem?_append_left (by rw [List.length_take]; omega), List.getElem?_take, if_pos c1]
  · rw [List.getElem?_append_right (by rw [List.length_take]; omega)]
    have e : (List.take dp ys).length = dp := by rw [List.length_take]; omega
    rw [e]
    by_cases c2 : j < dp + n
    · rw [if_pos ⟨by omega, c2⟩, List.getElem?_append_left (by rw [List.length_take, List.length_drop]; omega), List.getElem?_take, if_pos (by omega), List.getElem?_drop]
    · rw [if_neg (by omega), List.getElem?_append_right (by rw [List.length_take, List.length_drop]; omega)]
      have e2 : (List.take n (List.drop sp xs)).length = n := by rw [List.length_take, List.length_drop]; omega
      rw [e2, List.getElem?_drop]
      congr 3
      omega
theorem jcpy_jr {xs ys : List Int} {sp dp n : Nat} (hx : ∀ x ∈ xs, jr x) (hy : ∀ x ∈ ys, jr x) : ∀ x ∈ jcpy xs ys sp dp n, jr x := by
  intro x h
  rcases List.mem_append.mp h with h | h
  · exact hy x (List.mem_of_mem_take h)
  · rcases List.mem_append.mp h with h | h
    · exact hx x (List.mem_of_mem_drop (List.mem_of_mem_take h))
    · exact hy x (List.mem_of_mem_drop h)
def jcopy (sz0 : Nat) : jTr := fun st M sz kc ks K _ => match st with
  | .inl n :: .inl dp :: .inr (.inr (some a)) :: .inl sp :: .inr (.inr (some b)) :: r => match Nat.ble (jcat2 r) 8 with
    | true => ∃ xs ys : List Int, M b = some (.inr (.inl (.int, xs))) ∧ M a = some (.inr (.inl (.int, ys))) ∧ sz0 ≤ a ∧ (0 ≤ n ∧ 0 ≤ dp ∧ 0 ≤ sp ∧ sp + n ≤ (xs.length : Int) ∧ dp + n ≤ (ys.length : Int) ∧ 0 < xs.length ∧ 0 < ys.length ∧ xs.length < 2 ^ 31 ∧ ys.length < 2 ^ 31) ∧ ∀ M' : jM, M' = jup M a (.inr (.inl (.int, jcpy xs ys sp.toNat dp.toNat n.toNat))) → K r M' sz kc ks
    | false => False
  | _ => False
theorem jcopy_snd {idx : Nat} (w1 : Cond.methodLink own idx arraycopyName ∈ jg) (w2 : Cond.native arraycopyName ∈ jg) (w3 : Cond.static arraycopyName ∈ jg) (w4 : Cond.initialized "java/lang/System" ∈ jg) (hdep : 1 ≤ dep) : jSnd sz0 l own nm dep (.invokestatic idx) 3 (jcopy sz0) := by
  intro p e R s m args below meth c H locs cells slots Q cc nL pc ls ret st M sz kc ks K X hC hd hls hH h kK kX
  obtain ⟨hx, hb, hml, hown, hts, hlocks, hI, hsz0, hnt, hnm, hRf, hRl, hret⟩ := hC
  unfold jcopy at h
  split at h
  · rename_i n dp a sp b r
    split at h
    · rename_i hble
      obtain ⟨xs, ys, h1, h2, ha, ⟨g1, g2, g3, g4, g5, g6, g7, g8, g9⟩, h⟩ := h
      have hjn : jr n := ⟨by omega, by omega⟩
      have hjd : jr dp := ⟨by omega, by omega⟩
      have hjs : jr sp := ⟨by omega, by omega⟩
      obtain ⟨h1, hjx⟩ := hH.1 _ _ h1
      obtain ⟨h2, hjy⟩ := hH.1 _ _ h2
      rcases h1 with ⟨c0, h1, hr1⟩ | ⟨h0, -⟩
      · rcases h2 with ⟨c1, h2, hr2⟩ | ⟨h0, -⟩
        · dsimp only at h1 h2 hjx hjy
          intro T hT X9
          obtain ⟨-, k0, hk0, cm0, hkk0⟩ := hr1 xs.length (fun j => .int (iI (xs.getD j 0)))
          obtain ⟨-, k1, hk1, cm1, hkk1⟩ := hr2 ys.length (fun j => .int (iI (ys.getD j 0)))
          have e0 : (iI sp).toNatClampNeg + (iI n).toNatClampNeg ≤ xs.length := by rw [iI_clamp hjs g3, iI_clamp hjn g1]; omega
          have e00 : (iI dp).toNatClampNeg + (iI n).toNatClampNeg ≤ ys.length := by rw [iI_clamp hjd g2, iI_clamp hjn g1]; omega
          obtain ⟨vm', X', step⟩ := X9.arraycopy hx hown (hts _ w1) (hts _ w2) (hts _ w3) (hts _ w4) (src := b) (dst := a) (cs := vp_cell c0 (xs.length, .inl (fun j => iI (xs.getD j 0)))) (cd := vp_cell c1 (ys.length, .inl (fun j => iI (ys.getD j 0)))) (srcPos := iI sp) (destPos := iI dp) (n := iI n) (by rw [hT]; exact h1) (by rw [hT]; exact h2)
            (fun _ h => by cases h) (fun _ h => by cases h) (fun h => by cases h) (fun h => by cases h) hk0 hk1 hkk0 hkk1 (by simp [refKind]) (iI_neg_not hjs g3) (iI_neg_not hjd g2) (iI_neg_not hjn g1)
            (by rw [iI_toInt hjs, iI_toInt hjn]; show ¬ _ > ((arrV c0 xs.length (fun j => .int (iI (xs.getD j 0)))).slots.size : Int); rw [arrV_size]; omega)
            (by rw [iI_toInt hjd, iI_toInt hjn]; show ¬ _ > ((arrV c1 ys.length (fun j => .int (iI (ys.getD j 0)))).slots.size : Int); rw [arrV_size]; omega)
            (fun vm₁ _ i hi => by
              have e : (vp_cell c0 (xs.length, .inl (fun j => iI (xs.getD j 0)))).slots.getD ((iI sp).toNatClampNeg + i) .null = .int (iI (xs.getD ((iI sp).toNatClampNeg + i) 0)) := by
                show (arrV c0 xs.length (fun j => .int (iI (xs.getD j 0)))).slots.getD _ _ = _
                rw [Array.getD_eq_getD_getElem?, arrV_read _ _ (by omega)]
                rfl
              refine ⟨?_, ?_⟩
              · rw [e]
                rfl
              · rw [e]
                exact trivial)
            (g := F0 m pc ls (.int (iI n) :: .int (iI dp) :: .ref a :: .int (iI sp) :: .ref b :: r.map jv)) rfl (by rw [hml]; exact hls) (rest := r.map jv) rfl (by rw [hb]; exact hd) (by omega) (by
              have h9 := Nat.le_of_ble_eq_true hble
              have h8 := jcat2_sum r
              have h7 : nativeFrameWords "java/lang/System" "arraycopy" 5 = 7 := by decide +kernel
              show 2 * 0 + _ + _ ≤ _
              rw [h8, h7]
              omega)
          have e1 : copied (vp_cell c0 (xs.length, .inl (fun j => iI (xs.getD j 0)))) (vp_cell c1 (ys.length, .inl (fun j => iI (ys.getD j 0)))) (iI sp) (iI dp) (iI n) = vp_cell c1 (ys.length, .inl (va_cpy (fun j => iI (xs.getD j 0)) (fun j => iI (ys.getD j 0)) (iI sp).toNatClampNeg (iI dp).toNatClampNeg (iI n).toNatClampNeg)) := va_copied (fun z => .int z) c0 c1 (fun j => iI (xs.getD j 0)) (fun j => iI (ys.getD j 0)) e0
          have e2 : copied (vp_cell c0 (xs.length, .inl (fun j => iI (xs.getD j 0)))) (vp_cell c1 (ys.length, .inl (fun j => iI (ys.getD j 0)))) (iI sp) (iI dp) (iI n) = vp_cell c1 ((jcpy xs ys sp.toNat dp.toNat n.toNat).length, .inl (fun j => iI ((jcpy xs ys sp.toNat dp.toNat n.toNat).getD j 0))) := by
            rw [e1, iI_clamp hjs g3, iI_clamp hjd g2, iI_clamp hjn g1, ← jcpy_get (by omega) (by omega), jcpy_len (by omega) (by omega)]
          rw [e2] at X' step
          generalize hzs : jcpy xs ys sp.toNat dp.toNat n.toNat = zs at X' step h
          have hl : a < H.size := (Array.getElem?_eq_some_iff.mp h2).1
          have hheap : ((T.setVm vm').setCell a (vp_cell c1 (zs.length, .inl (fun j => iI (zs.getD j 0))))).heap = H.setIfInBounds a (vp_cell c1 (zs.length, .inl (fun j => iI (zs.getD j 0)))) := by rw [← hT]; rfl
          have oq : ∀ q : Nat, q ≠ a → (H.setIfInBounds a (vp_cell c1 (zs.length, .inl (fun j => iI (zs.getD j 0)))))[q]? = H[q]? := fun q hq => by simp [Array.getElem?_setIfInBounds, Ne.symm hq]
          have hJ : ∀ lo : List Loc, (∀ q ∈ lo, q ∈ locs ∨ q.base = a) → jH sz0 s R (H.setIfInBounds a (vp_cell c1 (zs.length, .inl (fun j => iI (zs.getD j 0))))) lo cells slots (jup M a (.inr (.inl (.int, zs)))) sz kc ks := by
            intro lo hlo
            obtain ⟨k1, k2, k3, k4⟩ := hH
            refine ⟨k1.put ⟨Or.inl ⟨c1, ?_, hr2⟩, ?_⟩ oq, by simp [k2], ⟨by simp; exact k3.1, fun q z1 z2 => ?_, fun q hq => ?_⟩, k4⟩
            · show (H.setIfInBounds a _)[a]? = some _
              simp [Array.getElem?_setIfInBounds, hl]
            · rw [← hzs]
              exact jcpy_jr hjx hjy
            · rw [oq q (fun e => z2 (by rw [e]; exact ha))]
              exact k3.2.1 q z1 z2
            · rcases hlo q hq with h9 | h9
              · exact k3.2.2 q h9
              · show sz0 ≤ q.base
                rw [h9]
                exact ha
          obtain ⟨t, a1, b1⟩ := kK _ _ _ _ _ _ _ _ _ (h _ rfl) (hJ _ (fun q hq => by
            rcases List.mem_append.mp hq with h9 | h9
            · exact Or.inl h9
            · obtain ⟨z, -, hz⟩ := List.mem_map.mp h9
              rw [← hz]
              exact Or.inr rfl)) _ hheap X'
          exact ⟨t, step t a1, b1⟩
        · dsimp only at h0; rw [h0] at g7; exact absurd g7 (Nat.lt_irrefl _)
      · dsimp only at h0; rw [h0] at g6; exact absurd g6 (Nat.lt_irrefl _)
    · exact h.elim
  · exact h.elim
end J10
theorem jat_IO : ∀ w ∈ vx_atS "Manydoors" 288 (jEx 1) jnames, w ∈ jg ∨ (w ∈ lw_tbl ∧ jnk w = true ∧ w.onTables = true) := fun w hw => jmemb_ok (List.all_eq_true.mp (show (vx_atS "Manydoors" 288 (jEx 1) jnames).all jmemb = true by decide +kernel) w hw)
theorem jat_IA : ∀ w ∈ vx_atS "Manydoors" 309 (jEx 2) jnames, w ∈ jg ∨ (w ∈ lw_tbl ∧ jnk w = true ∧ w.onTables = true) := fun w hw => jmemb_ok (List.all_eq_true.mp (show (vx_atS "Manydoors" 309 (jEx 2) jnames).all jmemb = true by decide +kernel) w hw)
theorem jot_IO : ∀ w ∈ Cond.classLink "Manydoors" 284 (jEx 1) :: Cond.initialized (jEx 1) :: vx_atS "Manydoors" 288 (jEx 1) jnames, vx_ot w = true := fun w hw => List.all_eq_true.mp (show (Cond.classLink "Manydoors" 284 (jEx 1) :: Cond.initialized (jEx 1) :: vx_atS "Manydoors" 288 (jEx 1) jnames).all vx_ot = true by decide +kernel) w hw
theorem jot_IA : ∀ w ∈ Cond.classLink "Manydoors" 305 (jEx 2) :: Cond.initialized (jEx 2) :: vx_atS "Manydoors" 309 (jEx 2) jnames, vx_ot w = true := fun w hw => List.all_eq_true.mp (show (Cond.classLink "Manydoors" 305 (jEx 2) :: Cond.initialized (jEx 2) :: vx_atS "Manydoors" 309 (jEx 2) jnames).all vx_ot = true by decide +kernel) w hw
