/-! Object's constructor; throws; arraycopy. -/
def jobj : jTr := fun st M sz kc ks K _ => match st with
  | .inr (.inr (some _)) :: r => match Nat.ble (jcat2 r) 8 with
    | true => K r M sz kc ks
    | false => False
  | _ => False
def jthrow (E : Nat) : jTr := fun _ M sz kc ks _ X => 1 ≤ kc ∧ 6 ≤ ks ∧ ∀ sz' : Nat, sz ≤ sz' → X E M sz' (kc - 1) (ks - 6)
section J10
variable {l : Launch} {sz0 : Nat} {own nm : String} {dep : Nat}
theorem jobj_snd {idx : Nat} (h1 : Cond.methodLink own idx objectInit ∈ jg) (h2 : Cond.instanceMethod objectInit ∈ jg) (h3 : Cond.code objectInit ⟨#[0xb1]⟩ 1 none ∈ jg) (hdep : 1 ≤ dep) : jSnd sz0 l own nm dep (.invokespecial idx) 3 jobj := by
  intro p e R s m args below meth c H locs cells slots Q cc nL pc ls ret st M sz kc ks K X hC hd hls hH h kK kX
  obtain ⟨hx, hb, hml, hown, hts, hlocks, hI, hsz0, hnt, hnm, hRf, hRl, hret⟩ := hC
  unfold jobj at h
  split at h
  · rename_i a r
    split at h
    · rename_i hble
      refine W.objInit hx hb hown (hts _ h1) (hts _ h2) (hts _ h3) rfl (by rw [hml]; exact hls) rfl hd (by omega) ?_ (kK _ _ _ _ _ _ _ _ _ h hH)
      have h9 := Nat.le_of_ble_eq_true hble
      show 2 * 0 + ((r.map jv).map fun v => v.category).sum + 12 ≤ R.locals
      rw [jcat2_sum]
      omega
    · exact h.elim
  · exact h.elim
theorem jthrow_snp {cc : ByteArray} {pc E ik is ic : Nat} {text : String} {names : List String} (hE : Bundle.fit (jEx E) = true) (hnames : ∀ n ∈ names, Bundle.fit n = true) (hk : Cond.classLink own ik (jEx E) ∈ jg) (hini : Cond.initialized (jEx E) ∈ jg) (hstr : Cond.stringRef own is text ∈ lw_tbl)
    (hat : ∀ w ∈ vx_atS own ic (jEx E) names, w ∈ jg ∨ (w ∈ lw_tbl ∧ jnk w = true ∧ w.onTables = true)) (hgood : ∀ w ∈ Cond.classLink own ik (jEx E) :: Cond.initialized (jEx E) :: vx_atS own ic (jEx E) names, vx_ot w = true)
    (d0 : decode cc pc = .ok (.new ik, 3)) (d3 : decode cc (pc + 3) = .ok (.dup, 1)) (d4 : decode cc (pc + 4) = .ok (.ldc_w is, 3)) (d7 : decode cc (pc + 7) = .ok (.invokespecial ic, 3)) (d10 : decode cc (pc + 10) = .ok (.athrow, 1))
    (hf : names.length + 3 < dep) (hlo : 8 + (13 * (names.length + 1) + 43) ≤ 39 * dep) : jSnp sz0 l own nm dep cc pc (fun st M sz kc ks K X => match st with
      | [] => jthrow E [] M sz kc ks K X
      | _ => False) := by
  intro p e R s m args below meth c H locs cells slots nL ls ret st M sz kc ks Qr Qx hC hnx hls hH h
  obtain ⟨hx, hb, hml, hown, hts, hlocks, hI, hsz0, hnt, hnm, hRf, hRl, hret⟩ := hC
  split at h
  · obtain ⟨h1, h2, h3⟩ := h
    obtain ⟨sa, hsa⟩ := hI.2.2.1 _ _ _ hstr
    obtain ⟨g1, g2, g3, g4, g5⟩ := hH
    refine vx_throwSW (rest := []) (A := jA sz0) hx hb hnt hown hE hnames (hts _ hk) (hts _ hini) hsa (fun w hw => ?_) hgood hI.2.2.2.1 hI.2.2.2.2 g3 (by rw [hml]; exact hls) d0 d3 d4 d7 d10 (fun x hx9 => (hnx x hx9).elim) (by omega) ?_ (by omega) (by omega) hlocks (fun t ha hz hq => ?_) g3.2.2 (by omega) (by omega)
    · rcases hat w hw with h9 | ⟨h9, h8, h7⟩
      · exact hts _ h9
      · exact va_Nw.use h7 (hI.1 w h9 h8)
    · show 0 + (13 * (names.length + 1) + 43) ≤ R.locals
      omega
    · refine ⟨E, M, rfl, h3 _ (by rw [← g2]; exact hz), ?_, ⟨Nat.le_trans g3.1 hz, fun q k1 k2 => ?_⟩⟩
      · exact (show jhv s M t.heap from fun q e9 hq9 => (g1 q e9 hq9).kept (hq q (g1 q e9 hq9).lt)).moved ha
      · rw [hq q (Nat.lt_of_lt_of_le k1 g3.1)]
        exact g3.2.1 q k1 k2
  · exact h.elim
end J10
