/-! what the start gives, as the walk needs it -/
def SXs (A : Nat → Prop) (q v qs : Nat) (s : State) : Prop := (SF q v A s s.heap ∧ vk_R RX11 172 "weight" q s) ∧ SXo A qs s
theorem SXs_k {A : Nat → Prop} {q v qs : Nat} : SXk A (SXs A q v qs) := by
  intro s U h hz hk hW
  obtain ⟨⟨h1, h2⟩, h3, h4, h5, h6⟩ := h
  exact ⟨⟨SF_kept (SF_moved hW.alike h1) hk, vk_R.warm hW h2⟩, vk_R.warm hW h3, vx_Zq.moved hW.alike (h4.kept hk), vx_Zq.moved hW.alike (h5.kept hk), DCs_w hW h6⟩
section STA
variable {s : State} {args : Array Value}
theorem st_dc (hts : ∀ w ∈ lw_tbl, w.before args s = true) : DCs s := by
  intro w hw hd
  have h := hts w (atE_in w hw)
  cases w with
  | declares x => exact va_Nw.of rfl h
  | castable C T => exact va_Nw.of rfl h
  | _ => cases hd
theorem st_nw (hts : ∀ w ∈ lw_tbl, w.before args s = true) : NWs s :=
  ⟨fun q hq => va_Nw.of rfl (hts _ (t_N q hq)), va_AO.of (hts _ t_A.2.2.2), va_AO.of (hts _ t_A.2.2.1)⟩
theorem st_sx (hts : ∀ w ∈ lw_tbl, w.before args s = true) (hgv : gn1.before args s = true) : ∃ q v qs, SXs (fun q => s.heap.size ≤ q) q v qs s := by
  have hs := flat_of_before _ hgv
  have hA : ∀ a : Nat, a < s.heap.size → ¬ s.heap.size ≤ a := fun a h => Nat.not_le.mpr h
  obtain ⟨adK, adV, hS, hE⟩ := vk_Sof (args := args) (s := s) (N := 1) (tm := fun _ => tW) (len := [6]) (byt := [[119, 101, 105, 103, 104, 116]]) (A := fun q => s.heap.size ≤ q)
    (fun i hi => by obtain rfl : i = 0 := by omega
                    decide)
    (fun i hi => hs _ n_W.1) (fun i hi => hs _ n_W.2.1) (fun i hi => hs _ n_W.2.2.1)
    (fun i hi => by obtain rfl : i = 0 := by omega
                    exact hs _ n_W.2.2.2)
    (fun i hi j hj => by obtain rfl : i = 0 := by omega
                         exact hs _ (n_We j hj))
    (fun i j hi hj e => absurd (show i = j by omega) e) hA
  obtain ⟨qs, c, cA, kA, q1, -⟩ := Cond.exactly_spec (args := args) (first := s) (o := none) (s := s) (idx := []) (hs _ n_Z.2.2.2.2)
  have hS0 := hS.1 0 (by omega)
  refine ⟨adK 0, adV 0, qs, ⟨⟨hS0.1, hS0.2.1, hS0.2.2.1, hS0.2.2.2, ?_, ?_⟩, vk_R.of (hts _ t_Z.2.2.2.2.2.2.2.1) (hE 0 (by omega))⟩, vk_R.of (hts _ t_Z.2.2.2.2.2.2.2.2) q1, ?_, ?_, st_dc hts⟩
  · exact va_Zof (hts _ t_Z.1) (hts _ t_Z.2.2.2.2.1) (va_eqt (hs _ n_Z.1)) hA
  · exact va_Zqof (hts _ t_Z.2.1) (hts _ t_Z.2.2.2.2.2.1) (hs _ n_Z.2.1) hA
  · exact vx_Zqof (hts _ t_Z.2.2.1) (hts _ t_Z.2.2.2.2.2.2.1) (hs _ n_Z.2.2.1) hA
  · exact vx_Zqof (hts _ t_Z.2.2.2.1) (hts _ t_Z.2.2.2.2.2.2.1) (hs _ n_Z.2.2.2.1) hA
theorem st_k (hts : ∀ w ∈ lw_tbl, w.before args s = true) (hT : ∀ w ∈ TS, w.before args s = true) : ∃ (D : va_G) (cy : Nat × Nat × Nat × Nat), va_K D vwCl (tyl cy) s := by
  have h0 : ∀ c : Nat, ∃ z : ClassId × (Nat → Nat), ∀ q : vw_C, vwCl[c]? = some q → u_Kn s q.1 q.2.1 q.2.2 z.1 z.2 := by
    intro c
    cases hq : vwCl[c]? with
    | none => exact ⟨(0, fun _ => 0), fun q h => by cases h⟩
    | some r =>
      obtain ⟨C, T, n⟩ := r
      have hc : c < 12 := (List.getElem?_eq_some_iff.mp hq).1
      obtain ⟨-, -, -, hi, -⟩ := cv_spec hc
      have hn := cl_name hq
      obtain ⟨cC, iS, hK⟩ := u_known hT (cl_in hq) (by rw [hn]; exact hT _ hi)
      exact ⟨(cC, iS), fun q h => by cases h; exact hK⟩
  obtain ⟨z, hz⟩ := Classical.axiomOfChoice h0
  obtain ⟨c1, k1, m1, a1, b1, d1⟩ := Cond.arrayClass_spec (hts _ t_A.1)
  obtain ⟨c2, k2, m2, a2, b2, d2⟩ := Cond.arrayClass_spec (hts _ t_A.2.1)
  obtain ⟨m3, c3, k3, f3, -, b3, d3, a3⟩ := Cond.arrayOver_spec (hts _ t_A.2.2.1)
  obtain ⟨m4, c4, k4, f4, -, b4, d4, a4⟩ := Cond.arrayOver_spec (hts _ t_A.2.2.2)
  refine ⟨(fun c => (z c).1, fun c => (z c).2), (c1, c2, c3, c4), fun c q h => hz c q h, ?_⟩
  intro k q hk
  match k, hk with
  | 0, hk => cases hk; exact ⟨fun n z => ⟨fun k h => (by cases h), k1, b1, m1, d1⟩, a1⟩
  | 1, hk => cases hk; exact ⟨fun n z => ⟨fun k h => (by cases h), k2, b2, m2, d2⟩, a2⟩
  | 2, hk => cases hk; exact ⟨fun n z => ⟨fun k h => (by cases h), k3, b3, m3, d3⟩, k3, m3, b3, d3, f3, a3⟩
  | 3, hk => cases hk; exact ⟨fun n z => ⟨fun k h => (by cases h), k4, b4, m4, d4⟩, k4, m4, b4, d4, f4, a4⟩
  | k + 4, hk => simp [tyl] at hk
end STA
