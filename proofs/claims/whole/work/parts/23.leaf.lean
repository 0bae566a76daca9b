/-! small reads of the class -/
theorem i5 : Int32.ofInt 5 = nI 5 := by decide
theorem i60 : (Int8.ofInt 60).toInt32 = nI 60 := by decide
theorem i12 : (Int8.ofInt 12).toInt32 = nI 12 := by decide
theorem i6 : (Int8.ofInt 6).toInt32 = nI 6 := by decide
section LEAF
variable {N e m k : Nat} {σ : ST} {Q : POST}
theorem c_placeOf {x : Int32} {h : Nat} (ex : x = nI h) (hh : h < 5) (hm : 20 ≤ m) (hQ : Q (some (.inl (σ.1 3 k 4 h))) σ) : wp N m (e, 0) TX3_placeOf 0 [some (.inr (.inr (3, k, 0))), some (.inl x)] [] σ Q := by
  obtain ⟨n, rfl⟩ := il_ex hm
  refine b_lt ex z0 (by omega) (by omega) (fun q => by omega) (fun _ => ?_)
  refine b_ge ex i5 (by omega) (by omega) (fun q => by omega) (fun _ => ?_)
  refine ⟨il_in ex (by omega) (by omega), trivial, Or.inl rfl, ?_⟩
  rw [← il_cl ex (by omega)] at hQ
  exact hQ
theorem c_costOf {x : Int32} {h : Nat} (ex : x = nI h) (hh : h < 5) (hm : 20 ≤ m) (hQ : Q (some (.inl (σ.1 3 k 5 h))) σ) : wp N m (e, 0) TX3_costOf 0 [some (.inr (.inr (3, k, 0))), some (.inl x)] [] σ Q := by
  obtain ⟨n, rfl⟩ := il_ex hm
  refine b_lt ex z0 (by omega) (by omega) (fun q => by omega) (fun _ => ?_)
  refine b_ge ex i5 (by omega) (by omega) (fun q => by omega) (fun _ => ?_)
  refine ⟨il_in ex (by omega) (by omega), trivial, Or.inl rfl, ?_⟩
  rw [← il_cl ex (by omega)] at hQ
  exact hQ
theorem c_joinedAt {x : Int32} {h : Nat} (ex : x = nI h) (hh : h < 5) (hm : 20 ≤ m) (hQ : Q (some (.inl (σ.1 3 k 3 h))) σ) : wp N m (e, 0) TX3_joinedAt 0 [some (.inr (.inr (3, k, 0))), some (.inl x)] [] σ Q := by
  obtain ⟨n, rfl⟩ := il_ex hm
  refine b_lt ex z0 (by omega) (by omega) (fun q => by omega) (fun _ => ?_)
  refine b_ge ex i5 (by omega) (by omega) (fun q => by omega) (fun _ => ?_)
  refine ⟨il_in ex (by omega) (by omega), trivial, Or.inl rfl, ?_⟩
  rw [← il_cl ex (by omega)] at hQ
  exact hQ
theorem c_weightOf {x : Int32} {h : Nat} (ex : x = nI h) (hh : h < 5) (hm : 20 ≤ m) (hQ : Q (some (.inl (σ.1 7 k 6 h))) σ) : wp N m (e, 0) TX7_weightOf 0 [some (.inr (.inr (7, k, 0))), some (.inl x)] [] σ Q := by
  obtain ⟨n, rfl⟩ := il_ex hm
  refine b_lt ex z0 (by omega) (by omega) (fun q => by omega) (fun _ => ?_)
  refine b_ge ex i5 (by omega) (by omega) (fun q => by omega) (fun _ => ?_)
  refine ⟨il_in ex (by omega) (by omega), trivial, Or.inl rfl, ?_⟩
  rw [← il_cl ex (by omega)] at hQ
  exact hQ
theorem c_countOf {x : Int32} {h : Nat} (ex : x = nI h) (hh : h < 5) (hm : 20 ≤ m) (hQ : Q (some (.inl (σ.1 8 k 7 h))) σ) : wp N m (e, 0) TX8_countOf 0 [some (.inr (.inr (8, k, 0))), some (.inl x)] [] σ Q := by
  obtain ⟨n, rfl⟩ := il_ex hm
  refine b_lt ex z0 (by omega) (by omega) (fun q => by omega) (fun _ => ?_)
  refine b_ge ex i5 (by omega) (by omega) (fun q => by omega) (fun _ => ?_)
  refine ⟨il_in ex (by omega) (by omega), trivial, Or.inl rfl, ?_⟩
  rw [← il_cl ex (by omega)] at hQ
  exact hQ
theorem c_weightTold {x : Int32} {h : Nat} (ex : x = nI h) (hh : h < 5) (hm : 20 ≤ m) (hQ : Q (some (.inl (σ.1 8 k 6 h))) σ) : wp N m (e, 0) TX8_weightTold 0 [some (.inr (.inr (8, k, 0))), some (.inl x)] [] σ Q := by
  obtain ⟨n, rfl⟩ := il_ex hm
  refine b_lt ex z0 (by omega) (by omega) (fun q => by omega) (fun _ => ?_)
  refine b_ge ex i5 (by omega) (by omega) (fun q => by omega) (fun _ => ?_)
  refine ⟨il_in ex (by omega) (by omega), trivial, Or.inl rfl, ?_⟩
  rw [← il_cl ex (by omega)] at hQ
  exact hQ
theorem c_lengthOf {x : Int32} {h : Nat} (ex : x = nI h) (hh : h < 60) (hm : 20 ≤ m) (hQ : Q (some (.inl (σ.1 8 k 10 h))) σ) : wp N m (e, 0) TX8_lengthOf 0 [some (.inr (.inr (8, k, 0))), some (.inl x)] [] σ Q := by
  obtain ⟨n, rfl⟩ := il_ex hm
  refine b_lt ex z0 (by omega) (by omega) (fun q => by omega) (fun _ => ?_)
  refine b_ge ex i60 (by omega) (by omega) (fun q => by omega) (fun _ => ?_)
  refine ⟨il_in ex (by omega) (by omega), trivial, Or.inl rfl, ?_⟩
  rw [← il_cl ex (by omega)] at hQ
  exact hQ
theorem c_holds {x : Int32} {h : Nat} (ex : x = nI h) (hh : h < 5) (hm : 40 ≤ m) (hQ : Q (some (.inl (if σ.1 3 k 4 h < 0 then nI 0 else nI 1))) σ) : wp N m (e + 1, 0) TX3_holds 0 [some (.inr (.inr (3, k, 0))), some (.inl x)] [] σ Q := by
  obtain ⟨n, rfl⟩ := il_ex hm
  refine ⟨trivial, c_placeOf ex hh (by omega) ?_⟩
  refine ⟨fun (q : σ.1 3 k 4 h < 0) => ?_, fun (q : ¬ σ.1 3 k 4 h < 0) => ?_⟩
  · rw [if_pos q] at hQ
    exact ⟨Or.inr (Or.inl rfl), hQ⟩
  · rw [if_neg q] at hQ
    exact ⟨trivial, Or.inr (Or.inr rfl), hQ⟩
theorem c_thereOf {x y : Int32} {s h : Nat} (ex : x = nI s) (ey : y = nI h) (hs : s < 60) (hh : h < 5) (hm : 40 ≤ m) (hQ : Q (some (.inl (σ.1 3 k 6 (s * 5 + h)))) σ) : wp N m (e, 0) TX3_thereOf 0 [some (.inr (.inr (3, k, 0))), some (.inl x), some (.inl y)] [] σ Q := by
  obtain ⟨n, rfl⟩ := il_ex hm
  refine b_lt ex z0 (by omega) (by omega) (fun q => by omega) (fun _ => ?_)
  refine b_ge ex i60 (by omega) (by omega) (fun q => by omega) (fun _ => ?_)
  refine b_lt ey z0 (by omega) (by omega) (fun q => by omega) (fun _ => ?_)
  refine b_ge ey i5 (by omega) (by omega) (fun q => by omega) (fun _ => ?_)
  have g : x * Int32.ofInt 5 + y = nI (s * 5 + h) := by rw [ex, ey, i5, pk_mul, nI_add]
  refine ⟨il_in g (by omega) (by omega), trivial, Or.inl rfl, ?_⟩
  rw [← il_cl g (by omega)] at hQ
  exact hQ
theorem c_wordOf {x y : Int32} {h i : Nat} (ex : x = nI h) (ey : y = nI i) (hh : h < 5) (hi : i < 12) (hm : 40 ≤ m) (hQ : Q (some (.inl (σ.1 8 k 3 (h * 12 + i)))) σ) : wp N m (e, 0) TX8_wordOf 0 [some (.inr (.inr (8, k, 0))), some (.inl x), some (.inl y)] [] σ Q := by
  obtain ⟨n, rfl⟩ := il_ex hm
  refine b_lt ex z0 (by omega) (by omega) (fun q => by omega) (fun _ => ?_)
  refine b_ge ex i5 (by omega) (by omega) (fun q => by omega) (fun _ => ?_)
  refine b_lt ey z0 (by omega) (by omega) (fun q => by omega) (fun _ => ?_)
  refine b_ge ey i12 (by omega) (by omega) (fun q => by omega) (fun _ => ?_)
  have g : x * (Int8.ofInt 12).toInt32 + y = nI (h * 12 + i) := by rw [ex, ey, i12, pk_mul, nI_add]
  refine ⟨il_in g (by omega) (by omega), trivial, Or.inl rfl, ?_⟩
  rw [← il_cl g (by omega)] at hQ
  exact hQ
theorem c_timeOf {x y : Int32} {h i : Nat} (ex : x = nI h) (ey : y = nI i) (hh : h < 5) (hi : i < 12) (hm : 40 ≤ m) (hQ : Q (some (.inl (σ.1 8 k 4 (h * 12 + i)))) σ) : wp N m (e, 0) TX8_timeOf 0 [some (.inr (.inr (8, k, 0))), some (.inl x), some (.inl y)] [] σ Q := by
  obtain ⟨n, rfl⟩ := il_ex hm
  refine b_lt ex z0 (by omega) (by omega) (fun q => by omega) (fun _ => ?_)
  refine b_ge ex i5 (by omega) (by omega) (fun q => by omega) (fun _ => ?_)
  refine b_lt ey z0 (by omega) (by omega) (fun q => by omega) (fun _ => ?_)
  refine b_ge ey i12 (by omega) (by omega) (fun q => by omega) (fun _ => ?_)
  have g : x * (Int8.ofInt 12).toInt32 + y = nI (h * 12 + i) := by rw [ex, ey, i12, pk_mul, nI_add]
  refine ⟨il_in g (by omega) (by omega), trivial, Or.inl rfl, ?_⟩
  rw [← il_cl g (by omega)] at hQ
  exact hQ
theorem c_putThere {x y z : Int32} {s h : Nat} (ex : x = nI s) (ey : y = nI h) (hs : s < 60) (hh : h < 5) (hm : 40 ≤ m) (hQ : Q none (uI σ 3 k 6 (s * 5 + h) z)) : wp N m (e, 0) TX3_putThere 0 [some (.inr (.inr (3, k, 0))), some (.inl x), some (.inl y), some (.inl z)] [] σ Q := by
  obtain ⟨n, rfl⟩ := il_ex hm
  refine b_lt ex z0 (by omega) (by omega) (fun q => by omega) (fun _ => ?_)
  refine b_ge ex i60 (by omega) (by omega) (fun q => by omega) (fun _ => ?_)
  refine b_lt ey z0 (by omega) (by omega) (fun q => by omega) (fun _ => ?_)
  refine b_ge ey i5 (by omega) (by omega) (fun q => by omega) (fun _ => ?_)
  have g : x * Int32.ofInt 5 + y = nI (s * 5 + h) := by rw [ex, ey, i5, pk_mul, nI_add]
  refine ⟨il_in g (by omega) (by omega), ?_⟩
  rw [← il_cl g (by omega)] at hQ
  exact hQ
end LEAF
