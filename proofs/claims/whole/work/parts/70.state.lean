/-! the state of both, as one value -/
abbrev AS : Type := SPc × RUc × NEc × Nat × PAc × Nat × (Nat → Nat) × List Nat × Int32 × Int32 × Int32
def VV (A : AS) : Prop := (vSP A.1) ∧ (0 < A.1.nh → vRU A.1 A.2.1) ∧ (vNE A.1 A.2.2.1) ∧ (A.1.nh = 0 → A.2.2.1 = emE ∧ A.2.2.2.1 = 0 ∧ A.1.nw = 0) ∧ (vAC A.1 A.2.2.2.1 A.2.2.2.2.1) ∧ (A.2.2.2.2.2.1 ≤ 600 ∧ ∀ i, i < A.2.2.2.2.2.1 → A.2.2.2.2.2.2.1 i < 256) ∧ (A.2.2.2.2.2.2.2.1.length ≤ 480)
theorem VV.s {A : AS} (h : VV A) : vSP A.1 := h.1
theorem VV.r {A : AS} (h : VV A) : 0 < A.1.nh → vRU A.1 A.2.1 := h.2.1
theorem VV.e {A : AS} (h : VV A) : vNE A.1 A.2.2.1 := h.2.2.1
theorem VV.z {A : AS} (h : VV A) : A.1.nh = 0 → A.2.2.1 = emE ∧ A.2.2.2.1 = 0 ∧ A.1.nw = 0 := h.2.2.2.1
theorem VV.p {A : AS} (h : VV A) : vAC A.1 A.2.2.2.1 A.2.2.2.2.1 := h.2.2.2.2.1
theorem VV.t {A : AS} (h : VV A) : A.2.2.2.2.2.1 ≤ 600 ∧ ∀ i, i < A.2.2.2.2.2.1 → A.2.2.2.2.2.2.1 i < 256 := h.2.2.2.2.2.1
theorem VV.w {A : AS} (h : VV A) : A.2.2.2.2.2.2.2.1.length ≤ 480 := h.2.2.2.2.2.2
theorem VV.mk {A : AS} (s : vSP A.1) (r : 0 < A.1.nh → vRU A.1 A.2.1) (e : vNE A.1 A.2.2.1) (z : A.1.nh = 0 → A.2.2.1 = emE ∧ A.2.2.2.1 = 0 ∧ A.1.nw = 0) (p : vAC A.1 A.2.2.2.1 A.2.2.2.2.1) (t : A.2.2.2.2.2.1 ≤ 600 ∧ ∀ i, i < A.2.2.2.2.2.1 → A.2.2.2.2.2.2.1 i < 256) (w : A.2.2.2.2.2.2.2.1.length ≤ 480) : VV A := ⟨s, r, e, z, p, t, w⟩
def CC (σ : ST) (A : AS) : Prop := (cSP σ 0 A.1) ∧ (0 < A.1.nh → cRU σ 0 A.1 A.2.1) ∧ (cNE σ 0 A.2.2.1) ∧ (cAC σ A.1 A.2.2.2.1 A.2.2.2.2.1) ∧ (cFA σ A.1) ∧ (cNE σ 2 emE) ∧ (σ.1 4 0 2 0 = 0 ∨ (σ.1 4 0 2 0 = 1 ∧ 0 < A.1.nh ∧ cKN σ A.1 A.2.1)) ∧ (σ.1 10 0 16 0 = nI A.2.2.2.2.2.1 ∧ ∀ i, i < A.2.2.2.2.2.1 → σ.1 10 0 1 i = nI (A.2.2.2.2.2.2.1 i)) ∧ (cWR σ A.2.2.2.2.2.2.2.1) ∧ (σ.1 10 0 18 0 = A.2.2.2.2.2.2.2.2.1 ∧ σ.1 10 0 19 0 = A.2.2.2.2.2.2.2.2.2.1 ∧ σ.1 10 0 20 0 = A.2.2.2.2.2.2.2.2.2.2)
theorem CC.s {σ : ST} {A : AS} (h : CC σ A) : cSP σ 0 A.1 := h.1
theorem CC.r {σ : ST} {A : AS} (h : CC σ A) : 0 < A.1.nh → cRU σ 0 A.1 A.2.1 := h.2.1
theorem CC.e {σ : ST} {A : AS} (h : CC σ A) : cNE σ 0 A.2.2.1 := h.2.2.1
theorem CC.p {σ : ST} {A : AS} (h : CC σ A) : cAC σ A.1 A.2.2.2.1 A.2.2.2.2.1 := h.2.2.2.1
theorem CC.f {σ : ST} {A : AS} (h : CC σ A) : cFA σ A.1 := h.2.2.2.2.1
theorem CC.o {σ : ST} {A : AS} (h : CC σ A) : cNE σ 2 emE := h.2.2.2.2.2.1
theorem CC.k {σ : ST} {A : AS} (h : CC σ A) : σ.1 4 0 2 0 = 0 ∨ (σ.1 4 0 2 0 = 1 ∧ 0 < A.1.nh ∧ cKN σ A.1 A.2.1) := h.2.2.2.2.2.2.1
theorem CC.t {σ : ST} {A : AS} (h : CC σ A) : σ.1 10 0 16 0 = nI A.2.2.2.2.2.1 ∧ ∀ i, i < A.2.2.2.2.2.1 → σ.1 10 0 1 i = nI (A.2.2.2.2.2.2.1 i) := h.2.2.2.2.2.2.2.1
theorem CC.w {σ : ST} {A : AS} (h : CC σ A) : cWR σ A.2.2.2.2.2.2.2.1 := h.2.2.2.2.2.2.2.2.1
theorem CC.m {σ : ST} {A : AS} (h : CC σ A) : σ.1 10 0 18 0 = A.2.2.2.2.2.2.2.2.1 ∧ σ.1 10 0 19 0 = A.2.2.2.2.2.2.2.2.2.1 ∧ σ.1 10 0 20 0 = A.2.2.2.2.2.2.2.2.2.2 := h.2.2.2.2.2.2.2.2.2
theorem CC.mk {σ : ST} {A : AS} (s : cSP σ 0 A.1) (r : 0 < A.1.nh → cRU σ 0 A.1 A.2.1) (e : cNE σ 0 A.2.2.1) (p : cAC σ A.1 A.2.2.2.1 A.2.2.2.2.1) (f : cFA σ A.1) (o : cNE σ 2 emE) (k : σ.1 4 0 2 0 = 0 ∨ (σ.1 4 0 2 0 = 1 ∧ 0 < A.1.nh ∧ cKN σ A.1 A.2.1)) (t : σ.1 10 0 16 0 = nI A.2.2.2.2.2.1 ∧ ∀ i, i < A.2.2.2.2.2.1 → σ.1 10 0 1 i = nI (A.2.2.2.2.2.2.1 i)) (w : cWR σ A.2.2.2.2.2.2.2.1) (m : σ.1 10 0 18 0 = A.2.2.2.2.2.2.2.2.1 ∧ σ.1 10 0 19 0 = A.2.2.2.2.2.2.2.2.2.1 ∧ σ.1 10 0 20 0 = A.2.2.2.2.2.2.2.2.2.2) : CC σ A := ⟨s, r, e, p, f, o, k, t, w, m⟩
def MM (σ : ST) (A : AS) : Prop := (mSP σ A.1) ∧ (0 < A.1.nh → mRU (σ.1 11 0 27) A.1 A.2.1) ∧ (0 < A.1.nh → mNE (σ.1 11 0 27) A.2.2.1) ∧ (mAC σ A.1 A.2.2.2.1 A.2.2.2.2.1) ∧ (σ.1 11 0 5 0 = nI A.2.2.2.2.2.1 ∧ ∀ i, i < A.2.2.2.2.2.1 → σ.1 11 0 4 i = nI (A.2.2.2.2.2.2.1 i)) ∧ (mWR σ A.2.2.2.2.2.2.2.1) ∧ (σ.1 11 0 2 0 = A.2.2.2.2.2.2.2.2.1 ∧ σ.1 11 0 8 0 = A.2.2.2.2.2.2.2.2.2.1 ∧ σ.1 11 0 3 0 = A.2.2.2.2.2.2.2.2.2.2)
theorem MM.s {σ : ST} {A : AS} (h : MM σ A) : mSP σ A.1 := h.1
theorem MM.r {σ : ST} {A : AS} (h : MM σ A) : 0 < A.1.nh → mRU (σ.1 11 0 27) A.1 A.2.1 := h.2.1
theorem MM.e {σ : ST} {A : AS} (h : MM σ A) : 0 < A.1.nh → mNE (σ.1 11 0 27) A.2.2.1 := h.2.2.1
theorem MM.p {σ : ST} {A : AS} (h : MM σ A) : mAC σ A.1 A.2.2.2.1 A.2.2.2.2.1 := h.2.2.2.1
theorem MM.t {σ : ST} {A : AS} (h : MM σ A) : σ.1 11 0 5 0 = nI A.2.2.2.2.2.1 ∧ ∀ i, i < A.2.2.2.2.2.1 → σ.1 11 0 4 i = nI (A.2.2.2.2.2.2.1 i) := h.2.2.2.2.1
theorem MM.w {σ : ST} {A : AS} (h : MM σ A) : mWR σ A.2.2.2.2.2.2.2.1 := h.2.2.2.2.2.1
theorem MM.m {σ : ST} {A : AS} (h : MM σ A) : σ.1 11 0 2 0 = A.2.2.2.2.2.2.2.2.1 ∧ σ.1 11 0 8 0 = A.2.2.2.2.2.2.2.2.2.1 ∧ σ.1 11 0 3 0 = A.2.2.2.2.2.2.2.2.2.2 := h.2.2.2.2.2.2
theorem MM.mk {σ : ST} {A : AS} (s : mSP σ A.1) (r : 0 < A.1.nh → mRU (σ.1 11 0 27) A.1 A.2.1) (e : 0 < A.1.nh → mNE (σ.1 11 0 27) A.2.2.1) (p : mAC σ A.1 A.2.2.2.1 A.2.2.2.2.1) (t : σ.1 11 0 5 0 = nI A.2.2.2.2.2.1 ∧ ∀ i, i < A.2.2.2.2.2.1 → σ.1 11 0 4 i = nI (A.2.2.2.2.2.2.1 i)) (w : mWR σ A.2.2.2.2.2.2.2.1) (m : σ.1 11 0 2 0 = A.2.2.2.2.2.2.2.2.1 ∧ σ.1 11 0 8 0 = A.2.2.2.2.2.2.2.2.2.1 ∧ σ.1 11 0 3 0 = A.2.2.2.2.2.2.2.2.2.2) : MM σ A := ⟨s, r, e, p, t, w, m⟩
/-- what the calls of the class leave alone; what those of the reference do -/
def frC (σ τ : ST) : Prop := ∀ c k j, 11 ≤ c → τ.1 c k j = σ.1 c k j ∧ τ.2 c k j = σ.2 c k j
def frM (σ τ : ST) : Prop := ∀ c k j, c ≠ 11 → τ.1 c k j = σ.1 c k j ∧ τ.2 c k j = σ.2 c k j
theorem frC_rf (σ : ST) : frC σ σ := fun _ _ _ _ => ⟨rfl, rfl⟩
theorem frM_rf (σ : ST) : frM σ σ := fun _ _ _ _ => ⟨rfl, rfl⟩
theorem frC_tr {σ τ υ : ST} (h : frC σ τ) (h2 : frC τ υ) : frC σ υ := fun c k j q => ⟨(h2 c k j q).1.trans (h c k j q).1, (h2 c k j q).2.trans (h c k j q).2⟩
theorem frM_tr {σ τ υ : ST} (h : frM σ τ) (h2 : frM τ υ) : frM σ υ := fun c k j q => ⟨(h2 c k j q).1.trans (h c k j q).1, (h2 c k j q).2.trans (h c k j q).2⟩
theorem frC_off {L : List RF} {σ τ : ST} (h : off L σ τ) (hL : ∀ r ∈ L, r.1 < 11) : frC σ τ := fun c k j q => h c k j (fun z => by have := hL _ z; simp only at this; omega)
theorem frM_off {L : List RF} {σ τ : ST} (h : off L σ τ) (hL : ∀ r ∈ L, r.1 = 11) : frM σ τ := fun c k j q => h c k j (fun z => q (hL _ z))
theorem frC_uI {σ : ST} {c k j i : Nat} {x : Int32} (h : c < 11) : frC σ (uI σ c k j i x) := fun c' k' j' q => uI_off σ c k j i x c' k' j' (by omega)
theorem frM_uI {σ : ST} {k j i : Nat} {x : Int32} : frM σ (uI σ 11 k j i x) := fun c' k' j' q => uI_off σ 11 k j i x c' k' j' (by omega)
theorem cAC_eq {σ τ : ST} {S : SPc} {c : Nat} {P : PAc} (h0 : ∀ j, τ.1 0 0 j = σ.1 0 0 j) (a : cAC σ S c P) : cAC τ S c P := by
  unfold cAC at *
  simp only [h0]
  exact a
theorem cKN_eq {σ τ : ST} {S : SPc} {R : RUc} (h : ∀ j, τ.1 4 0 j = σ.1 4 0 j) (c : cKN σ S R) : cKN τ S R := by unfold cKN at *; simp only [h]; exact c
theorem cWR_eq {σ τ : ST} {l : List Nat} (h2 : τ.1 10 0 2 = σ.1 10 0 2) (h17 : τ.1 10 0 17 = σ.1 10 0 17) (c : cWR σ l) : cWR τ l := by unfold cWR at *; rw [h2, h17]; exact c
theorem CC_fr {σ τ : ST} {A : AS} (h : frM σ τ) (c : CC σ A) : CC τ A := by
  refine CC.mk ?_ ?_ ?_ ?_ ?_ ?_ ?_ ?_ ?_ ?_
  · exact cSP_eq (fun j => (h 8 0 j (by omega)).1) c.s
  · exact fun q => cRU_eq (fun j => (h 7 0 j (by omega)).1) (c.r q)
  · exact cNE_eq (fun j => (h 3 0 j (by omega)).1) c.e
  · exact cAC_eq (fun j => (h 0 0 j (by omega)).1) c.p
  · exact cFA_eq (h 2 0 3 (by omega)).1 c.f
  · exact cNE_eq (fun j => (h 3 2 j (by omega)).1) c.o
  · rw [(h 4 0 2 (by omega)).1]
    rcases c.k with z | z
    · exact Or.inl z
    · exact Or.inr ⟨z.1, z.2.1, cKN_eq (fun j => (h 4 0 j (by omega)).1) z.2.2⟩
  · rw [(h 10 0 16 (by omega)).1, (h 10 0 1 (by omega)).1]; exact c.t
  · exact cWR_eq (h 10 0 2 (by omega)).1 (h 10 0 17 (by omega)).1 c.w
  · rw [(h 10 0 18 (by omega)).1, (h 10 0 19 (by omega)).1, (h 10 0 20 (by omega)).1]; exact c.m
theorem mSP_eq {σ τ : ST} {S : SPc} (h1 : ∀ j, τ.1 11 0 j = σ.1 11 0 j) (h2 : ∀ j, τ.2 11 0 j = σ.2 11 0 j) (c : mSP σ S) : mSP τ S := by unfold mSP at *; simp only [h1, h2]; exact c
theorem MM_fr {σ τ : ST} {A : AS} (h : frC σ τ) (c : MM σ A) : MM τ A := by
  refine MM.mk ?_ ?_ ?_ ?_ ?_ ?_ ?_
  · exact mSP_eq (fun j => (h 11 0 j (by omega)).1) (fun j => (h 11 0 j (by omega)).2) c.s
  · exact fun q => by rw [(h 11 0 27 (by omega)).1]; exact c.r q
  · exact fun q => by rw [(h 11 0 27 (by omega)).1]; exact c.e q
  · have := c.p
    unfold mAC at *
    rw [(h 11 0 30 (by omega)).1, (h 11 0 29 (by omega)).1]
    exact this
  · rw [(h 11 0 5 (by omega)).1, (h 11 0 4 (by omega)).1]; exact c.t
  · have := c.w
    unfold mWR at *
    rw [(h 11 0 48 (by omega)).1, (h 11 0 47 (by omega)).1]
    exact this
  · rw [(h 11 0 2 (by omega)).1, (h 11 0 8 (by omega)).1, (h 11 0 3 (by omega)).1]; exact c.m
/-- rows of the class that bear nothing -/
abbrev scC (r : RF) : Prop := r.1 = 1 ∨ r.1 = 2 ∨ r.1 = 5 ∨ r.1 = 6 ∨ r.1 = 9 ∨ (r.1 = 3 ∧ r.2.1 = 1) ∨ (r.1 = 3 ∧ 3 ≤ r.2.1) ∨ (r.1 = 10 ∧ (r.2.2 = 3 ∨ r.2.2 = 4)) ∨ (r.1 = 8 ∧ r.2.1 = 1)
theorem CC_of {L : List RF} {σ τ : ST} {A : AS} (h : off L σ τ) (hL : ∀ r ∈ L, scC r) (hf : cFA τ A.1) (c : CC σ A) : CC τ A := by
  refine CC.mk ?_ ?_ ?_ ?_ ?_ ?_ ?_ ?_ ?_ ?_
  · exact cSP_eq (fun j => (h 8 0 j (fun z => by have := hL _ z; unfold scC at this; simp only at this; omega)).1) c.s
  · exact fun q => cRU_eq (fun j => (h 7 0 j (fun z => by have := hL _ z; unfold scC at this; simp only at this; omega)).1) (c.r q)
  · exact cNE_eq (fun j => (h 3 0 j (fun z => by have := hL _ z; unfold scC at this; simp only at this; omega)).1) c.e
  · exact cAC_eq (fun j => (h 0 0 j (fun z => by have := hL _ z; unfold scC at this; simp only at this; omega)).1) c.p
  · exact hf
  · exact cNE_eq (fun j => (h 3 2 j (fun z => by have := hL _ z; unfold scC at this; simp only at this; omega)).1) c.o
  · have h4 : ∀ j, τ.1 4 0 j = σ.1 4 0 j := fun j => (h 4 0 j (fun z => by have := hL _ z; unfold scC at this; simp only at this; omega)).1
    rw [h4 2]
    rcases c.k with z | z
    · exact Or.inl z
    · exact Or.inr ⟨z.1, z.2.1, cKN_eq h4 z.2.2⟩
  · rw [(h 10 0 16 (fun z => by have := hL _ z; unfold scC at this; simp only at this; omega)).1, (h 10 0 1 (fun z => by have := hL _ z; unfold scC at this; simp only at this; omega)).1]; exact c.t
  · exact cWR_eq (h 10 0 2 (fun z => by have := hL _ z; unfold scC at this; simp only at this; omega)).1 (h 10 0 17 (fun z => by have := hL _ z; unfold scC at this; simp only at this; omega)).1 c.w
  · rw [(h 10 0 18 (fun z => by have := hL _ z; unfold scC at this; simp only at this; omega)).1, (h 10 0 19 (fun z => by have := hL _ z; unfold scC at this; simp only at this; omega)).1, (h 10 0 20 (fun z => by have := hL _ z; unfold scC at this; simp only at this; omega)).1]; exact c.m
/-- .. where FAR isn't touched -/
theorem CC_o2 {L : List RF} {σ τ : ST} {A : AS} (h : off L σ τ) (hL : ∀ r ∈ L, scC r) (h2 : (2, 0, 3) ∉ L) (c : CC σ A) : CC τ A := CC_of h hL (cFA_eq (h 2 0 3 h2).1 c.f) c
abbrev scM (r : RF) : Prop := r.1 = 11 ∧ (r.2.2 = 1 ∨ r.2.2 = 6 ∨ r.2.2 = 7 ∨ (9 ≤ r.2.2 ∧ r.2.2 ≤ 16) ∨ (18 ≤ r.2.2 ∧ r.2.2 ≤ 20) ∨ r.2.2 = 24 ∨ r.2.2 = 28 ∨ (31 ≤ r.2.2 ∧ r.2.2 ≤ 46))
theorem MM_of {L : List RF} {σ τ : ST} {A : AS} (h : off L σ τ) (hL : ∀ r ∈ L, scM r) (c : MM σ A) : MM τ A := by
  have k : ∀ j, (j = 2 ∨ j = 3 ∨ j = 4 ∨ j = 5 ∨ j = 8 ∨ j = 17 ∨ j = 21 ∨ j = 22 ∨ j = 23 ∨ j = 25 ∨ j = 26 ∨ j = 27 ∨ j = 29 ∨ j = 30 ∨ j = 47 ∨ j = 48) → τ.1 11 0 j = σ.1 11 0 j ∧ τ.2 11 0 j = σ.2 11 0 j := fun j hj => h 11 0 j (fun z => by have := hL _ z; unfold scM at this; simp only at this; omega)
  refine ⟨?_, fun q => ?_, fun q => ?_, ?_, ?_, ?_, ?_⟩
  · have := c.s
    unfold mSP at *
    rw [(k 25 (by omega)).1, (k 26 (by omega)).1, (k 21 (by omega)).1, (k 22 (by omega)).1, (k 23 (by omega)).1, (k 17 (by omega)).2]
    exact this
  · rw [(k 27 (by omega)).1]; exact c.r q
  · rw [(k 27 (by omega)).1]; exact c.e q
  · have := c.p
    unfold mAC at *
    rw [(k 30 (by omega)).1, (k 29 (by omega)).1]
    exact this
  · rw [(k 5 (by omega)).1, (k 4 (by omega)).1]; exact c.t
  · have := c.w
    unfold mWR at *
    rw [(k 48 (by omega)).1, (k 47 (by omega)).1]
    exact this
  · rw [(k 2 (by omega)).1, (k 8 (by omega)).1, (k 3 (by omega)).1]; exact c.m
def AS.tp (A : AS) (x y : Int32) : AS := ⟨A.1, A.2.1, A.2.2.1, A.2.2.2.1, A.2.2.2.2.1, A.2.2.2.2.2.1, A.2.2.2.2.2.2.1, A.2.2.2.2.2.2.2.1, x, A.2.2.2.2.2.2.2.2.2.1, y⟩
theorem VV_tp {A : AS} (v : VV A) (x y : Int32) : VV (A.tp x y) := ⟨v.s, v.r, v.e, v.z, v.p, v.t, v.w⟩
theorem CC_tp {σ : ST} {A : AS} (c : CC σ A) (x y : Int32) : CC (uI (uI σ 10 0 18 0 x) 10 0 20 0 y) (A.tp x y) := by
  have ho : off [(10, 0, 18), (10, 0, 20)] σ (uI (uI σ 10 0 18 0 x) 10 0 20 0 y) := off_uI (off_uI (off_rf _ _) (by decide)) (by decide)
  have k : ∀ c' k' j', (c' ≠ 10 ∨ (j' ≠ 18 ∧ j' ≠ 20)) → (uI (uI σ 10 0 18 0 x) 10 0 20 0 y).1 c' k' j' = σ.1 c' k' j' := fun c' k' j' q => (ho c' k' j' (fun z => by simp at z; omega)).1
  refine ⟨cSP_eq (fun j => k 8 0 j (by omega)) c.s, fun q => cRU_eq (fun j => k 7 0 j (by omega)) (c.r q), cNE_eq (fun j => k 3 0 j (by omega)) c.e, cAC_eq (fun j => k 0 0 j (by omega)) c.p, cFA_eq (k 2 0 3 (by omega)) c.f, cNE_eq (fun j => k 3 2 j (by omega)) c.o, ?_, ?_, cWR_eq (k 10 0 2 (by omega)) (k 10 0 17 (by omega)) c.w, ?_⟩
  · rw [k 4 0 2 (by omega)]
    rcases c.k with z | z
    · exact Or.inl z
    · exact Or.inr ⟨z.1, z.2.1, cKN_eq (fun j => k 4 0 j (by omega)) z.2.2⟩
  · rw [k 10 0 16 (by omega), k 10 0 1 (by omega)]; exact c.t
  · refine ⟨?_, ?_, ?_⟩
    · rw [uI_nr _ _ _ _ _ _ (by decide), uI_at]; rfl
    · rw [k 10 0 19 (by omega)]; exact c.m.2.1
    · rw [uI_at]; rfl
theorem MM_tp {σ : ST} {A : AS} (c : MM σ A) (x y : Int32) : MM (uI (uI σ 11 0 2 0 x) 11 0 3 0 y) (A.tp x y) := by
  have ho : off [(11, 0, 2), (11, 0, 3)] σ (uI (uI σ 11 0 2 0 x) 11 0 3 0 y) := off_uI (off_uI (off_rf _ _) (by decide)) (by decide)
  have k : ∀ j', (j' ≠ 2 ∧ j' ≠ 3) → (uI (uI σ 11 0 2 0 x) 11 0 3 0 y).1 11 0 j' = σ.1 11 0 j' := fun j' q => (ho 11 0 j' (fun z => by simp at z; omega)).1
  refine ⟨?_, fun q => ?_, fun q => ?_, ?_, ?_, ?_, ?_⟩
  · have := c.s
    unfold mSP at *
    rw [k 25 (by omega), k 26 (by omega), k 21 (by omega), k 22 (by omega), k 23 (by omega)]
    exact this
  · rw [k 27 (by omega)]; exact c.r q
  · rw [k 27 (by omega)]; exact c.e q
  · have := c.p
    unfold mAC at *
    rw [k 30 (by omega), k 29 (by omega)]
    exact this
  · rw [k 5 (by omega), k 4 (by omega)]; exact c.t
  · have := c.w
    unfold mWR at *
    rw [k 48 (by omega), k 47 (by omega)]
    exact this
  · refine ⟨?_, ?_, ?_⟩
    · rw [uI_nr _ _ _ _ _ _ (by decide), uI_at]; rfl
    · rw [k 8 (by omega)]; exact c.m.2.1
    · rw [uI_at]; rfl
theorem frC_tp {σ : ST} {x y : Int32} : frC σ (uI (uI σ 10 0 18 0 x) 10 0 20 0 y) := frC_tr (frC_uI (by omega)) (frC_uI (by omega))
theorem frM_tp {σ : ST} {x y : Int32} : frM σ (uI (uI σ 11 0 2 0 x) 11 0 3 0 y) := frM_tr frM_uI frM_uI
/-- answers: refused, good -/
def reA (A : AS) (n : Int) : Int32 × AS := (-1, A.tp (Int32.ofInt n) (-1))
def goA (A : AS) (x : Int32) : Int32 × AS := (x, A.tp 0 (-1))
abbrev H10 : Option AV := some (.inr (.inr (10, 0, 0)))
abbrev H11 : Option AV := some (.inr (.inr (11, 0, 0)))
abbrev iA (x : Int32) : Option AV := some (.inl x)
/-- the reference begins each call so -/
theorem MM_th {σ : ST} {A : AS} (c : MM σ A) (x : Int32) : MM (uI σ 11 0 1 0 x) A := MM_of (L := [(11, 0, 1)]) (off_uI (off_rf _ _) (by decide)) (by decide) c
theorem off_th {σ : ST} (x : Int32) : off [(11, 0, 1)] σ (uI σ 11 0 1 0 x) := off_uI (off_rf _ _) (by decide)
