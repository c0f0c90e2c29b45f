/-! the class's nets as equations; a valuation made of a solution of the reference -/
def FcN (N : Nt) (tb : Nat → Bool) (tv : Nat → Nat) (v : Nat → Nat) (n : Nat) : Nat := if n < N.length then (if tb n = true then tv n else v3A (lvN v (N.getD n (0, 0)).1) (lvN v (N.getD n (0, 0)).2)) else 2
theorem FcN_mo {N : Nt} {tb : Nat → Bool} {tv : Nat → Nat} : MoF (FcN N tb tv) := by
  intro v w h n
  unfold FcN
  exact if_mo (fun _ => if_mo (fun _ => lq3.rf) (fun _ => v3A_mo (lvN_mo h) (lvN_mo h))) (fun _ => lq3.rf)
/-- and-nets from below, all others as told -/
def wF (N : Nt) (Ro : List (Nat × Nat)) (bs : Nat → Nat) : Nat → Nat → Nat
  | 0, n => bs n
  | k + 1, n => if n < N.length ∧ (Ro.getD n (0, 0)).1 = 0 then v3A (lvN (wF N Ro bs k) (N.getD n (0, 0)).1) (lvN (wF N Ro bs k) (N.getD n (0, 0)).2) else bs n
def wV (N : Nt) (Ro : List (Nat × Nat)) (bs : Nat → Nat) (n : Nat) : Nat := wF N Ro bs (n + 1) n
section
variable {N : Nt} {Ro : List (Nat × Nat)} {bs : Nat → Nat}
theorem lvN_cg {v w : Nat → Nat} {l : Nat} (h : v (l / 2) = w (l / 2)) : lvN v l = lvN w l := by unfold lvN; rw [h]
theorem wF_st (hR : ∀ n, n < N.length → (Ro.getD n (0, 0)).1 = 0 → (N.getD n (0, 0)).1 < 2 * n ∧ (N.getD n (0, 0)).2 < 2 * n) : ∀ (b n k : Nat), n < b → n < k → wF N Ro bs k n = wV N Ro bs n := by
  intro b
  induction b with
  | zero => intro n k h; exact absurd h (Nat.not_lt_zero _)
  | succ b ih =>
    intro n k hb hk
    cases k with
    | zero => exact absurd hk (Nat.not_lt_zero _)
    | succ k =>
      show (if n < N.length ∧ (Ro.getD n (0, 0)).1 = 0 then _ else bs n) = (if n < N.length ∧ (Ro.getD n (0, 0)).1 = 0 then _ else bs n)
      by_cases z : n < N.length ∧ (Ro.getD n (0, 0)).1 = 0
      · rw [if_pos z, if_pos z]
        obtain ⟨q1, q2⟩ := hR n z.1 z.2
        have e1 : lvN (wF N Ro bs k) (N.getD n (0, 0)).1 = lvN (wF N Ro bs n) (N.getD n (0, 0)).1 := lvN_cg ((ih _ k (by omega) (by omega)).trans (ih _ n (by omega) (by omega)).symm)
        have e2 : lvN (wF N Ro bs k) (N.getD n (0, 0)).2 = lvN (wF N Ro bs n) (N.getD n (0, 0)).2 := lvN_cg ((ih _ k (by omega) (by omega)).trans (ih _ n (by omega) (by omega)).symm)
        rw [e1, e2]
      · rw [if_neg z, if_neg z]
theorem wV_an (hR : ∀ n, n < N.length → (Ro.getD n (0, 0)).1 = 0 → (N.getD n (0, 0)).1 < 2 * n ∧ (N.getD n (0, 0)).2 < 2 * n) (n : Nat) (hn : n < N.length) (r0 : (Ro.getD n (0, 0)).1 = 0) : wV N Ro bs n = v3A (lvN (wV N Ro bs) (N.getD n (0, 0)).1) (lvN (wV N Ro bs) (N.getD n (0, 0)).2) := by
  obtain ⟨q1, q2⟩ := hR n hn r0
  have e0 : wV N Ro bs n = v3A (lvN (wF N Ro bs n) (N.getD n (0, 0)).1) (lvN (wF N Ro bs n) (N.getD n (0, 0)).2) := by
    show (if n < N.length ∧ (Ro.getD n (0, 0)).1 = 0 then _ else bs n) = _
    rw [if_pos ⟨hn, r0⟩]
  rw [e0, lvN_cg (w := wV N Ro bs) (wF_st hR n _ n (by omega) (by omega)), lvN_cg (w := wV N Ro bs) (wF_st hR n _ n (by omega) (by omega))]
theorem wV_bs (n : Nat) (h : (Ro.getD n (0, 0)).1 ≠ 0) : wV N Ro bs n = bs n := by
  show (if n < N.length ∧ (Ro.getD n (0, 0)).1 = 0 then _ else bs n) = _
  rw [if_neg (fun z => h z.2)]
theorem wV_le (hb : ∀ n, bs n ≤ 2) (n : Nat) : wV N Ro bs n ≤ 2 := by
  show (if n < N.length ∧ (Ro.getD n (0, 0)).1 = 0 then _ else bs n) ≤ 2
  by_cases z : n < N.length ∧ (Ro.getD n (0, 0)).1 = 0
  · rw [if_pos z]; exact v3A_le _ _
  · rw [if_neg z]; exact hb n
end
/-! a module's nets and the tree -/
def cvW (P : Nat → Nat → Int32) (w : Nat → Nat) (c z : Nat) : Nat := lV w (P (22 + c) z)
def ckW (P : Nat → Nat → Int32) (w : Nat → Nat) (z n : Nat) : Nat := lV w (P 28 (z * 20 + n))
def coW (P : Nat → Nat → Int32) (w : Nat → Nat) (z : Nat) : Nat := lV w (P 26 z)
def ccW (Θ : TrT) (w : Nat → Nat) (z : Nat) : Nat := lV w (Θ.2.2 10 z)
def hvW (Θ : TrT) (HV : Int32 → Nat) (z : Nat) : Nat := HV (Θ.2.2 12 z)
section
variable (W : Wo) (R : RMo) (I : RIn) (Ψ : Wg) (P : Nat → Nat → Int32) (Θ : TrT) (L : List Nat) (tb : Nat → Bool) (tv : Nat → Nat)
def HVm (I : RIn) : Int32 → Nat := hvM (iSet I)
def clO (z : Nat) (w : Nat → Nat) : Nat := if (woV W z).1 = 6 then v3O (cvW P w 0 z) (ckW P w ((chV W z).getD 0 0) 0) else v3O (cvW P w 3 z) (ckW P w ((chV W z).getD 0 0) 2)
def NtK (n : Nat) : Prop :=
  ((Ψ.2.1.getD n (0, 0)).1 = 0 ∧ tb n = false)
  ∨ ((Ψ.2.1.getD n (0, 0)).1 ≠ 0 ∧ tb n = true ∧ tv n < 2 ∧ ∀ i, Ψ.2.1.getD n (0, 0) = (6, i) → tv n = HVm I (Ψ.2.2.getD i 0))
  ∨ (tb n = false ∧ ∃ t, t < moQ R ∧ moT R t ≠ 0 ∧ n = 2 + t ∧ Ψ.2.1.getD n (0, 0) = (3, t) ∧ ClQ Ψ n (fun w => emC (woV W) (cvW P w) t L 0))
  ∨ (tb n = false ∧ ∃ z, z ∈ L ∧ (((woV W z).1 = 6 ∧ Ψ.2.1.getD n (0, 0) = (7, z)) ∨ ((woV W z).1 = 9 ∧ Ψ.2.1.getD n (0, 0) = (8, z))) ∧ P 26 z = Int32.ofNat (2 * n) ∧ ClQ Ψ n (clO W P z))
def lokS (sv : Nat → Nat) (y : Nat) : Nat := if (moS R).2 80 y = 5 then iTr I ((moS R).2 81 y).toNatClampNeg else (cvL sv (iBf I) (moY R)).getD ((moA R 63 ((moS R).2 81 y).toNatClampNeg).toNatClampNeg - 410 * moM R) 0
/-- a valuation that goes with the and-nets and with what is told -/
def gT (w : Nat → Nat) : Prop := gW Ψ w (HVm I) ∧ ∀ n, n < Ψ.1.length → tb n = true → w n = tv n
def ClW (y0 x0 : Nat) : Prop := (RoW Ψ ∧ Ψ.1.length < 100000 ∧ 2 + moQ R ≤ Ψ.1.length) ∧ (∀ n, n < Ψ.1.length → NtK W R I Ψ P L tb tv n) ∧ (tb 0 = true ∧ tv 0 = 0) ∧ (∀ z, z ∈ L → OkR Ψ P z ∧ ((woV W z).1 = 6 ∨ (woV W z).1 = 9 → ∃ l, P 26 z = Int32.ofNat (2 * l) ∧ l < Ψ.1.length ∧ tb l = false ∧ Ψ.2.1.getD l (0, 0) = (if (woV W z).1 = 6 then 7 else 8, z))) ∧ (∀ w, gW Ψ w (HVm I) → ∀ z, z ∈ L → CEq (woV W) (hvW Θ (HVm I)) (cvW P w) (ckW P w) (coW P w) (ccW Θ w) z) ∧ (∀ w, gT I Ψ tb tv w → (∀ c, c ≤ 3 → cvW P w c x0 = rtV I c) ∧ ∀ d c, DsR W R y0 x0 d c → (woV W c).1 = 4 ∨ (woV W c).1 = 7 → lokS R I (fun s => w (2 + s)) d = ccW Θ w c) ∧ (∀ s, s < moQ R → moT R s = 0 → tb (2 + s) = true ∧ tv (2 + s) = iGv I s) ∧ (∀ s, s < moQ R → moT R s ≠ 0 → tb (2 + s) = false ∧ Ψ.2.1.getD (2 + s) (0, 0) = (3, s)) ∧ (∀ d, d ∈ moY R → d.1 = 0 → d.2.1 < moQ R)
/-- what is known of pairs -/
def PrK (y0 x0 : Nat) : Prop := ∀ d c, DsR W R y0 x0 d c → Θ.2.2 12 c = moK R d ∧ ((woV W c).1 = 3 → moN R d = (woV W c).2.2.1 ∧ ∃ v, v < moC R ∧ (woV W c).2.2.1 = Int32.ofNat v)
end
