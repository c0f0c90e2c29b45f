/-! the claim: steps and walk -/
theorem stp_all {k : Nat} {M : Mem} (hk : k + 1 ≤ 512) (I : Inv k M) : StpN 699 M (InvL (k + 1)) := by
  have up : ∀ M', Inv (k + 1) M' → InvL (k + 1) M' := fun M' z => ⟨hk, z⟩
  have hk0 : k ≤ 512 := by omega
  exact ⟨fun _ _ _ _ _ => (A_feed (h := 469) hk0 I).n.up up,
    fun _ => (A_end (h := 469) hk0 I).n.up up,
    (A_compile (h := 469) hk0 I).n.up up,
    (A_fault (h := 469) I).n.up up,
    fun _ _ => (A_module (h := 469) I).n.up up,
    fun _ _ => (A_part (h := 469) I).n.up up,
    fun _ => (A_governor (h := 469) hk0 I).n.up up,
    fun _ _ _ _ => (N_give (h := 469) hk0 I).up up,
    fun _ => (N_beat (h := 469) hk0 I).up up,
    fun _ _ => (N_present (h := 469) I).up up,
    fun _ _ => (N_value (h := 469) I).up up,
    fun _ _ => (N_variable (h := 469) I).up up,
    fun _ _ _ => (N_wire (h := 469) I).up up,
    fun _ _ => (N_told (h := 469) I).up up,
    fun _ _ => (N_paused (h := 469) I).up up,
    fun _ => (A_keep (h := 469) hk0 I).n.up up,
    fun _ => (A_back (h := 469) hk0 I).n.up up,
    fun _ _ => (N_same (h := 469) I).up up,
    fun _ => (A_search (h := 469) hk0 I).n.up up,
    fun _ _ _ _ => (A_move (h := 469) hk0 I).n.up up,
    fun _ _ => (A_classOf (h := 469) hk0 I).n.up up,
    fun _ _ _ => (A_way (h := 469) hk0 I).n.up up,
    fun _ _ => (A_never (h := 469) hk0 I).n.up up,
    fun _ _ _ => (A_always (h := 469) hk0 I).n.up up,
    fun _ => (A_against (h := 469) I).up up,
    fun _ => (A_count (h := 469) I).n.up up,
    (A_clear (h := 469) hk0 I).n.up up⟩
theorem cl_walk {L : Nat} {xs : Nat → Int32} (hL : L ≤ 3072) : T 700 (mdL L xs) 0 [(0, .ref (mBig + 0))] [] mem0 (fun r M' => r = some (.int 1) ∧ mN M' ≤ 600000 ∧ mS M' ≤ 7302250) := by
  refine law_start (h := 691) (fun M hM => ?_)
  exact law_all (h := 699) (I := InvL) (by omega) (fun k M h => h.b.1) (fun k M h => ⟨rfl, h.b.2⟩) (fun k M hk h => ⟨stp_all (by omega) h.2, by omega, h.2.up⟩) L 0 M (by omega) (by omega) ⟨by omega, inv_0 hM⟩
