/-! from a walk of the law over the abstract memory to the walk that the claim wants -/
def R_law : String := "BeatMillLaw"
def lw_Q (_ : Array Value) (s : State) (o : Outcome) (t : State) : Prop := o = .returned (some (.int 1)) ∧ Framed s o t [] 600000 7302250
def lw_Z (below : List Frame) (a : Array Value) (s : State) : State → Prop := fun t => ∃ o, t.status = .running ∧ Ended t below o ∧ lw_Q a s o t
def lw_At (p : Program) (s : State) (m : MethodId) (meth : Method) (c : Code) (b L : Nat) (xs : Nat → Int32) : Prop :=
  p.tables.exec = Jvm.exec ∧ c.code = code ∧ meth.sig.returnType = ret ∧ c.maxLocals = 4 ∧ s.vm.findClass R_law = some m.cls ∧ (∀ w ∈ lw_tbl, w.before #[Value.ref b] s = true) ∧ va_X b L xs s s.heap ∧ b < s.heap.size ∧ meth.locks = false ∧ (Jvm.Cond.and given_1 narrow_1).before #[Value.ref b] s = true
def mem0 : Mem := (0, 0, fun _ => 0, fun _ _ => 0, fun _ _ => 0, fun _ _ => none, fun _ => 0, fun _ _ => 0, fun _ _ => 0, fun _ _ => none)
theorem room_less {s : State} {pl : Platform} {r r' : Room} (hf : r.frames ≤ r'.frames) (hl : r.locals ≤ r'.locals) (hc : r.cells ≤ r'.cells) (hs : r.slots ≤ r'.slots) (h : s.hasRoom pl r' = true) : s.hasRoom pl r = true := by
  simp only [State.hasRoom, Bool.and_eq_true, decide_eq_true_eq] at h ⊢
  refine ⟨⟨⟨⟨?_, ?_⟩, ?_⟩, ?_⟩, ?_⟩ <;> first | omega | exact h.2 | (obtain ⟨⟨⟨⟨-, h2⟩, -⟩, -⟩, -⟩ := h; obtain ⟨a, b, c, d, e⟩ := h2; exact ⟨by omega, by omega, by omega, by omega, e⟩)
theorem law_top {p : Program} {e : Env} {s : State} {m : MethodId} {below : List Frame} {meth : Method} {c : Code} (l : Launch) {b L : Nat} {xs : Nat → Int32} (C0 : lw_At p s m meth c b L xs) (hnm : meth.name = "law")
    (hT : T 700 (mdL L xs) 0 [(0, .ref (mBig + 0))] [] mem0 (fun r M' => r = some (.int 1) ∧ mN M' ≤ 600000 ∧ mS M' ≤ 7302250)) : W p l e room_1 s m #[Value.ref b] below meth c s.heap [] 0 0 (lw_Z below #[Value.ref b] s) (entryFrame m ([Value.ref b] : List Value).toArray 4) := by
  obtain ⟨r, M', hv, hr1, hc9, hs9⟩ := hT
  subst hr1
  obtain ⟨hx, hb, hr, hml, hown, hts, hX, hbl, hlocks, hgv⟩ := id C0
  obtain ⟨D, cy, hK⟩ := K_of hts
  obtain ⟨sp, hsp0, hZ⟩ := SPH_of hts hgv
  have hl := lv_entry ([.ref b]) (n := 4) (Nat.le_of_ble_eq_true rfl)
  rw [lg_entry_eq]
  generalize (lg_sl ([.ref b]) ++ List.replicate (4 - (lg_sl ([.ref b])).length) Slot.unset).toArray = ls at hl ⊢
  have hl : lv_has ls 4 (lm (adf s.heap.size sp) [(0, .ref (mBig + 0))]) := by
    have e1 : lm (adf s.heap.size sp) [(0, .ref (mBig + 0))] = [(0, .ref b)] := by
      show [(0, Value.ref (adf s.heap.size sp (mBig + 0)))] = _
      rw [adf_sp, hsp0]
    rw [e1]
    exact hl
  have hnw : ∀ w ∈ NWL, va_Nw w s := by
    intro w hw
    have h1 := hts w (List.mem_filter.mp hw).1
    have h2 := (List.mem_filter.mp hw).2
    cases w <;> first | (simp [nwWord] at h2; done) | exact va_Nw.of rfl h1
  have w := hv.2 (by unfold mBig; omega) p l e s m #[Value.ref b] below meth c D cy (fun q => s.heap.size ≤ q) mem0 s.heap.size sp s.heap [] ls
    ⟨hx, hb, hml, hown, hr, hlocks, hnm, fun w hw => hts w (List.mem_filter.mp hw).1, hK, fun _ h => h, rfl, ⟨hnw, hZ⟩, fun _ h => h, by show va_X (sp 0) L xs s s.heap ∧ ¬ (s.heap.size ≤ sp 0) ∧ sp 0 < s.heap.size; rw [hsp0]; exact ⟨hX, Nat.not_le.mpr hbl, hbl⟩⟩
    ⟨Nat.le_refl _, Nat.le_refl _⟩ (fun k q h => by simp [mW, mem0, mN] at h) ⟨fun i j p q h => by simp [mW, mem0, mN] at h, fun k q h => by simp [mW, mem0, mN] at h⟩ va_S.rf hl
  intro T0 hT0 X
  have X2 : Stand p l e (rmv 700 (mN M' - mN mem0) (mS M' - mS mem0)) s m #[Value.ref b] below meth c T0 [] (mN mem0 - mN mem0) (mS mem0 - mS mem0) :=
    ⟨X.admits, X.cas, X.clock, X.frames, room_less (by show 700 ≤ 2048; decide) (by show 120 * 700 ≤ 84000; decide) (by show mN M' - 0 ≤ 600000; omega) (by show mS M' - 0 ≤ 7302250; omega) X.room, X.hears, X.method, X.code, X.here, X.tail, X.warmed, X.limits, X.bytes, X.same⟩
  obtain ⟨t, a1, o, b1, b2, b3, L9, b4, b5⟩ := w T0 hT0 X2
  refine ⟨t, a1, o, b1, b2, b3.1.1, b4.1, b4.2.1, ?_⟩
  exact State.sameButNew.weaken b4.2.2 (fun x hx1 hx2 => absurd (b5 x hx1) (Nat.not_le.mpr hx2)) (by show mN M' - 0 ≤ 600000; omega) (by show mS M' - 0 ≤ 7302250; omega)
