/-! the end: every call keeps the relation -/
theorem rel_0 : Rel 0 S0 S0 := by
  show RelB 0 S0 S0
  refine ⟨⟨by decide, rfl, fun i a b => ?_⟩, ⟨by decide, rfl, fun j a b => ?_⟩, ⟨rfl, rfl, fun k _ _ => ⟨(by decide : (0 : Int) ≤ 0), (by decide : (0 : Int) < 65536)⟩⟩, ⟨0, 0, fun _ => 0, ⟨by decide, fun i a b => by omega, by decide, ⟨rfl, rfl, fun i a b => by omega⟩, ⟨rfl, rfl, fun i a b => by omega⟩, rfl, fun q => by omega, fun _ => ⟨rfl, rfl⟩⟩, fun q => ?_⟩, ⟨0, 0, fun _ => 0, ⟨by decide, by decide, fun i a b => by omega⟩, ⟨rfl, rfl, fun i a b => by omega⟩, ⟨rfl, rfl, fun i a b => by omega⟩, fun i a b => by omega⟩, ⟨0, 0, 0, fun _ _ => 0, by decide, by decide, by decide, rfl, rfl, rfl, ⟨0, 0, rfl, rfl, by decide, by decide, by decide, fun k x y z => by omega⟩, ⟨rfl, fun i w x y => ?_⟩, fun j x y => by omega⟩, Or.inl ⟨rfl, rfl⟩⟩
  · have b : i < 0 := b
    omega
  · have b : j < 0 := b
    omega
  · rcases q with q | q | q
    · have q : (0 : Int) = 1 := q
      omega
    · have q : (1 : Int) ≤ 0 := q
      omega
    · have q : (1 : Int) ≤ 0 := q
      omega
  · have y : i < min 0 60 := y
    omega
theorem ops_ok : Ops Rel := fun t ht => by
  have e1 : Rel (t + 1) = RelB (40 * (t : Int) + 40) := by
    unfold Rel
    rw [show (40 * ((t + 1 : Nat) : Int)) = 40 * (t : Int) + 40 by omega]
  have e0 : Rel t = RelB (40 * (t : Int)) := rfl
  have hB : 40 * (t : Int) ≤ 50000 := by omega
  rw [e1, e0]
  exact ⟨op_feed hB, op_end hB, op_fault hB, op_text hB, op_rule hB, op_sample hB, op_peak hB, op_basin hB, op_at hB, op_line hB, op_smooth hB, op_median hB, op_flat hB, op_turn hB, op_clip hB, op_lift hB, op_scale hB, op_set hB, op_noise hB, op_cut hB, op_ways hB, op_status hB, op_undo hB, op_log hB, op_noiseFor hB, op_pieces hB, op_room hB, op_unlike hB, op_shift hB, op_missed hB, op_would hB, op_solo hB, op_tallest hB, op_change hB, op_spell hB, op_step hB, op_run hB, op_perform hB, op_most hB, op_image hB, op_back hB, op_held hB, fun Sc Sm H => H.up (by omega)⟩
theorem whole_start {p : Program} {e : Env} {s : State} {m : MethodId} {below : List Frame} {meth : Method} {c : Code} (l : Launch) (hflags : l.flags = flags0) {b L : Nat} {xs : Nat → Int32} (hL : L ≤ 3072) (C0 : lw_At p s m meth c b L xs) : W p l e room_1 s m #[Value.ref b] below meth c s.heap [] 0 0 (lw_Z below #[Value.ref b] s) (entryFrame m ([Value.ref b] : List Value).toArray 7) :=
  law_start ops_ok rel_0 l (by unfold Launch.stackTraces; rw [hflags]; decide) hL C0
