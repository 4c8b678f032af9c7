/-! the invocation seen from a later point of itself -/
section VX5
variable {p : Program} {l : Launch} {e : Env} {R R' : Room} {s : State} {m : MethodId} {args : Array Value} {below : List Frame} {meth : Method} {c : Code} {T : State} {H : Heap} {locs : List Loc} {cells slots : Nat}
/-- the state as if the invocation began at the heap of T -/
def vx_reb (s T : State) : State := { s with heap := T.heap, slotsUsed := T.slotsUsed }
theorem vx_rebStand (X : Stand p l e R s m args below meth c T locs cells slots) (h1 : R'.frames ≤ R.frames) (h2 : R'.locals ≤ R.locals) (h3 : cells + R'.cells ≤ R.cells) (h4 : slots + R'.slots ≤ R.slots) :
    Stand p l e R' (vx_reb s T) m args below meth c T [] 0 0 := by
  have hbook : T.slotsTrue = true := X.book
  have hz := X.heapSize
  have hu := X.used
  have hroom : (vx_reb s T).hasRoom e.platform R' = true := by
    have hr := X.room
    have e1 : (vx_reb s T).localsInUse = s.localsInUse := rfl
    have e2 : (vx_reb s T).frames = s.frames := rfl
    have e3 : (vx_reb s T).me = s.me := rfl
    have e4 : (vx_reb s T).slotsTrue = T.slotsTrue := rfl
    have e5 : (vx_reb s T).heap = T.heap := rfl
    have e6 : (vx_reb s T).slotsUsed = T.slotsUsed := rfl
    simp only [State.hasRoom, Bool.and_eq_true, decide_eq_true_eq, e1, e2, e3, e4, e5, e6] at hr ⊢
    obtain ⟨⟨⟨⟨r1, r2, r3, r4, r5, r6⟩, r7⟩, r8⟩, r9⟩ := hr
    refine ⟨⟨⟨⟨by omega, by omega, by omega, by omega, by omega, r6⟩, by omega⟩, by omega⟩, hbook⟩
  refine ⟨X.admits, X.cas, X.clock, X.frames, hroom, X.hears, X.method, X.code, X.here, X.tail, X.warmed, X.limits, X.bytes, ?_⟩
  refine ⟨?_, Nat.le_refl _, Nat.le_refl _, ?_, ?_, ?_⟩
  · have h := X.same.1
    exact h
  · show T.slotsUsed = T.slotsUsed + ((T.heap.toList.drop T.heap.size).map (·.slots.size)).sum
    rw [List.drop_of_length_le (by rw [Array.length_toList]; exact Nat.le_refl _)]
    simp
  · show ((T.heap.toList.drop T.heap.size).map (·.slots.size)).sum ≤ 0
    rw [List.drop_of_length_le (by rw [Array.length_toList]; exact Nat.le_refl _)]
    simp
  · intro a c1 h
    exact ⟨c1, h, rfl, rfl, fun _ _ => rfl⟩
/-- what the rebased invocation ends with, the invocation itself ends with -/
theorem vx_rebSame (X : Stand p l e R s m args below meth c T locs cells slots) {t : State} {L : List Loc} {k n : Nat} (h : (vx_reb s T).sameButNew ({ t with vm := (vx_reb s T).vm } : State) L k n) :
    s.sameButNew ({ t with vm := s.vm } : State) (locs ++ L) (cells + k) (slots + n) := by
  have h2 : (T.setVm s.vm).sameButNew ({ t with vm := s.vm } : State) L k n := by
    obtain ⟨q1, q2, q3, q4, q5, q6⟩ := h
    refine ⟨?_, q2, q3, q4, q5, q6⟩
    have e1 := X.same.1
    have e3 : (T.setVm s.vm).setFrames ({ t with vm := s.vm } : State).frames = { s.setFrames ({ t with vm := s.vm } : State).frames with heap := T.heap, slotsUsed := T.slotsUsed } :=
      calc (T.setVm s.vm).setFrames ({ t with vm := s.vm } : State).frames = ({ s.setFrames (T.setVm s.vm).frames with heap := T.heap, slotsUsed := T.slotsUsed } : State).setFrames ({ t with vm := s.vm } : State).frames := congrArg (fun z => State.setFrames z ({ t with vm := s.vm } : State).frames) e1
        _ = { (s.setFrames (T.setVm s.vm).frames).setFrames ({ t with vm := s.vm } : State).frames with heap := T.heap, slotsUsed := T.slotsUsed } := rfl
        _ = _ := by rw [State.setFrames_setFrames]
    rw [e3]
    exact q1
  exact X.same.trans h2
end VX5
