section ENDS
variable {p : Program} {l : Launch} {e : Env} {s : State} {m : MethodId} {args : Array Value} {below : List Frame} {meth : Method} {c : Code} {b L : Nat} {xs : Nat → Int32} {D : DN} {E : EN} {Q : State → Prop}
/-- the end, for a Q that asks room 600000 / 7302249 and nothing kept -/
theorem lw_end (hB : LB D E p s m args c b L xs) (kr : ∀ (H : Heap) (la : Array Slot), W p l e room_1 s m args below meth c H [] 600000 7302249 Q (F0 m 1309 la [.int 1])) (C M : Mem) (H1 : Heap) (locs1 : List Loc) (la : Array Slot) (hV : L2 D E C M s H1 locs1 (mZ C) (mW C + mW M)) (h1 : mZ C ≤ 600000) (h2 : mW C + mW M ≤ 7302249) : W p l e room_1 s m args below meth c H1 locs1 (mZ C) (mW C + mW M) Q (F0 m 1308 la []) := by
  refine lv_iconst hB.1.1 hB.1.2.1 dL_law_1308 (v := 1) (by decide) ?_
  refine va_forget (fun q hq => by rw [hB.1.2.2.2.2.2.2]; exact hV.2.2.2.2.2.1.2.2 q hq) ?_
  exact W.widen (k := 600000) (n := 7302249) h1 h2 (kr H1 la)
end ENDS
