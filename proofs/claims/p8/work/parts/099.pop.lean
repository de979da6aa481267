section
variable {p : Program} {l : Launch} {e : Env} {R : Room} {s : State} {m : MethodId} {args : Array Value} {below : List Frame} {meth : Method} {c : Code} {Q : State → Prop}
variable {G : Gam} {M0 M : Mem} {cc : ByteArray} {own : String} {nL fr lo pc : Nat} {vs : List (Nat × Value)} {st : List Value}
theorem s_pop2 (X : Cx p R s m args c G M0 cc own nL fr lo) {a : Value} (hd : decode cc pc = .ok (.pop2, 1)) (ha : a.category = 2) (k : Sg p l e R s m args below meth c Q G M0 nL (pc + 1) vs st M) : Sg p l e R s m args below meth c Q G M0 nL pc vs (a :: st) M :=
  fun hk H locs ls hl hP hS => lv_pop2_2 X.1 X.2.1 hd ha (k hk H locs ls hl hP hS)
end
