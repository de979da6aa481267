theorem wd0 : (Jvm.Cond.selects "QuorumGate$Sets" ({ cls := "QuorumGate$Sets", name := "begin", desc := "(I)V" } : Jvm.MethodName) ({ cls := "QuorumGate$Sets", name := "begin", desc := "(I)V" } : Jvm.MethodName)) ∈ lw_g := gwp 0 rfl rfl
theorem wd1 : (Jvm.Cond.selects "QuorumGate" ({ cls := "QuorumGate", name := "startAnew", desc := "()I" } : Jvm.MethodName) ({ cls := "QuorumGate", name := "startAnew", desc := "()I" } : Jvm.MethodName)) ∈ lw_g := gwp 1 rfl rfl
theorem wd2 : (Jvm.Cond.selects "QuorumGate$Sets" ({ cls := "QuorumGate$Sets", name := "wholeOfRoot", desc := "(I)I" } : Jvm.MethodName) ({ cls := "QuorumGate$Sets", name := "wholeOfRoot", desc := "(I)I" } : Jvm.MethodName)) ∈ lw_g := gwp 2 rfl rfl
theorem wd3 : (Jvm.Cond.selects "QuorumGate$Sets" ({ cls := "QuorumGate$Sets", name := "wholeOf", desc := "(II)I" } : Jvm.MethodName) ({ cls := "QuorumGate$Sets", name := "wholeOf", desc := "(II)I" } : Jvm.MethodName)) ∈ lw_g := gwp 3 rfl rfl
theorem wd4 : (Jvm.Cond.selects "QuorumGate$Sets" ({ cls := "QuorumGate$Sets", name := "firstUnbroken", desc := "(I)I" } : Jvm.MethodName) ({ cls := "QuorumGate$Sets", name := "firstUnbroken", desc := "(I)I" } : Jvm.MethodName)) ∈ lw_g := gwp 4 rfl rfl
theorem wd5 : (Jvm.Cond.selects "QuorumGate" ({ cls := "QuorumGate", name := "surveyOnce", desc := "()V" } : Jvm.MethodName) ({ cls := "QuorumGate", name := "surveyOnce", desc := "()V" } : Jvm.MethodName)) ∈ lw_g := gwp 5 rfl rfl
theorem wd6 : (Jvm.Cond.selects "QuorumGate$Survey" ({ cls := "QuorumGate$Survey", name := "addWholes", desc := "(I)V" } : Jvm.MethodName) ({ cls := "QuorumGate$Survey", name := "addWholes", desc := "(I)V" } : Jvm.MethodName)) ∈ lw_g := gwp 6 rfl rfl
theorem wd7 : (Jvm.Cond.selects "QuorumGate$Survey" ({ cls := "QuorumGate$Survey", name := "listWholes", desc := "(III)V" } : Jvm.MethodName) ({ cls := "QuorumGate$Survey", name := "listWholes", desc := "(III)V" } : Jvm.MethodName)) ∈ lw_g := gwp 7 rfl rfl
theorem wd8 : (Jvm.Cond.selects "QuorumGate$Survey" ({ cls := "QuorumGate$Survey", name := "listWhole", desc := "(I)V" } : Jvm.MethodName) ({ cls := "QuorumGate$Survey", name := "listWhole", desc := "(I)V" } : Jvm.MethodName)) ∈ lw_g := gwp 8 rfl rfl
theorem wd9 : (Jvm.Cond.selects "QuorumGate$Family" ({ cls := "QuorumGate$Family", name := "withoutRest", desc := "(I)J" } : Jvm.MethodName) ({ cls := "QuorumGate$Family", name := "withoutRest", desc := "(I)J" } : Jvm.MethodName)) ∈ lw_g := gwp 9 rfl rfl
theorem wd10 : (Jvm.Cond.selects "QuorumGate$Sets" ({ cls := "QuorumGate$Sets", name := "isNeedless", desc := "(I)Z" } : Jvm.MethodName) ({ cls := "QuorumGate$Sets", name := "isNeedless", desc := "(I)Z" } : Jvm.MethodName)) ∈ lw_g := gwp 10 rfl rfl
theorem wd11 : (Jvm.Cond.selects "QuorumGate$Family" ({ cls := "QuorumGate$Family", name := "having", desc := "(II)J" } : Jvm.MethodName) ({ cls := "QuorumGate$Family", name := "having", desc := "(II)J" } : Jvm.MethodName)) ∈ lw_g := gwp 11 rfl rfl
theorem wd12 : (Jvm.Cond.selects "QuorumGate$Hall" ({ cls := "QuorumGate$Hall", name := "sendToAll", desc := "(III)V" } : Jvm.MethodName) ({ cls := "QuorumGate$Hall", name := "sendToAll", desc := "(III)V" } : Jvm.MethodName)) ∈ lw_g := gwp 12 rfl rfl
theorem wd13 : (Jvm.Cond.selects "QuorumGate$Hall" ({ cls := "QuorumGate$Hall", name := "beIdle", desc := "(I)V" } : Jvm.MethodName) ({ cls := "QuorumGate$Hall", name := "beIdle", desc := "(I)V" } : Jvm.MethodName)) ∈ lw_g := gwp 13 rfl rfl
theorem wd14 : (Jvm.Cond.selects "QuorumGate$Hall" ({ cls := "QuorumGate$Hall", name := "noteBringing", desc := "(IIII)V" } : Jvm.MethodName) ({ cls := "QuorumGate$Hall", name := "noteBringing", desc := "(IIII)V" } : Jvm.MethodName)) ∈ lw_g := gwp 14 rfl rfl
theorem wd15 : (Jvm.Cond.selects "QuorumGate$Hall" ({ cls := "QuorumGate$Hall", name := "hearRequest", desc := "(III)V" } : Jvm.MethodName) ({ cls := "QuorumGate$Hall", name := "hearRequest", desc := "(III)V" } : Jvm.MethodName)) ∈ lw_g := gwp 15 rfl rfl
theorem wd16 : (Jvm.Cond.selects "QuorumGate$Hall" ({ cls := "QuorumGate$Hall", name := "grantFirst", desc := "(I)V" } : Jvm.MethodName) ({ cls := "QuorumGate$Hall", name := "grantFirst", desc := "(I)V" } : Jvm.MethodName)) ∈ lw_g := gwp 16 rfl rfl
theorem wd17 : (Jvm.Cond.selects "QuorumGate$Hall" ({ cls := "QuorumGate$Hall", name := "hearGrant", desc := "(III)V" } : Jvm.MethodName) ({ cls := "QuorumGate$Hall", name := "hearGrant", desc := "(III)V" } : Jvm.MethodName)) ∈ lw_g := gwp 17 rfl rfl
theorem wd18 : (Jvm.Cond.selects "QuorumGate$Hall" ({ cls := "QuorumGate$Hall", name := "isAskingBy", desc := "(II)Z" } : Jvm.MethodName) ({ cls := "QuorumGate$Hall", name := "isAskingBy", desc := "(II)Z" } : Jvm.MethodName)) ∈ lw_g := gwp 18 rfl rfl
theorem wd19 : (Jvm.Cond.selects "QuorumGate$Hall" ({ cls := "QuorumGate$Hall", name := "enter", desc := "(I)V" } : Jvm.MethodName) ({ cls := "QuorumGate$Hall", name := "enter", desc := "(I)V" } : Jvm.MethodName)) ∈ lw_g := gwp 19 rfl rfl
theorem wd20 : (Jvm.Cond.selects "QuorumGate$Hall" ({ cls := "QuorumGate$Hall", name := "isSomeoneAheadOf", desc := "(I)Z" } : Jvm.MethodName) ({ cls := "QuorumGate$Hall", name := "isSomeoneAheadOf", desc := "(I)Z" } : Jvm.MethodName)) ∈ lw_g := gwp 20 rfl rfl
theorem wd21 : (Jvm.Cond.selects "QuorumGate$Hall" ({ cls := "QuorumGate$Hall", name := "hearFail", desc := "(III)V" } : Jvm.MethodName) ({ cls := "QuorumGate$Hall", name := "hearFail", desc := "(III)V" } : Jvm.MethodName)) ∈ lw_g := gwp 21 rfl rfl
theorem wd22 : (Jvm.Cond.selects "QuorumGate$Hall" ({ cls := "QuorumGate$Hall", name := "hearInquire", desc := "(III)V" } : Jvm.MethodName) ({ cls := "QuorumGate$Hall", name := "hearInquire", desc := "(III)V" } : Jvm.MethodName)) ∈ lw_g := gwp 22 rfl rfl
theorem wd23 : (Jvm.Cond.selects "QuorumGate$Hall" ({ cls := "QuorumGate$Hall", name := "hearYield", desc := "(III)V" } : Jvm.MethodName) ({ cls := "QuorumGate$Hall", name := "hearYield", desc := "(III)V" } : Jvm.MethodName)) ∈ lw_g := gwp 23 rfl rfl
theorem wd24 : (Jvm.Cond.selects "QuorumGate$Hall" ({ cls := "QuorumGate$Hall", name := "hearRelease", desc := "(III)V" } : Jvm.MethodName) ({ cls := "QuorumGate$Hall", name := "hearRelease", desc := "(III)V" } : Jvm.MethodName)) ∈ lw_g := gwp 24 rfl rfl
theorem wd25 : (Jvm.Cond.selects "QuorumGate$Hall" ({ cls := "QuorumGate$Hall", name := "renewQuorums", desc := "()V" } : Jvm.MethodName) ({ cls := "QuorumGate$Hall", name := "renewQuorums", desc := "()V" } : Jvm.MethodName)) ∈ lw_g := gwp 25 rfl rfl
theorem wd26 : (Jvm.Cond.selects "QuorumGate$Hall" ({ cls := "QuorumGate$Hall", name := "forget", desc := "(II)V" } : Jvm.MethodName) ({ cls := "QuorumGate$Hall", name := "forget", desc := "(II)V" } : Jvm.MethodName)) ∈ lw_g := gwp 26 rfl rfl
theorem wd27 : (Jvm.Cond.selects "QuorumGate$Hall" ({ cls := "QuorumGate$Hall", name := "doWithout", desc := "(II)V" } : Jvm.MethodName) ({ cls := "QuorumGate$Hall", name := "doWithout", desc := "(II)V" } : Jvm.MethodName)) ∈ lw_g := gwp 27 rfl rfl
theorem wd28 : (Jvm.Cond.selects "QuorumGate$Place" ({ cls := "QuorumGate$Place", name := "countAheadOf", desc := "(I)I" } : Jvm.MethodName) ({ cls := "QuorumGate$Place", name := "countAheadOf", desc := "(I)I" } : Jvm.MethodName)) ∈ lw_g := gwp 28 rfl rfl
theorem wd29 : (Jvm.Cond.selects "QuorumGate$Search" ({ cls := "QuorumGate$Search", name := "begin", desc := "(LQuorumGate$Hall;II)V" } : Jvm.MethodName) ({ cls := "QuorumGate$Search", name := "begin", desc := "(LQuorumGate$Hall;II)V" } : Jvm.MethodName)) ∈ lw_g := gwp 29 rfl rfl
theorem wd30 : (Jvm.Cond.selects "QuorumGate$Search" ({ cls := "QuorumGate$Search", name := "meet", desc := "(I)V" } : Jvm.MethodName) ({ cls := "QuorumGate$Search", name := "meet", desc := "(I)V" } : Jvm.MethodName)) ∈ lw_g := gwp 30 rfl rfl
theorem wd31 : (Jvm.Cond.selects "QuorumGate$Search" ({ cls := "QuorumGate$Search", name := "save", desc := "()V" } : Jvm.MethodName) ({ cls := "QuorumGate$Search", name := "save", desc := "()V" } : Jvm.MethodName)) ∈ lw_g := gwp 31 rfl rfl
theorem wd32 : (Jvm.Cond.selects "QuorumGate$Search" ({ cls := "QuorumGate$Search", name := "push", desc := "(I)V" } : Jvm.MethodName) ({ cls := "QuorumGate$Search", name := "push", desc := "(I)V" } : Jvm.MethodName)) ∈ lw_g := gwp 32 rfl rfl
theorem wd33 : (Jvm.Cond.selects "QuorumGate$Search" ({ cls := "QuorumGate$Search", name := "savePlace", desc := "(LQuorumGate$Place;)V" } : Jvm.MethodName) ({ cls := "QuorumGate$Search", name := "savePlace", desc := "(LQuorumGate$Place;)V" } : Jvm.MethodName)) ∈ lw_g := gwp 33 rfl rfl
theorem wd34 : (Jvm.Cond.selects "QuorumGate$Search" ({ cls := "QuorumGate$Search", name := "saveLane", desc := "(LQuorumGate$Post;I)V" } : Jvm.MethodName) ({ cls := "QuorumGate$Search", name := "saveLane", desc := "(LQuorumGate$Post;I)V" } : Jvm.MethodName)) ∈ lw_g := gwp 34 rfl rfl
theorem wd35 : (Jvm.Cond.selects "QuorumGate$Search" ({ cls := "QuorumGate$Search", name := "isKnown", desc := "()Z" } : Jvm.MethodName) ({ cls := "QuorumGate$Search", name := "isKnown", desc := "()Z" } : Jvm.MethodName)) ∈ lw_g := gwp 35 rfl rfl
theorem wd36 : (Jvm.Cond.selects "QuorumGate$Search" ({ cls := "QuorumGate$Search", name := "isLike", desc := "(I)Z" } : Jvm.MethodName) ({ cls := "QuorumGate$Search", name := "isLike", desc := "(I)Z" } : Jvm.MethodName)) ∈ lw_g := gwp 36 rfl rfl
theorem wd37 : (Jvm.Cond.selects "QuorumGate$Search" ({ cls := "QuorumGate$Search", name := "asksNow", desc := "()I" } : Jvm.MethodName) ({ cls := "QuorumGate$Search", name := "asksNow", desc := "()I" } : Jvm.MethodName)) ∈ lw_g := gwp 37 rfl rfl
theorem wd38 : (Jvm.Cond.selects "QuorumGate$Search" ({ cls := "QuorumGate$Search", name := "recall", desc := "(I)V" } : Jvm.MethodName) ({ cls := "QuorumGate$Search", name := "recall", desc := "(I)V" } : Jvm.MethodName)) ∈ lw_g := gwp 38 rfl rfl
theorem wd39 : (Jvm.Cond.selects "QuorumGate$Search" ({ cls := "QuorumGate$Search", name := "pull", desc := "()I" } : Jvm.MethodName) ({ cls := "QuorumGate$Search", name := "pull", desc := "()I" } : Jvm.MethodName)) ∈ lw_g := gwp 39 rfl rfl
theorem wd40 : (Jvm.Cond.selects "QuorumGate$Search" ({ cls := "QuorumGate$Search", name := "recallPlace", desc := "(LQuorumGate$Place;)V" } : Jvm.MethodName) ({ cls := "QuorumGate$Search", name := "recallPlace", desc := "(LQuorumGate$Place;)V" } : Jvm.MethodName)) ∈ lw_g := gwp 40 rfl rfl
theorem wd41 : (Jvm.Cond.selects "QuorumGate$Search" ({ cls := "QuorumGate$Search", name := "recallLane", desc := "(II)V" } : Jvm.MethodName) ({ cls := "QuorumGate$Search", name := "recallLane", desc := "(II)V" } : Jvm.MethodName)) ∈ lw_g := gwp 41 rfl rfl
theorem wd42 : (Jvm.Cond.selects "QuorumGate$Clockwork" ({ cls := "QuorumGate$Clockwork", name := "leaveWhoCameBy", desc := "(LQuorumGate$Hall;I)V" } : Jvm.MethodName) ({ cls := "QuorumGate$Clockwork", name := "leaveWhoCameBy", desc := "(LQuorumGate$Hall;I)V" } : Jvm.MethodName)) ∈ lw_g := gwp 42 rfl rfl
theorem wd43 : (Jvm.Cond.selects "QuorumGate$Clockwork" ({ cls := "QuorumGate$Clockwork", name := "bringDue", desc := "(LQuorumGate$Hall;II)V" } : Jvm.MethodName) ({ cls := "QuorumGate$Clockwork", name := "bringDue", desc := "(LQuorumGate$Hall;II)V" } : Jvm.MethodName)) ∈ lw_g := gwp 43 rfl rfl
theorem wd44 : (Jvm.Cond.selects "QuorumGate" ({ cls := "QuorumGate", name := "firstInside", desc := "(I)I" } : Jvm.MethodName) ({ cls := "QuorumGate", name := "firstInside", desc := "(I)I" } : Jvm.MethodName)) ∈ lw_g := gwp 44 rfl rfl
theorem wd45 : (Jvm.Cond.selects "QuorumGate" ({ cls := "QuorumGate", name := "fewestNewEntries", desc := "()I" } : Jvm.MethodName) ({ cls := "QuorumGate", name := "fewestNewEntries", desc := "()I" } : Jvm.MethodName)) ∈ lw_g := gwp 45 rfl rfl
theorem wd46 : (Jvm.Cond.selects "QuorumGate" ({ cls := "QuorumGate", name := "newEntries", desc := "(I)I" } : Jvm.MethodName) ({ cls := "QuorumGate", name := "newEntries", desc := "(I)I" } : Jvm.MethodName)) ∈ lw_g := gwp 46 rfl rfl
theorem wd47 : (Jvm.Cond.selects "QuorumGate" ({ cls := "QuorumGate", name := "mostNewEntries", desc := "()I" } : Jvm.MethodName) ({ cls := "QuorumGate", name := "mostNewEntries", desc := "()I" } : Jvm.MethodName)) ∈ lw_g := gwp 47 rfl rfl
theorem wd48 : (Jvm.Cond.selects "QuorumGateModel" ({ cls := "QuorumGateModel", name := "makeGrid", desc := "(I)I" } : Jvm.MethodName) ({ cls := "QuorumGateModel", name := "makeGrid", desc := "(I)I" } : Jvm.MethodName)) ∈ lw_g := gwp 48 rfl rfl
theorem wd49 : (Jvm.Cond.selects "QuorumGateModel" ({ cls := "QuorumGateModel", name := "makeFilled", desc := "(I)I" } : Jvm.MethodName) ({ cls := "QuorumGateModel", name := "makeFilled", desc := "(I)I" } : Jvm.MethodName)) ∈ lw_g := gwp 49 rfl rfl
theorem wd50 : (Jvm.Cond.selects "QuorumGateModel" ({ cls := "QuorumGateModel", name := "begin", desc := "(IZ)V" } : Jvm.MethodName) ({ cls := "QuorumGateModel", name := "begin", desc := "(IZ)V" } : Jvm.MethodName)) ∈ lw_g := gwp 50 rfl rfl
theorem wd51 : (Jvm.Cond.selects "QuorumGateModel" ({ cls := "QuorumGateModel", name := "put", desc := "(III)V" } : Jvm.MethodName) ({ cls := "QuorumGateModel", name := "put", desc := "(III)V" } : Jvm.MethodName)) ∈ lw_g := gwp 51 rfl rfl
theorem wd52 : (Jvm.Cond.selects "QuorumGateModel" ({ cls := "QuorumGateModel", name := "all", desc := "()I" } : Jvm.MethodName) ({ cls := "QuorumGateModel", name := "all", desc := "()I" } : Jvm.MethodName)) ∈ lw_g := gwp 52 rfl rfl
theorem wd53 : (Jvm.Cond.selects "QuorumGateModel" ({ cls := "QuorumGateModel", name := "isNode", desc := "(I)Z" } : Jvm.MethodName) ({ cls := "QuorumGateModel", name := "isNode", desc := "(I)Z" } : Jvm.MethodName)) ∈ lw_g := gwp 53 rfl rfl
theorem wd54 : (Jvm.Cond.selects "QuorumGateModel" ({ cls := "QuorumGateModel", name := "baseOf", desc := "(I)I" } : Jvm.MethodName) ({ cls := "QuorumGateModel", name := "baseOf", desc := "(I)I" } : Jvm.MethodName)) ∈ lw_g := gwp 54 rfl rfl
theorem wd55 : (Jvm.Cond.selects "QuorumGateModel" ({ cls := "QuorumGateModel", name := "quorumNow", desc := "(I)I" } : Jvm.MethodName) ({ cls := "QuorumGateModel", name := "quorumNow", desc := "(I)I" } : Jvm.MethodName)) ∈ lw_g := gwp 55 rfl rfl
theorem wd56 : (Jvm.Cond.selects "QuorumGateModel" ({ cls := "QuorumGateModel", name := "brokenOnes", desc := "()I" } : Jvm.MethodName) ({ cls := "QuorumGateModel", name := "brokenOnes", desc := "()I" } : Jvm.MethodName)) ∈ lw_g := gwp 56 rfl rfl
theorem wd57 : (Jvm.Cond.selects "QuorumGateModel" ({ cls := "QuorumGateModel", name := "get", desc := "(II)I" } : Jvm.MethodName) ({ cls := "QuorumGateModel", name := "get", desc := "(II)I" } : Jvm.MethodName)) ∈ lw_g := gwp 57 rfl rfl
theorem wd58 : (Jvm.Cond.selects "QuorumGateModel" ({ cls := "QuorumGateModel", name := "quorumBy", desc := "(II)I" } : Jvm.MethodName) ({ cls := "QuorumGateModel", name := "quorumBy", desc := "(II)I" } : Jvm.MethodName)) ∈ lw_g := gwp 58 rfl rfl
theorem wd59 : (Jvm.Cond.selects "QuorumGateModel" ({ cls := "QuorumGateModel", name := "wholeBy", desc := "(I)I" } : Jvm.MethodName) ({ cls := "QuorumGateModel", name := "wholeBy", desc := "(I)I" } : Jvm.MethodName)) ∈ lw_g := gwp 59 rfl rfl
theorem wd60 : (Jvm.Cond.selects "QuorumGateModel" ({ cls := "QuorumGateModel", name := "stopsBy", desc := "(I)Z" } : Jvm.MethodName) ({ cls := "QuorumGateModel", name := "stopsBy", desc := "(I)Z" } : Jvm.MethodName)) ∈ lw_g := gwp 60 rfl rfl
theorem wd61 : (Jvm.Cond.selects "QuorumGateModel" ({ cls := "QuorumGateModel", name := "isNeedless", desc := "(I)Z" } : Jvm.MethodName) ({ cls := "QuorumGateModel", name := "isNeedless", desc := "(I)Z" } : Jvm.MethodName)) ∈ lw_g := gwp 61 rfl rfl
theorem wd62 : (Jvm.Cond.selects "QuorumGateModel" ({ cls := "QuorumGateModel", name := "oddsOf", desc := "(II)J" } : Jvm.MethodName) ({ cls := "QuorumGateModel", name := "oddsOf", desc := "(II)J" } : Jvm.MethodName)) ∈ lw_g := gwp 62 rfl rfl
theorem wd63 : (Jvm.Cond.selects "QuorumGateModel" ({ cls := "QuorumGateModel", name := "millionths", desc := "(J)I" } : Jvm.MethodName) ({ cls := "QuorumGateModel", name := "millionths", desc := "(J)I" } : Jvm.MethodName)) ∈ lw_g := gwp 63 rfl rfl
theorem wd64 : (Jvm.Cond.selects "QuorumGateModel" ({ cls := "QuorumGateModel", name := "isLive", desc := "(I)Z" } : Jvm.MethodName) ({ cls := "QuorumGateModel", name := "isLive", desc := "(I)Z" } : Jvm.MethodName)) ∈ lw_g := gwp 64 rfl rfl
theorem wd65 : (Jvm.Cond.selects "QuorumGateModel" ({ cls := "QuorumGateModel", name := "isBetter", desc := "(I)Z" } : Jvm.MethodName) ({ cls := "QuorumGateModel", name := "isBetter", desc := "(I)Z" } : Jvm.MethodName)) ∈ lw_g := gwp 65 rfl rfl
theorem wd66 : (Jvm.Cond.selects "QuorumGateModel" ({ cls := "QuorumGateModel", name := "canAsk", desc := "(I)Z" } : Jvm.MethodName) ({ cls := "QuorumGateModel", name := "canAsk", desc := "(I)Z" } : Jvm.MethodName)) ∈ lw_g := gwp 66 rfl rfl
theorem wd67 : (Jvm.Cond.selects "QuorumGateModel" ({ cls := "QuorumGateModel", name := "askNow", desc := "(I)V" } : Jvm.MethodName) ({ cls := "QuorumGateModel", name := "askNow", desc := "(I)V" } : Jvm.MethodName)) ∈ lw_g := gwp 67 rfl rfl
theorem wd68 : (Jvm.Cond.selects "QuorumGateModel" ({ cls := "QuorumGateModel", name := "let", desc := "(III)V" } : Jvm.MethodName) ({ cls := "QuorumGateModel", name := "let", desc := "(III)V" } : Jvm.MethodName)) ∈ lw_g := gwp 68 rfl rfl
theorem wd69 : (Jvm.Cond.selects "QuorumGateModel" ({ cls := "QuorumGateModel", name := "sendAll", desc := "(IIII)V" } : Jvm.MethodName) ({ cls := "QuorumGateModel", name := "sendAll", desc := "(IIII)V" } : Jvm.MethodName)) ∈ lw_g := gwp 69 rfl rfl
theorem wd70 : (Jvm.Cond.selects "QuorumGateModel" ({ cls := "QuorumGateModel", name := "send", desc := "(IIII)V" } : Jvm.MethodName) ({ cls := "QuorumGateModel", name := "send", desc := "(IIII)V" } : Jvm.MethodName)) ∈ lw_g := gwp 70 rfl rfl
theorem wd71 : (Jvm.Cond.selects "QuorumGateModel" ({ cls := "QuorumGateModel", name := "leaveNow", desc := "(I)V" } : Jvm.MethodName) ({ cls := "QuorumGateModel", name := "leaveNow", desc := "(I)V" } : Jvm.MethodName)) ∈ lw_g := gwp 71 rfl rfl
theorem wd72 : (Jvm.Cond.selects "QuorumGateModel" ({ cls := "QuorumGateModel", name := "rest", desc := "(I)V" } : Jvm.MethodName) ({ cls := "QuorumGateModel", name := "rest", desc := "(I)V" } : Jvm.MethodName)) ∈ lw_g := gwp 72 rfl rfl
theorem wd73 : (Jvm.Cond.selects "QuorumGateModel" ({ cls := "QuorumGateModel", name := "letterAt", desc := "(II)I" } : Jvm.MethodName) ({ cls := "QuorumGateModel", name := "letterAt", desc := "(II)I" } : Jvm.MethodName)) ∈ lw_g := gwp 73 rfl rfl
theorem wd74 : (Jvm.Cond.selects "QuorumGateModel" ({ cls := "QuorumGateModel", name := "bringNow", desc := "(I)I" } : Jvm.MethodName) ({ cls := "QuorumGateModel", name := "bringNow", desc := "(I)I" } : Jvm.MethodName)) ∈ lw_g := gwp 74 rfl rfl
theorem wd75 : (Jvm.Cond.selects "QuorumGateModel" ({ cls := "QuorumGateModel", name := "takeLetter", desc := "(I)V" } : Jvm.MethodName) ({ cls := "QuorumGateModel", name := "takeLetter", desc := "(I)V" } : Jvm.MethodName)) ∈ lw_g := gwp 75 rfl rfl
theorem wd76 : (Jvm.Cond.selects "QuorumGateModel" ({ cls := "QuorumGateModel", name := "writeTrace", desc := "(IIII)V" } : Jvm.MethodName) ({ cls := "QuorumGateModel", name := "writeTrace", desc := "(IIII)V" } : Jvm.MethodName)) ∈ lw_g := gwp 76 rfl rfl
theorem wd77 : (Jvm.Cond.selects "QuorumGateModel" ({ cls := "QuorumGateModel", name := "read", desc := "(IIII)V" } : Jvm.MethodName) ({ cls := "QuorumGateModel", name := "read", desc := "(IIII)V" } : Jvm.MethodName)) ∈ lw_g := gwp 77 rfl rfl
theorem wd78 : (Jvm.Cond.selects "QuorumGateModel" ({ cls := "QuorumGateModel", name := "requested", desc := "(III)V" } : Jvm.MethodName) ({ cls := "QuorumGateModel", name := "requested", desc := "(III)V" } : Jvm.MethodName)) ∈ lw_g := gwp 78 rfl rfl
theorem wd79 : (Jvm.Cond.selects "QuorumGateModel" ({ cls := "QuorumGateModel", name := "of", desc := "(II)I" } : Jvm.MethodName) ({ cls := "QuorumGateModel", name := "of", desc := "(II)I" } : Jvm.MethodName)) ∈ lw_g := gwp 79 rfl rfl
theorem wd80 : (Jvm.Cond.selects "QuorumGateModel" ({ cls := "QuorumGateModel", name := "waitNode", desc := "(II)I" } : Jvm.MethodName) ({ cls := "QuorumGateModel", name := "waitNode", desc := "(II)I" } : Jvm.MethodName)) ∈ lw_g := gwp 80 rfl rfl
theorem wd81 : (Jvm.Cond.selects "QuorumGateModel" ({ cls := "QuorumGateModel", name := "waitStamp", desc := "(II)I" } : Jvm.MethodName) ({ cls := "QuorumGateModel", name := "waitStamp", desc := "(II)I" } : Jvm.MethodName)) ∈ lw_g := gwp 81 rfl rfl
theorem wd82 : (Jvm.Cond.selects "QuorumGateModel" ({ cls := "QuorumGateModel", name := "comeWaiting", desc := "(III)V" } : Jvm.MethodName) ({ cls := "QuorumGateModel", name := "comeWaiting", desc := "(III)V" } : Jvm.MethodName)) ∈ lw_g := gwp 82 rfl rfl
theorem wd83 : (Jvm.Cond.selects "QuorumGateModel" ({ cls := "QuorumGateModel", name := "grantFirst", desc := "(I)V" } : Jvm.MethodName) ({ cls := "QuorumGateModel", name := "grantFirst", desc := "(I)V" } : Jvm.MethodName)) ∈ lw_g := gwp 83 rfl rfl
theorem wd84 : (Jvm.Cond.selects "QuorumGateModel" ({ cls := "QuorumGateModel", name := "nobody", desc := "(I)V" } : Jvm.MethodName) ({ cls := "QuorumGateModel", name := "nobody", desc := "(I)V" } : Jvm.MethodName)) ∈ lw_g := gwp 84 rfl rfl
theorem wd85 : (Jvm.Cond.selects "QuorumGateModel" ({ cls := "QuorumGateModel", name := "goWaiting", desc := "(II)V" } : Jvm.MethodName) ({ cls := "QuorumGateModel", name := "goWaiting", desc := "(II)V" } : Jvm.MethodName)) ∈ lw_g := gwp 85 rfl rfl
theorem wd86 : (Jvm.Cond.selects "QuorumGateModel" ({ cls := "QuorumGateModel", name := "isAheadOfGranted", desc := "(III)Z" } : Jvm.MethodName) ({ cls := "QuorumGateModel", name := "isAheadOfGranted", desc := "(III)Z" } : Jvm.MethodName)) ∈ lw_g := gwp 86 rfl rfl
theorem wd87 : (Jvm.Cond.selects "QuorumGateModel" ({ cls := "QuorumGateModel", name := "yielded", desc := "(III)V" } : Jvm.MethodName) ({ cls := "QuorumGateModel", name := "yielded", desc := "(III)V" } : Jvm.MethodName)) ∈ lw_g := gwp 87 rfl rfl
theorem wd88 : (Jvm.Cond.selects "QuorumGateModel" ({ cls := "QuorumGateModel", name := "isGranted", desc := "(III)Z" } : Jvm.MethodName) ({ cls := "QuorumGateModel", name := "isGranted", desc := "(III)Z" } : Jvm.MethodName)) ∈ lw_g := gwp 88 rfl rfl
theorem wd89 : (Jvm.Cond.selects "QuorumGateModel" ({ cls := "QuorumGateModel", name := "released", desc := "(III)V" } : Jvm.MethodName) ({ cls := "QuorumGateModel", name := "released", desc := "(III)V" } : Jvm.MethodName)) ∈ lw_g := gwp 89 rfl rfl
theorem wd90 : (Jvm.Cond.selects "QuorumGateModel" ({ cls := "QuorumGateModel", name := "granted", desc := "(II)V" } : Jvm.MethodName) ({ cls := "QuorumGateModel", name := "granted", desc := "(II)V" } : Jvm.MethodName)) ∈ lw_g := gwp 90 rfl rfl
theorem wd91 : (Jvm.Cond.selects "QuorumGateModel" ({ cls := "QuorumGateModel", name := "enter", desc := "(I)V" } : Jvm.MethodName) ({ cls := "QuorumGateModel", name := "enter", desc := "(I)V" } : Jvm.MethodName)) ∈ lw_g := gwp 91 rfl rfl
theorem wd92 : (Jvm.Cond.selects "QuorumGateModel" ({ cls := "QuorumGateModel", name := "countOf", desc := "(II)I" } : Jvm.MethodName) ({ cls := "QuorumGateModel", name := "countOf", desc := "(II)I" } : Jvm.MethodName)) ∈ lw_g := gwp 92 rfl rfl
theorem wd93 : (Jvm.Cond.selects "QuorumGateModel" ({ cls := "QuorumGateModel", name := "insides", desc := "()I" } : Jvm.MethodName) ({ cls := "QuorumGateModel", name := "insides", desc := "()I" } : Jvm.MethodName)) ∈ lw_g := gwp 93 rfl rfl
theorem wd94 : (Jvm.Cond.selects "QuorumGateModel" ({ cls := "QuorumGateModel", name := "failed", desc := "(II)V" } : Jvm.MethodName) ({ cls := "QuorumGateModel", name := "failed", desc := "(II)V" } : Jvm.MethodName)) ∈ lw_g := gwp 94 rfl rfl
theorem wd95 : (Jvm.Cond.selects "QuorumGateModel" ({ cls := "QuorumGateModel", name := "yieldTo", desc := "(II)V" } : Jvm.MethodName) ({ cls := "QuorumGateModel", name := "yieldTo", desc := "(II)V" } : Jvm.MethodName)) ∈ lw_g := gwp 95 rfl rfl
theorem wd96 : (Jvm.Cond.selects "QuorumGateModel" ({ cls := "QuorumGateModel", name := "inquired", desc := "(II)V" } : Jvm.MethodName) ({ cls := "QuorumGateModel", name := "inquired", desc := "(II)V" } : Jvm.MethodName)) ∈ lw_g := gwp 96 rfl rfl
theorem wd97 : (Jvm.Cond.selects "QuorumGateModel" ({ cls := "QuorumGateModel", name := "dropLetters", desc := "(I)V" } : Jvm.MethodName) ({ cls := "QuorumGateModel", name := "dropLetters", desc := "(I)V" } : Jvm.MethodName)) ∈ lw_g := gwp 97 rfl rfl
theorem wd98 : (Jvm.Cond.selects "QuorumGateModel" ({ cls := "QuorumGateModel", name := "forgotten", desc := "(II)V" } : Jvm.MethodName) ({ cls := "QuorumGateModel", name := "forgotten", desc := "(II)V" } : Jvm.MethodName)) ∈ lw_g := gwp 98 rfl rfl
theorem wd99 : (Jvm.Cond.selects "QuorumGateModel" ({ cls := "QuorumGateModel", name := "goWithout", desc := "(II)V" } : Jvm.MethodName) ({ cls := "QuorumGateModel", name := "goWithout", desc := "(II)V" } : Jvm.MethodName)) ∈ lw_g := gwp 99 rfl rfl
theorem wd100 : (Jvm.Cond.selects "QuorumGateModel" ({ cls := "QuorumGateModel", name := "askings", desc := "()I" } : Jvm.MethodName) ({ cls := "QuorumGateModel", name := "askings", desc := "()I" } : Jvm.MethodName)) ∈ lw_g := gwp 100 rfl rfl
theorem wd101 : (Jvm.Cond.selects "QuorumGateModel" ({ cls := "QuorumGateModel", name := "waitsNow", desc := "(I)I" } : Jvm.MethodName) ({ cls := "QuorumGateModel", name := "waitsNow", desc := "(I)I" } : Jvm.MethodName)) ∈ lw_g := gwp 101 rfl rfl
theorem wd102 : (Jvm.Cond.selects "QuorumGateModel" ({ cls := "QuorumGateModel", name := "movesNow", desc := "()I" } : Jvm.MethodName) ({ cls := "QuorumGateModel", name := "movesNow", desc := "()I" } : Jvm.MethodName)) ∈ lw_g := gwp 102 rfl rfl
theorem wd103 : (Jvm.Cond.selects "QuorumGateModel" ({ cls := "QuorumGateModel", name := "layMoves", desc := "()V" } : Jvm.MethodName) ({ cls := "QuorumGateModel", name := "layMoves", desc := "()V" } : Jvm.MethodName)) ∈ lw_g := gwp 103 rfl rfl
theorem wd104 : (Jvm.Cond.selects "QuorumGateModel" ({ cls := "QuorumGateModel", name := "roundOnes", desc := "()I" } : Jvm.MethodName) ({ cls := "QuorumGateModel", name := "roundOnes", desc := "()I" } : Jvm.MethodName)) ∈ lw_g := gwp 104 rfl rfl
theorem wd105 : (Jvm.Cond.selects "QuorumGateModel" ({ cls := "QuorumGateModel", name := "reached", desc := "(I)I" } : Jvm.MethodName) ({ cls := "QuorumGateModel", name := "reached", desc := "(I)I" } : Jvm.MethodName)) ∈ lw_g := gwp 105 rfl rfl
theorem wd106 : (Jvm.Cond.selects "QuorumGateModel" ({ cls := "QuorumGateModel", name := "sentAll", desc := "()I" } : Jvm.MethodName) ({ cls := "QuorumGateModel", name := "sentAll", desc := "()I" } : Jvm.MethodName)) ∈ lw_g := gwp 106 rfl rfl
theorem wd107 : (Jvm.Cond.selects "QuorumGateModel" ({ cls := "QuorumGateModel", name := "goOnce", desc := "()Z" } : Jvm.MethodName) ({ cls := "QuorumGateModel", name := "goOnce", desc := "()Z" } : Jvm.MethodName)) ∈ lw_g := gwp 107 rfl rfl
theorem wd108 : (Jvm.Cond.selects "QuorumGateModel" ({ cls := "QuorumGateModel", name := "draw", desc := "(I)I" } : Jvm.MethodName) ({ cls := "QuorumGateModel", name := "draw", desc := "(I)I" } : Jvm.MethodName)) ∈ lw_g := gwp 108 rfl rfl
theorem wd109 : (Jvm.Cond.selects "QuorumGateModel" ({ cls := "QuorumGateModel", name := "doMove", desc := "(I)V" } : Jvm.MethodName) ({ cls := "QuorumGateModel", name := "doMove", desc := "(I)V" } : Jvm.MethodName)) ∈ lw_g := gwp 109 rfl rfl
theorem wd110 : (Jvm.Cond.selects "QuorumGateModel" ({ cls := "QuorumGateModel", name := "takeFirst", desc := "(I)V" } : Jvm.MethodName) ({ cls := "QuorumGateModel", name := "takeFirst", desc := "(I)V" } : Jvm.MethodName)) ∈ lw_g := gwp 110 rfl rfl
theorem wd111 : (Jvm.Cond.selects "QuorumGateModel" ({ cls := "QuorumGateModel", name := "putAside", desc := "()V" } : Jvm.MethodName) ({ cls := "QuorumGateModel", name := "putAside", desc := "()V" } : Jvm.MethodName)) ∈ lw_g := gwp 111 rfl rfl
theorem wd112 : (Jvm.Cond.selects "QuorumGateModel" ({ cls := "QuorumGateModel", name := "bringBack", desc := "()V" } : Jvm.MethodName) ({ cls := "QuorumGateModel", name := "bringBack", desc := "()V" } : Jvm.MethodName)) ∈ lw_g := gwp 112 rfl rfl
theorem wd113 : (Jvm.Cond.selects "QuorumGateModel" ({ cls := "QuorumGateModel", name := "askAll", desc := "()V" } : Jvm.MethodName) ({ cls := "QuorumGateModel", name := "askAll", desc := "()V" } : Jvm.MethodName)) ∈ lw_g := gwp 113 rfl rfl
theorem wd114 : (Jvm.Cond.selects "QuorumGateModel" ({ cls := "QuorumGateModel", name := "crowdTold", desc := "(IIII)I" } : Jvm.MethodName) ({ cls := "QuorumGateModel", name := "crowdTold", desc := "(IIII)I" } : Jvm.MethodName)) ∈ lw_g := gwp 114 rfl rfl
theorem wd115 : (Jvm.Cond.selects "QuorumGateModel" ({ cls := "QuorumGateModel", name := "search", desc := "(II)V" } : Jvm.MethodName) ({ cls := "QuorumGateModel", name := "search", desc := "(II)V" } : Jvm.MethodName)) ∈ lw_g := gwp 115 rfl rfl
theorem wd116 : (Jvm.Cond.selects "QuorumGateModel" ({ cls := "QuorumGateModel", name := "meet", desc := "(II)V" } : Jvm.MethodName) ({ cls := "QuorumGateModel", name := "meet", desc := "(II)V" } : Jvm.MethodName)) ∈ lw_g := gwp 116 rfl rfl
theorem wd117 : (Jvm.Cond.selects "QuorumGateModel" ({ cls := "QuorumGateModel", name := "isState", desc := "(I)Z" } : Jvm.MethodName) ({ cls := "QuorumGateModel", name := "isState", desc := "(I)Z" } : Jvm.MethodName)) ∈ lw_g := gwp 117 rfl rfl
theorem wd118 : (Jvm.Cond.selects "QuorumGateModel" ({ cls := "QuorumGateModel", name := "sizeNow", desc := "()I" } : Jvm.MethodName) ({ cls := "QuorumGateModel", name := "sizeNow", desc := "()I" } : Jvm.MethodName)) ∈ lw_g := gwp 118 rfl rfl
theorem wd119 : (Jvm.Cond.selects "QuorumGateModel" ({ cls := "QuorumGateModel", name := "keepState", desc := "(I)V" } : Jvm.MethodName) ({ cls := "QuorumGateModel", name := "keepState", desc := "(I)V" } : Jvm.MethodName)) ∈ lw_g := gwp 119 rfl rfl
theorem wd120 : (Jvm.Cond.selects "QuorumGateModel" ({ cls := "QuorumGateModel", name := "laysState", desc := "(I)V" } : Jvm.MethodName) ({ cls := "QuorumGateModel", name := "laysState", desc := "(I)V" } : Jvm.MethodName)) ∈ lw_g := gwp 120 rfl rfl
theorem wd121 : (Jvm.Cond.selects "QuorumGateModel" ({ cls := "QuorumGateModel", name := "look", desc := "(II)V" } : Jvm.MethodName) ({ cls := "QuorumGateModel", name := "look", desc := "(II)V" } : Jvm.MethodName)) ∈ lw_g := gwp 121 rfl rfl
theorem wd122 : (Jvm.Cond.selects "QuorumGateModel" ({ cls := "QuorumGateModel", name := "goClock", desc := "(II)V" } : Jvm.MethodName) ({ cls := "QuorumGateModel", name := "goClock", desc := "(II)V" } : Jvm.MethodName)) ∈ lw_g := gwp 122 rfl rfl
theorem wd123 : (Jvm.Cond.selects "QuorumGateModel" ({ cls := "QuorumGateModel", name := "goTime", desc := "(II)V" } : Jvm.MethodName) ({ cls := "QuorumGateModel", name := "goTime", desc := "(II)V" } : Jvm.MethodName)) ∈ lw_g := gwp 123 rfl rfl
theorem wd124 : (Jvm.Cond.selects "QuorumGateModel" ({ cls := "QuorumGateModel", name := "dueLetter", desc := "()I" } : Jvm.MethodName) ({ cls := "QuorumGateModel", name := "dueLetter", desc := "()I" } : Jvm.MethodName)) ∈ lw_g := gwp 124 rfl rfl
theorem wd126 : (Jvm.Cond.initialized "QuorumGate") ∈ lw_g := gwc_1 1 rfl rfl
theorem wd127 : (Jvm.Cond.initialized "QuorumGate$Sets") ∈ lw_g := gwc_1 2 rfl rfl
theorem wd128 : (Jvm.Cond.initialized "QuorumGate$Survey") ∈ lw_g := gwc_1 3 rfl rfl
theorem wd129 : (Jvm.Cond.initialized "QuorumGate$Family") ∈ lw_g := gwc_1 4 rfl rfl
theorem wd130 : (Jvm.Cond.initialized "QuorumGate$Hall") ∈ lw_g := gwc_1 5 rfl rfl
theorem wd131 : (Jvm.Cond.initialized "QuorumGate$Post") ∈ lw_g := gwc_1 6 rfl rfl
theorem wd132 : (Jvm.Cond.initialized "QuorumGate$Log") ∈ lw_g := gwc_1 7 rfl rfl
theorem wd133 : (Jvm.Cond.initialized "QuorumGate$Place") ∈ lw_g := gwc_1 8 rfl rfl
theorem wd134 : (Jvm.Cond.initialized "QuorumGate$Clockwork") ∈ lw_g := gwc_1 9 rfl rfl
theorem wd135 : (Jvm.Cond.initialized "QuorumGate$Search") ∈ lw_g := gwc_1 10 rfl rfl
theorem wd136 : (Jvm.Cond.initialized "java/util/Arrays") ∈ lw_g := gwc_1 11 rfl rfl
theorem wd137 : (Jvm.Cond.initialized "java/lang/System") ∈ lw_g := gwc_1 12 rfl rfl
theorem wd138 : (Jvm.Cond.initialized "QuorumGateModel") ∈ lw_g := gwc_1 13 rfl rfl
theorem wd140 : (Jvm.Cond.initialized "java/lang/Long") ∈ lw_g := gwc_1 15 rfl rfl
theorem wd141 : (Jvm.Cond.initialized "java/lang/Integer") ∈ lw_g := gwc_1 16 rfl rfl
theorem wd142 : (Jvm.Cond.initialized "java/lang/Math") ∈ lw_g := gwc_1 17 rfl rfl
theorem wd145 : (Jvm.Cond.classLink "QuorumGateLaw" (7 : Nat) "QuorumGate") ∈ lw_g := gwc_1 20 rfl rfl
theorem wd146 : (Jvm.Cond.instantiable "QuorumGate" (6 : Nat)) ∈ lw_g := gwc_1 21 rfl rfl
theorem wd147 : (Jvm.Cond.methodLink "QuorumGateLaw" (9 : Nat) ({ cls := "QuorumGate", name := "<init>", desc := "()V" } : Jvm.MethodName)) ∈ lw_g := gwc_1 22 rfl rfl
theorem wd148 : (Jvm.Cond.instanceMethod ({ cls := "QuorumGate", name := "<init>", desc := "()V" } : Jvm.MethodName)) ∈ lw_g := gwc_1 23 rfl rfl
theorem wd149 : (Jvm.Cond.code ({ cls := "QuorumGate", name := "<init>", desc := "()V" } : Jvm.MethodName) prog_1_method_1_code (1 : Nat) (Option.none : Option Jvm.ClassFile.FieldType)) ∈ lw_g := gwc_1 24 rfl rfl
theorem wd150 : (Jvm.Cond.methodLink "QuorumGate" (1 : Nat) ({ cls := "java/lang/Object", name := "<init>", desc := "()V" } : Jvm.MethodName)) ∈ lw_g := gwc_1 25 rfl rfl
theorem wd151 : (Jvm.Cond.instanceMethod ({ cls := "java/lang/Object", name := "<init>", desc := "()V" } : Jvm.MethodName)) ∈ lw_g := gwc_1 26 rfl rfl
theorem wd152 : (Jvm.Cond.code ({ cls := "java/lang/Object", name := "<init>", desc := "()V" } : Jvm.MethodName) object_method_1_code (1 : Nat) (Option.none : Option Jvm.ClassFile.FieldType)) ∈ lw_g := gwc_1 27 rfl rfl
theorem wd153 : (Jvm.Cond.classLink "QuorumGate" (7 : Nat) "QuorumGate$Sets") ∈ lw_g := gwc_1 28 rfl rfl
theorem wd154 : (Jvm.Cond.instantiable "QuorumGate$Sets" (5 : Nat)) ∈ lw_g := gwc_1 29 rfl rfl
theorem wd156 : (Jvm.Cond.instanceMethod ({ cls := "QuorumGate$Sets", name := "<init>", desc := "()V" } : Jvm.MethodName)) ∈ lw_g := gwc_1 31 rfl rfl
theorem wd157 : (Jvm.Cond.code ({ cls := "QuorumGate$Sets", name := "<init>", desc := "()V" } : Jvm.MethodName) prog_9_method_1_code (1 : Nat) (Option.none : Option Jvm.ClassFile.FieldType)) ∈ lw_g := gwc_1 32 rfl rfl
theorem wd158 : (Jvm.Cond.methodLink "QuorumGate$Sets" (3 : Nat) ({ cls := "java/lang/Object", name := "<init>", desc := "()V" } : Jvm.MethodName)) ∈ lw_g := gwc_1 33 rfl rfl
theorem wd159 : (Jvm.Cond.fieldLink "QuorumGate$Sets" (9 : Nat) "QuorumGate$Sets" "bases" "[I") ∈ lw_g := gwc_1 34 rfl rfl
theorem wd160 : (Jvm.Cond.fieldLink "QuorumGate$Survey" (45 : Nat) "QuorumGate$Sets" "bases" "[I") ∈ lw_g := gwc_1 35 rfl rfl
theorem wd161 : (Jvm.Cond.fieldLink "QuorumGate$Hall" (83 : Nat) "QuorumGate$Sets" "bases" "[I") ∈ lw_g := gwc_1 36 rfl rfl
theorem wd162 : (Jvm.Cond.fieldLink "QuorumGate" (92 : Nat) "QuorumGate$Sets" "bases" "[I") ∈ lw_g := gwc_1 37 rfl rfl
theorem wd163 : (Jvm.Cond.fieldLink "QuorumGate$Sets" (15 : Nat) "QuorumGate$Sets" "former" "[I") ∈ lw_g := gwc_1 38 rfl rfl
theorem wd164 : (Jvm.Cond.fieldLink "QuorumGate$Sets" (18 : Nat) "QuorumGate$Sets" "wholes" "[I") ∈ lw_g := gwc_1 39 rfl rfl
theorem wd165 : (Jvm.Cond.fieldLink "QuorumGate$Survey" (35 : Nat) "QuorumGate$Sets" "count" "I") ∈ lw_g := gwc_1 40 rfl rfl
theorem wd166 : (Jvm.Cond.fieldLink "QuorumGate$Hall" (94 : Nat) "QuorumGate$Sets" "count" "I") ∈ lw_g := gwc_1 41 rfl rfl
theorem wd167 : (Jvm.Cond.fieldLink "QuorumGate$Clockwork" (69 : Nat) "QuorumGate$Sets" "count" "I") ∈ lw_g := gwc_1 42 rfl rfl
theorem wd168 : (Jvm.Cond.fieldLink "QuorumGate$Search" (115 : Nat) "QuorumGate$Sets" "count" "I") ∈ lw_g := gwc_1 43 rfl rfl
theorem wd169 : (Jvm.Cond.fieldLink "QuorumGate$Sets" (40 : Nat) "QuorumGate$Sets" "count" "I") ∈ lw_g := gwc_1 44 rfl rfl
theorem wd170 : (Jvm.Cond.fieldLink "QuorumGate" (75 : Nat) "QuorumGate$Sets" "count" "I") ∈ lw_g := gwc_1 45 rfl rfl
theorem wd171 : (Jvm.Cond.fieldLink "QuorumGate$Survey" (51 : Nat) "QuorumGate$Sets" "tree" "Z") ∈ lw_g := gwc_1 46 rfl rfl
theorem wd172 : (Jvm.Cond.fieldLink "QuorumGate$Sets" (36 : Nat) "QuorumGate$Sets" "tree" "Z") ∈ lw_g := gwc_1 47 rfl rfl
theorem wd184 : (Jvm.Cond.arrayClass Jvm.ClassFile.FieldType.int) ∈ lw_g := gwc_1 59 rfl rfl
theorem wd185 : (Jvm.Cond.classLink "QuorumGate" (16 : Nat) "QuorumGate$Survey") ∈ lw_g := gwc_1 60 rfl rfl
theorem wd186 : (Jvm.Cond.instantiable "QuorumGate$Survey" (8 : Nat)) ∈ lw_g := gwc_1 61 rfl rfl
theorem wd188 : (Jvm.Cond.instanceMethod ({ cls := "QuorumGate$Survey", name := "<init>", desc := "()V" } : Jvm.MethodName)) ∈ lw_g := gwc_1 63 rfl rfl
theorem wd189 : (Jvm.Cond.code ({ cls := "QuorumGate$Survey", name := "<init>", desc := "()V" } : Jvm.MethodName) prog_10_method_1_code (1 : Nat) (Option.none : Option Jvm.ClassFile.FieldType)) ∈ lw_g := gwc_1 64 rfl rfl
theorem wd190 : (Jvm.Cond.methodLink "QuorumGate$Survey" (3 : Nat) ({ cls := "java/lang/Object", name := "<init>", desc := "()V" } : Jvm.MethodName)) ∈ lw_g := gwc_1 65 rfl rfl
theorem wd191 : (Jvm.Cond.classLink "QuorumGate$Survey" (9 : Nat) "QuorumGate$Family") ∈ lw_g := gwc_1 66 rfl rfl
theorem wd192 : (Jvm.Cond.instantiable "QuorumGate$Family" (3 : Nat)) ∈ lw_g := gwc_1 67 rfl rfl
theorem wd194 : (Jvm.Cond.instanceMethod ({ cls := "QuorumGate$Family", name := "<init>", desc := "()V" } : Jvm.MethodName)) ∈ lw_g := gwc_1 69 rfl rfl
theorem wd195 : (Jvm.Cond.code ({ cls := "QuorumGate$Family", name := "<init>", desc := "()V" } : Jvm.MethodName) prog_3_method_1_code (1 : Nat) (Option.none : Option Jvm.ClassFile.FieldType)) ∈ lw_g := gwc_1 70 rfl rfl
theorem wd196 : (Jvm.Cond.methodLink "QuorumGate$Family" (5 : Nat) ({ cls := "java/lang/Object", name := "<init>", desc := "()V" } : Jvm.MethodName)) ∈ lw_g := gwc_1 71 rfl rfl
theorem wd197 : (Jvm.Cond.fieldLink "QuorumGate$Family" (11 : Nat) "QuorumGate$Family" "words" "[J") ∈ lw_g := gwc_1 72 rfl rfl
theorem wd198 : (Jvm.Cond.fieldLink "QuorumGate$Family" (15 : Nat) "QuorumGate$Family" "count" "I") ∈ lw_g := gwc_1 73 rfl rfl
theorem wd199 : (Jvm.Cond.fieldLink "QuorumGate$Family" (19 : Nat) "QuorumGate$Family" "used" "I") ∈ lw_g := gwc_1 74 rfl rfl
theorem wd207 : (Jvm.Cond.arrayClass Jvm.ClassFile.FieldType.long) ∈ lw_g := gwc_1 82 rfl rfl
theorem wd208 : (Jvm.Cond.fieldLink "QuorumGate$Survey" (12 : Nat) "QuorumGate$Survey" "live" "LQuorumGate$Family;") ∈ lw_g := gwc_1 83 rfl rfl
theorem wd209 : (Jvm.Cond.fieldLink "QuorumGate" (155 : Nat) "QuorumGate$Survey" "live" "LQuorumGate$Family;") ∈ lw_g := gwc_1 84 rfl rfl
theorem wd210 : (Jvm.Cond.fieldLink "QuorumGate$Survey" (18 : Nat) "QuorumGate$Survey" "enough" "LQuorumGate$Family;") ∈ lw_g := gwc_1 85 rfl rfl
theorem wd211 : (Jvm.Cond.fieldLink "QuorumGate" (125 : Nat) "QuorumGate$Survey" "enough" "LQuorumGate$Family;") ∈ lw_g := gwc_1 86 rfl rfl
theorem wd212 : (Jvm.Cond.fieldLink "QuorumGate$Survey" (21 : Nat) "QuorumGate$Survey" "cases" "[J") ∈ lw_g := gwc_1 87 rfl rfl
theorem wd213 : (Jvm.Cond.fieldLink "QuorumGate$Survey" (25 : Nat) "QuorumGate$Survey" "wholes" "[I") ∈ lw_g := gwc_1 88 rfl rfl
theorem wd214 : (Jvm.Cond.fieldLink "QuorumGate$Survey" (29 : Nat) "QuorumGate$Survey" "starts" "[I") ∈ lw_g := gwc_1 89 rfl rfl
theorem wd215 : (Jvm.Cond.fieldLink "QuorumGate$Survey" (32 : Nat) "QuorumGate$Survey" "ends" "[I") ∈ lw_g := gwc_1 90 rfl rfl
theorem wd216 : (Jvm.Cond.fieldLink "QuorumGate$Survey" (64 : Nat) "QuorumGate$Survey" "listed" "I") ∈ lw_g := gwc_1 91 rfl rfl
theorem wd217 : (Jvm.Cond.fieldLink "QuorumGate$Survey" (61 : Nat) "QuorumGate$Survey" "taken" "Z") ∈ lw_g := gwc_1 92 rfl rfl
theorem wd218 : (Jvm.Cond.fieldLink "QuorumGate" (365 : Nat) "QuorumGate$Survey" "taken" "Z") ∈ lw_g := gwc_1 93 rfl rfl
theorem wd236 : (Jvm.Cond.classLink "QuorumGate" (23 : Nat) "QuorumGate$Hall") ∈ lw_g := gwc_1 111 rfl rfl
theorem wd237 : (Jvm.Cond.instantiable "QuorumGate$Hall" (17 : Nat)) ∈ lw_g := gwc_1 112 rfl rfl
theorem wd238 : (Jvm.Cond.methodLink "QuorumGate" (25 : Nat) ({ cls := "QuorumGate$Hall", name := "<init>", desc := "(LQuorumGate$Sets;)V" } : Jvm.MethodName)) ∈ lw_g := gwc_1 113 rfl rfl
theorem wd239 : (Jvm.Cond.instanceMethod ({ cls := "QuorumGate$Hall", name := "<init>", desc := "(LQuorumGate$Sets;)V" } : Jvm.MethodName)) ∈ lw_g := gwc_1 114 rfl rfl
theorem wd240 : (Jvm.Cond.code ({ cls := "QuorumGate$Hall", name := "<init>", desc := "(LQuorumGate$Sets;)V" } : Jvm.MethodName) prog_4_method_1_code (3 : Nat) (Option.none : Option Jvm.ClassFile.FieldType)) ∈ lw_g := gwc_1 115 rfl rfl
theorem wd241 : (Jvm.Cond.methodLink "QuorumGate$Hall" (3 : Nat) ({ cls := "java/lang/Object", name := "<init>", desc := "()V" } : Jvm.MethodName)) ∈ lw_g := gwc_1 116 rfl rfl
theorem wd242 : (Jvm.Cond.classLink "QuorumGate$Hall" (9 : Nat) "QuorumGate$Post") ∈ lw_g := gwc_1 117 rfl rfl
theorem wd243 : (Jvm.Cond.instantiable "QuorumGate$Post" (12 : Nat)) ∈ lw_g := gwc_1 118 rfl rfl
theorem wd245 : (Jvm.Cond.instanceMethod ({ cls := "QuorumGate$Post", name := "<init>", desc := "()V" } : Jvm.MethodName)) ∈ lw_g := gwc_1 120 rfl rfl
theorem wd246 : (Jvm.Cond.code ({ cls := "QuorumGate$Post", name := "<init>", desc := "()V" } : Jvm.MethodName) prog_7_method_1_code (1 : Nat) (Option.none : Option Jvm.ClassFile.FieldType)) ∈ lw_g := gwc_1 121 rfl rfl
theorem wd247 : (Jvm.Cond.methodLink "QuorumGate$Post" (3 : Nat) ({ cls := "java/lang/Object", name := "<init>", desc := "()V" } : Jvm.MethodName)) ∈ lw_g := gwc_1 122 rfl rfl
theorem wd248 : (Jvm.Cond.fieldLink "QuorumGate$Post" (9 : Nat) "QuorumGate$Post" "first" "[I") ∈ lw_g := gwc_1 123 rfl rfl
theorem wd249 : (Jvm.Cond.fieldLink "QuorumGate$Search" (206 : Nat) "QuorumGate$Post" "first" "[I") ∈ lw_g := gwc_1 124 rfl rfl
theorem wd250 : (Jvm.Cond.fieldLink "QuorumGate$Post" (15 : Nat) "QuorumGate$Post" "last" "[I") ∈ lw_g := gwc_1 125 rfl rfl
theorem wd251 : (Jvm.Cond.fieldLink "QuorumGate$Post" (18 : Nat) "QuorumGate$Post" "many" "[I") ∈ lw_g := gwc_1 126 rfl rfl
theorem wd252 : (Jvm.Cond.fieldLink "QuorumGate$Search" (203 : Nat) "QuorumGate$Post" "many" "[I") ∈ lw_g := gwc_1 127 rfl rfl
theorem wd253 : (Jvm.Cond.fieldLink "QuorumGate$Post" (21 : Nat) "QuorumGate$Post" "busy" "[I") ∈ lw_g := gwc_1 128 rfl rfl
theorem wd254 : (Jvm.Cond.fieldLink "QuorumGate$Clockwork" (91 : Nat) "QuorumGate$Post" "busy" "[I") ∈ lw_g := gwc_1 129 rfl rfl
theorem wd255 : (Jvm.Cond.fieldLink "QuorumGate$Search" (166 : Nat) "QuorumGate$Post" "busy" "[I") ∈ lw_g := gwc_1 130 rfl rfl
theorem wd256 : (Jvm.Cond.fieldLink "QuorumGate$Hall" (287 : Nat) "QuorumGate$Post" "busy" "[I") ∈ lw_g := gwc_1 131 rfl rfl
theorem wd257 : (Jvm.Cond.fieldLink "QuorumGate$Post" (24 : Nat) "QuorumGate$Post" "sent" "[I") ∈ lw_g := gwc_1 132 rfl rfl
theorem wd258 : (Jvm.Cond.fieldLink "QuorumGate" (286 : Nat) "QuorumGate$Post" "sent" "[I") ∈ lw_g := gwc_1 133 rfl rfl
theorem wd259 : (Jvm.Cond.fieldLink "QuorumGate$Post" (27 : Nat) "QuorumGate$Post" "letters" "[I") ∈ lw_g := gwc_1 134 rfl rfl
theorem wd260 : (Jvm.Cond.fieldLink "QuorumGate$Search" (209 : Nat) "QuorumGate$Post" "letters" "[I") ∈ lw_g := gwc_1 135 rfl rfl
theorem wd261 : (Jvm.Cond.fieldLink "QuorumGate$Post" (30 : Nat) "QuorumGate$Post" "went" "[I") ∈ lw_g := gwc_1 136 rfl rfl
theorem wd262 : (Jvm.Cond.fieldLink "QuorumGate$Post" (33 : Nat) "QuorumGate$Post" "next" "[I") ∈ lw_g := gwc_1 137 rfl rfl
theorem wd263 : (Jvm.Cond.fieldLink "QuorumGate$Search" (212 : Nat) "QuorumGate$Post" "next" "[I") ∈ lw_g := gwc_1 138 rfl rfl
theorem wd264 : (Jvm.Cond.fieldLink "QuorumGate$Post" (44 : Nat) "QuorumGate$Post" "used" "I") ∈ lw_g := gwc_1 139 rfl rfl
theorem wd265 : (Jvm.Cond.fieldLink "QuorumGate$Post" (36 : Nat) "QuorumGate$Post" "free" "I") ∈ lw_g := gwc_1 140 rfl rfl
theorem wd266 : (Jvm.Cond.fieldLink "QuorumGate$Clockwork" (62 : Nat) "QuorumGate$Post" "total" "I") ∈ lw_g := gwc_1 141 rfl rfl
theorem wd267 : (Jvm.Cond.fieldLink "QuorumGate$Post" (40 : Nat) "QuorumGate$Post" "total" "I") ∈ lw_g := gwc_1 142 rfl rfl
theorem wd268 : (Jvm.Cond.fieldLink "QuorumGate$Search" (145 : Nat) "QuorumGate$Post" "total" "I") ∈ lw_g := gwc_1 143 rfl rfl
theorem wd269 : (Jvm.Cond.fieldLink "QuorumGate$Hall" (112 : Nat) "QuorumGate$Post" "total" "I") ∈ lw_g := gwc_1 144 rfl rfl
theorem wd270 : (Jvm.Cond.fieldLink "QuorumGate" (255 : Nat) "QuorumGate$Post" "total" "I") ∈ lw_g := gwc_1 145 rfl rfl
theorem wd271 : (Jvm.Cond.fieldLink "QuorumGate$Clockwork" (40 : Nat) "QuorumGate$Post" "now" "I") ∈ lw_g := gwc_1 146 rfl rfl
theorem wd272 : (Jvm.Cond.fieldLink "QuorumGate$Post" (53 : Nat) "QuorumGate$Post" "now" "I") ∈ lw_g := gwc_1 147 rfl rfl
theorem wd273 : (Jvm.Cond.fieldLink "QuorumGate$Hall" (265 : Nat) "QuorumGate$Post" "now" "I") ∈ lw_g := gwc_1 148 rfl rfl
theorem wd299 : (Jvm.Cond.classLink "QuorumGate$Hall" (18 : Nat) "QuorumGate$Place") ∈ lw_g := gwc_1 174 rfl rfl
theorem wd301 : (Jvm.Cond.classLink "QuorumGate$Hall" (24 : Nat) "QuorumGate$Log") ∈ lw_g := gwc_1 176 rfl rfl
theorem wd302 : (Jvm.Cond.instantiable "QuorumGate$Log" (4 : Nat)) ∈ lw_g := gwc_1 177 rfl rfl
theorem wd303 : (Jvm.Cond.methodLink "QuorumGate$Hall" (26 : Nat) ({ cls := "QuorumGate$Log", name := "<init>", desc := "(I)V" } : Jvm.MethodName)) ∈ lw_g := gwc_1 178 rfl rfl
theorem wd304 : (Jvm.Cond.instanceMethod ({ cls := "QuorumGate$Log", name := "<init>", desc := "(I)V" } : Jvm.MethodName)) ∈ lw_g := gwc_1 179 rfl rfl
theorem wd305 : (Jvm.Cond.code ({ cls := "QuorumGate$Log", name := "<init>", desc := "(I)V" } : Jvm.MethodName) prog_5_method_1_code (2 : Nat) (Option.none : Option Jvm.ClassFile.FieldType)) ∈ lw_g := gwc_1 180 rfl rfl
theorem wd306 : (Jvm.Cond.methodLink "QuorumGate$Log" (3 : Nat) ({ cls := "java/lang/Object", name := "<init>", desc := "()V" } : Jvm.MethodName)) ∈ lw_g := gwc_1 181 rfl rfl
theorem wd307 : (Jvm.Cond.fieldLink "QuorumGate$Log" (9 : Nat) "QuorumGate$Log" "most" "I") ∈ lw_g := gwc_1 182 rfl rfl
theorem wd308 : (Jvm.Cond.fieldLink "QuorumGate$Log" (15 : Nat) "QuorumGate$Log" "cells" "[I") ∈ lw_g := gwc_1 183 rfl rfl
theorem wd309 : (Jvm.Cond.fieldLink "QuorumGate$Log" (19 : Nat) "QuorumGate$Log" "held" "I") ∈ lw_g := gwc_1 184 rfl rfl
theorem wd310 : (Jvm.Cond.fieldLink "QuorumGate$Log" (22 : Nat) "QuorumGate$Log" "next" "I") ∈ lw_g := gwc_1 185 rfl rfl
theorem wd320 : (Jvm.Cond.instantiable "QuorumGate$Place" (16 : Nat)) ∈ lw_g := gwc_1 195 rfl rfl
theorem wd322 : (Jvm.Cond.instanceMethod ({ cls := "QuorumGate$Place", name := "<init>", desc := "()V" } : Jvm.MethodName)) ∈ lw_g := gwc_1 197 rfl rfl
theorem wd323 : (Jvm.Cond.code ({ cls := "QuorumGate$Place", name := "<init>", desc := "()V" } : Jvm.MethodName) prog_6_method_1_code (1 : Nat) (Option.none : Option Jvm.ClassFile.FieldType)) ∈ lw_g := gwc_1 198 rfl rfl
theorem wd324 : (Jvm.Cond.methodLink "QuorumGate$Place" (3 : Nat) ({ cls := "java/lang/Object", name := "<init>", desc := "()V" } : Jvm.MethodName)) ∈ lw_g := gwc_1 199 rfl rfl
theorem wd325 : (Jvm.Cond.fieldLink "QuorumGate$Place" (22 : Nat) "QuorumGate$Place" "clock" "I") ∈ lw_g := gwc_1 200 rfl rfl
theorem wd326 : (Jvm.Cond.fieldLink "QuorumGate$Hall" (115 : Nat) "QuorumGate$Place" "clock" "I") ∈ lw_g := gwc_1 201 rfl rfl
theorem wd327 : (Jvm.Cond.fieldLink "QuorumGate$Search" (173 : Nat) "QuorumGate$Place" "clock" "I") ∈ lw_g := gwc_1 202 rfl rfl
theorem wd328 : (Jvm.Cond.fieldLink "QuorumGate" (209 : Nat) "QuorumGate$Place" "clock" "I") ∈ lw_g := gwc_1 203 rfl rfl
theorem wd329 : (Jvm.Cond.fieldLink "QuorumGate$Place" (25 : Nat) "QuorumGate$Place" "stamp" "I") ∈ lw_g := gwc_1 204 rfl rfl
theorem wd330 : (Jvm.Cond.fieldLink "QuorumGate$Search" (83 : Nat) "QuorumGate$Place" "stamp" "I") ∈ lw_g := gwc_1 205 rfl rfl
theorem wd331 : (Jvm.Cond.fieldLink "QuorumGate$Hall" (118 : Nat) "QuorumGate$Place" "stamp" "I") ∈ lw_g := gwc_1 206 rfl rfl
theorem wd332 : (Jvm.Cond.fieldLink "QuorumGate" (174 : Nat) "QuorumGate$Place" "stamp" "I") ∈ lw_g := gwc_1 207 rfl rfl
theorem wd333 : (Jvm.Cond.fieldLink "QuorumGate$Place" (49 : Nat) "QuorumGate$Place" "inUse" "I") ∈ lw_g := gwc_1 208 rfl rfl
theorem wd334 : (Jvm.Cond.fieldLink "QuorumGate$Hall" (124 : Nat) "QuorumGate$Place" "inUse" "I") ∈ lw_g := gwc_1 209 rfl rfl
theorem wd335 : (Jvm.Cond.fieldLink "QuorumGate" (103 : Nat) "QuorumGate$Place" "inUse" "I") ∈ lw_g := gwc_1 210 rfl rfl
theorem wd336 : (Jvm.Cond.fieldLink "QuorumGate$Search" (176 : Nat) "QuorumGate$Place" "inUse" "I") ∈ lw_g := gwc_1 211 rfl rfl
theorem wd337 : (Jvm.Cond.fieldLink "QuorumGate$Place" (52 : Nat) "QuorumGate$Place" "votes" "I") ∈ lw_g := gwc_1 212 rfl rfl
theorem wd338 : (Jvm.Cond.fieldLink "QuorumGate$Search" (179 : Nat) "QuorumGate$Place" "votes" "I") ∈ lw_g := gwc_1 213 rfl rfl
theorem wd339 : (Jvm.Cond.fieldLink "QuorumGate$Hall" (247 : Nat) "QuorumGate$Place" "votes" "I") ∈ lw_g := gwc_1 214 rfl rfl
theorem wd340 : (Jvm.Cond.fieldLink "QuorumGate" (212 : Nat) "QuorumGate$Place" "votes" "I") ∈ lw_g := gwc_1 215 rfl rfl
theorem wd341 : (Jvm.Cond.fieldLink "QuorumGate$Place" (55 : Nat) "QuorumGate$Place" "doubts" "I") ∈ lw_g := gwc_1 216 rfl rfl
theorem wd342 : (Jvm.Cond.fieldLink "QuorumGate$Search" (182 : Nat) "QuorumGate$Place" "doubts" "I") ∈ lw_g := gwc_1 217 rfl rfl
theorem wd343 : (Jvm.Cond.fieldLink "QuorumGate$Hall" (250 : Nat) "QuorumGate$Place" "doubts" "I") ∈ lw_g := gwc_1 218 rfl rfl
theorem wd344 : (Jvm.Cond.fieldLink "QuorumGate" (215 : Nat) "QuorumGate$Place" "doubts" "I") ∈ lw_g := gwc_1 219 rfl rfl
theorem wd345 : (Jvm.Cond.fieldLink "QuorumGate$Place" (58 : Nat) "QuorumGate$Place" "fails" "I") ∈ lw_g := gwc_1 220 rfl rfl
theorem wd346 : (Jvm.Cond.fieldLink "QuorumGate$Search" (185 : Nat) "QuorumGate$Place" "fails" "I") ∈ lw_g := gwc_1 221 rfl rfl
theorem wd347 : (Jvm.Cond.fieldLink "QuorumGate$Hall" (253 : Nat) "QuorumGate$Place" "fails" "I") ∈ lw_g := gwc_1 222 rfl rfl
theorem wd348 : (Jvm.Cond.fieldLink "QuorumGate" (218 : Nat) "QuorumGate$Place" "fails" "I") ∈ lw_g := gwc_1 223 rfl rfl
theorem wd349 : (Jvm.Cond.fieldLink "QuorumGate$Place" (9 : Nat) "QuorumGate$Place" "granted" "I") ∈ lw_g := gwc_1 224 rfl rfl
theorem wd350 : (Jvm.Cond.fieldLink "QuorumGate$Search" (188 : Nat) "QuorumGate$Place" "granted" "I") ∈ lw_g := gwc_1 225 rfl rfl
theorem wd351 : (Jvm.Cond.fieldLink "QuorumGate$Hall" (170 : Nat) "QuorumGate$Place" "granted" "I") ∈ lw_g := gwc_1 226 rfl rfl
theorem wd352 : (Jvm.Cond.fieldLink "QuorumGate" (224 : Nat) "QuorumGate$Place" "granted" "I") ∈ lw_g := gwc_1 227 rfl rfl
theorem wd353 : (Jvm.Cond.fieldLink "QuorumGate$Place" (15 : Nat) "QuorumGate$Place" "grantedStamp" "I") ∈ lw_g := gwc_1 228 rfl rfl
theorem wd354 : (Jvm.Cond.fieldLink "QuorumGate$Search" (191 : Nat) "QuorumGate$Place" "grantedStamp" "I") ∈ lw_g := gwc_1 229 rfl rfl
theorem wd355 : (Jvm.Cond.fieldLink "QuorumGate$Hall" (241 : Nat) "QuorumGate$Place" "grantedStamp" "I") ∈ lw_g := gwc_1 230 rfl rfl
theorem wd356 : (Jvm.Cond.fieldLink "QuorumGate" (227 : Nat) "QuorumGate$Place" "grantedStamp" "I") ∈ lw_g := gwc_1 231 rfl rfl
theorem wd357 : (Jvm.Cond.fieldLink "QuorumGate$Place" (67 : Nat) "QuorumGate$Place" "inquired" "Z") ∈ lw_g := gwc_1 232 rfl rfl
theorem wd358 : (Jvm.Cond.fieldLink "QuorumGate$Search" (194 : Nat) "QuorumGate$Place" "inquired" "Z") ∈ lw_g := gwc_1 233 rfl rfl
theorem wd359 : (Jvm.Cond.fieldLink "QuorumGate$Hall" (237 : Nat) "QuorumGate$Place" "inquired" "Z") ∈ lw_g := gwc_1 234 rfl rfl
theorem wd360 : (Jvm.Cond.fieldLink "QuorumGate" (230 : Nat) "QuorumGate$Place" "inquired" "Z") ∈ lw_g := gwc_1 235 rfl rfl
theorem wd361 : (Jvm.Cond.fieldLink "QuorumGate$Place" (64 : Nat) "QuorumGate$Place" "waiters" "I") ∈ lw_g := gwc_1 236 rfl rfl
theorem wd362 : (Jvm.Cond.fieldLink "QuorumGate$Search" (197 : Nat) "QuorumGate$Place" "waiters" "I") ∈ lw_g := gwc_1 237 rfl rfl
theorem wd363 : (Jvm.Cond.fieldLink "QuorumGate$Hall" (167 : Nat) "QuorumGate$Place" "waiters" "I") ∈ lw_g := gwc_1 238 rfl rfl
theorem wd364 : (Jvm.Cond.fieldLink "QuorumGate" (234 : Nat) "QuorumGate$Place" "waiters" "I") ∈ lw_g := gwc_1 239 rfl rfl
theorem wd365 : (Jvm.Cond.fieldLink "QuorumGate$Place" (18 : Nat) "QuorumGate$Place" "waitStamps" "[I") ∈ lw_g := gwc_2 0 rfl rfl
theorem wd366 : (Jvm.Cond.fieldLink "QuorumGate$Search" (200 : Nat) "QuorumGate$Place" "waitStamps" "[I") ∈ lw_g := gwc_2 1 rfl rfl
theorem wd367 : (Jvm.Cond.fieldLink "QuorumGate$Hall" (234 : Nat) "QuorumGate$Place" "waitStamps" "[I") ∈ lw_g := gwc_2 2 rfl rfl
theorem wd368 : (Jvm.Cond.fieldLink "QuorumGate" (240 : Nat) "QuorumGate$Place" "waitStamps" "[I") ∈ lw_g := gwc_2 3 rfl rfl
theorem wd369 : (Jvm.Cond.fieldLink "QuorumGate$Place" (34 : Nat) "QuorumGate$Place" "entries" "I") ∈ lw_g := gwc_2 4 rfl rfl
theorem wd370 : (Jvm.Cond.fieldLink "QuorumGate$Hall" (271 : Nat) "QuorumGate$Place" "entries" "I") ∈ lw_g := gwc_2 5 rfl rfl
theorem wd371 : (Jvm.Cond.fieldLink "QuorumGate" (221 : Nat) "QuorumGate$Place" "entries" "I") ∈ lw_g := gwc_2 6 rfl rfl
theorem wd372 : (Jvm.Cond.fieldLink "QuorumGate$Place" (37 : Nat) "QuorumGate$Place" "handled" "I") ∈ lw_g := gwc_2 7 rfl rfl
theorem wd373 : (Jvm.Cond.fieldLink "QuorumGate$Hall" (221 : Nat) "QuorumGate$Place" "handled" "I") ∈ lw_g := gwc_2 8 rfl rfl
theorem wd374 : (Jvm.Cond.fieldLink "QuorumGate" (280 : Nat) "QuorumGate$Place" "handled" "I") ∈ lw_g := gwc_2 9 rfl rfl
theorem wd375 : (Jvm.Cond.fieldLink "QuorumGate$Place" (40 : Nat) "QuorumGate$Place" "askedAt" "I") ∈ lw_g := gwc_2 10 rfl rfl
theorem wd376 : (Jvm.Cond.fieldLink "QuorumGate$Hall" (127 : Nat) "QuorumGate$Place" "askedAt" "I") ∈ lw_g := gwc_2 11 rfl rfl
theorem wd377 : (Jvm.Cond.fieldLink "QuorumGate$Place" (43 : Nat) "QuorumGate$Place" "lettersSince" "I") ∈ lw_g := gwc_2 12 rfl rfl
theorem wd378 : (Jvm.Cond.fieldLink "QuorumGate$Hall" (130 : Nat) "QuorumGate$Place" "lettersSince" "I") ∈ lw_g := gwc_2 13 rfl rfl
theorem wd379 : (Jvm.Cond.fieldLink "QuorumGate$Place" (46 : Nat) "QuorumGate$Place" "since" "I") ∈ lw_g := gwc_2 14 rfl rfl
theorem wd380 : (Jvm.Cond.fieldLink "QuorumGate$Clockwork" (82 : Nat) "QuorumGate$Place" "since" "I") ∈ lw_g := gwc_2 15 rfl rfl
theorem wd381 : (Jvm.Cond.fieldLink "QuorumGate$Hall" (268 : Nat) "QuorumGate$Place" "since" "I") ∈ lw_g := gwc_2 16 rfl rfl
theorem wd382 : (Jvm.Cond.fieldLink "QuorumGate" (371 : Nat) "QuorumGate$Place" "since" "I") ∈ lw_g := gwc_2 17 rfl rfl
theorem wd416 : (Jvm.Cond.fieldLink "QuorumGate$Hall" (43 : Nat) "QuorumGate$Hall" "sets" "LQuorumGate$Sets;") ∈ lw_g := gwc_2 51 rfl rfl
theorem wd417 : (Jvm.Cond.fieldLink "QuorumGate$Clockwork" (65 : Nat) "QuorumGate$Hall" "sets" "LQuorumGate$Sets;") ∈ lw_g := gwc_2 52 rfl rfl
theorem wd418 : (Jvm.Cond.fieldLink "QuorumGate$Search" (111 : Nat) "QuorumGate$Hall" "sets" "LQuorumGate$Sets;") ∈ lw_g := gwc_2 53 rfl rfl
theorem wd419 : (Jvm.Cond.fieldLink "QuorumGate$Hall" (12 : Nat) "QuorumGate$Hall" "post" "LQuorumGate$Post;") ∈ lw_g := gwc_2 54 rfl rfl
theorem wd420 : (Jvm.Cond.fieldLink "QuorumGate$Clockwork" (36 : Nat) "QuorumGate$Hall" "post" "LQuorumGate$Post;") ∈ lw_g := gwc_2 55 rfl rfl
theorem wd421 : (Jvm.Cond.fieldLink "QuorumGate$Search" (141 : Nat) "QuorumGate$Hall" "post" "LQuorumGate$Post;") ∈ lw_g := gwc_2 56 rfl rfl
theorem wd422 : (Jvm.Cond.fieldLink "QuorumGate" (243 : Nat) "QuorumGate$Hall" "post" "LQuorumGate$Post;") ∈ lw_g := gwc_2 57 rfl rfl
theorem wd423 : (Jvm.Cond.fieldLink "QuorumGate$Hall" (20 : Nat) "QuorumGate$Hall" "places" "[LQuorumGate$Place;") ∈ lw_g := gwc_2 58 rfl rfl
theorem wd424 : (Jvm.Cond.fieldLink "QuorumGate$Search" (79 : Nat) "QuorumGate$Hall" "places" "[LQuorumGate$Place;") ∈ lw_g := gwc_2 59 rfl rfl
theorem wd425 : (Jvm.Cond.fieldLink "QuorumGate$Clockwork" (78 : Nat) "QuorumGate$Hall" "places" "[LQuorumGate$Place;") ∈ lw_g := gwc_2 60 rfl rfl
theorem wd426 : (Jvm.Cond.fieldLink "QuorumGate" (99 : Nat) "QuorumGate$Hall" "places" "[LQuorumGate$Place;") ∈ lw_g := gwc_2 61 rfl rfl
theorem wd427 : (Jvm.Cond.fieldLink "QuorumGate$Hall" (29 : Nat) "QuorumGate$Hall" "entriesHeld" "LQuorumGate$Log;") ∈ lw_g := gwc_2 62 rfl rfl
theorem wd428 : (Jvm.Cond.fieldLink "QuorumGate" (289 : Nat) "QuorumGate$Hall" "entriesHeld" "LQuorumGate$Log;") ∈ lw_g := gwc_2 63 rfl rfl
theorem wd429 : (Jvm.Cond.fieldLink "QuorumGate$Hall" (33 : Nat) "QuorumGate$Hall" "bringingsHeld" "LQuorumGate$Log;") ∈ lw_g := gwc_2 64 rfl rfl
theorem wd430 : (Jvm.Cond.fieldLink "QuorumGate" (301 : Nat) "QuorumGate$Hall" "bringingsHeld" "LQuorumGate$Log;") ∈ lw_g := gwc_2 65 rfl rfl
theorem wd431 : (Jvm.Cond.fieldLink "QuorumGate$Hall" (36 : Nat) "QuorumGate$Hall" "quorums" "[I") ∈ lw_g := gwc_2 66 rfl rfl
theorem wd432 : (Jvm.Cond.fieldLink "QuorumGate" (96 : Nat) "QuorumGate$Hall" "quorums" "[I") ∈ lw_g := gwc_2 67 rfl rfl
theorem wd433 : (Jvm.Cond.fieldLink "QuorumGate$Hall" (40 : Nat) "QuorumGate$Hall" "awaited" "[I") ∈ lw_g := gwc_2 68 rfl rfl
theorem wd434 : (Jvm.Cond.fieldLink "QuorumGate$Hall" (55 : Nat) "QuorumGate$Hall" "inside" "I") ∈ lw_g := gwc_2 69 rfl rfl
theorem wd435 : (Jvm.Cond.fieldLink "QuorumGate$Clockwork" (59 : Nat) "QuorumGate$Hall" "inside" "I") ∈ lw_g := gwc_2 70 rfl rfl
theorem wd436 : (Jvm.Cond.fieldLink "QuorumGate$Search" (135 : Nat) "QuorumGate$Hall" "inside" "I") ∈ lw_g := gwc_2 71 rfl rfl
theorem wd437 : (Jvm.Cond.fieldLink "QuorumGate" (177 : Nat) "QuorumGate$Hall" "inside" "I") ∈ lw_g := gwc_2 72 rfl rfl
theorem wd438 : (Jvm.Cond.fieldLink "QuorumGate$Hall" (59 : Nat) "QuorumGate$Hall" "asking" "I") ∈ lw_g := gwc_2 73 rfl rfl
theorem wd439 : (Jvm.Cond.fieldLink "QuorumGate$Search" (150 : Nat) "QuorumGate$Hall" "asking" "I") ∈ lw_g := gwc_2 74 rfl rfl
theorem wd440 : (Jvm.Cond.fieldLink "QuorumGate" (191 : Nat) "QuorumGate$Hall" "asking" "I") ∈ lw_g := gwc_2 75 rfl rfl
theorem wd441 : (Jvm.Cond.fieldLink "QuorumGate$Hall" (62 : Nat) "QuorumGate$Hall" "broken" "I") ∈ lw_g := gwc_2 76 rfl rfl
theorem wd442 : (Jvm.Cond.fieldLink "QuorumGate" (197 : Nat) "QuorumGate$Hall" "broken" "I") ∈ lw_g := gwc_2 77 rfl rfl
theorem wd443 : (Jvm.Cond.fieldLink "QuorumGate$Hall" (65 : Nat) "QuorumGate$Hall" "bringings" "I") ∈ lw_g := gwc_2 78 rfl rfl
theorem wd444 : (Jvm.Cond.fieldLink "QuorumGate" (259 : Nat) "QuorumGate$Hall" "bringings" "I") ∈ lw_g := gwc_2 79 rfl rfl
theorem wd445 : (Jvm.Cond.fieldLink "QuorumGate$Hall" (68 : Nat) "QuorumGate$Hall" "entries" "I") ∈ lw_g := gwc_2 80 rfl rfl
theorem wd446 : (Jvm.Cond.fieldLink "QuorumGate$Clockwork" (31 : Nat) "QuorumGate$Hall" "entries" "I") ∈ lw_g := gwc_2 81 rfl rfl
theorem wd447 : (Jvm.Cond.fieldLink "QuorumGate" (258 : Nat) "QuorumGate$Hall" "entries" "I") ∈ lw_g := gwc_2 82 rfl rfl
theorem wd448 : (Jvm.Cond.fieldLink "QuorumGate$Hall" (71 : Nat) "QuorumGate$Hall" "together" "I") ∈ lw_g := gwc_2 83 rfl rfl
theorem wd449 : (Jvm.Cond.fieldLink "QuorumGate" (262 : Nat) "QuorumGate$Hall" "together" "I") ∈ lw_g := gwc_2 84 rfl rfl
theorem wd450 : (Jvm.Cond.fieldLink "QuorumGate$Hall" (74 : Nat) "QuorumGate$Hall" "overtaken" "I") ∈ lw_g := gwc_2 85 rfl rfl
theorem wd451 : (Jvm.Cond.fieldLink "QuorumGate" (274 : Nat) "QuorumGate$Hall" "overtaken" "I") ∈ lw_g := gwc_2 86 rfl rfl
theorem wd452 : (Jvm.Cond.fieldLink "QuorumGate$Hall" (77 : Nat) "QuorumGate$Hall" "mostLetters" "I") ∈ lw_g := gwc_2 87 rfl rfl
theorem wd453 : (Jvm.Cond.fieldLink "QuorumGate" (265 : Nat) "QuorumGate$Hall" "mostLetters" "I") ∈ lw_g := gwc_2 88 rfl rfl
theorem wd454 : (Jvm.Cond.fieldLink "QuorumGate$Hall" (80 : Nat) "QuorumGate$Hall" "mostWaited" "I") ∈ lw_g := gwc_2 89 rfl rfl
theorem wd455 : (Jvm.Cond.fieldLink "QuorumGate" (268 : Nat) "QuorumGate$Hall" "mostWaited" "I") ∈ lw_g := gwc_2 90 rfl rfl
theorem wd456 : (Jvm.Cond.fieldLink "QuorumGate$Hall" (302 : Nat) "QuorumGate$Hall" "drawn" "J") ∈ lw_g := gwc_2 91 rfl rfl
theorem wd457 : (Jvm.Cond.fieldLink "QuorumGate" (304 : Nat) "QuorumGate$Hall" "drawn" "J") ∈ lw_g := gwc_2 92 rfl rfl
theorem wd493 : (Jvm.Cond.classLink "QuorumGate" (35 : Nat) "QuorumGate$Clockwork") ∈ lw_g := gwc_2 128 rfl rfl
theorem wd494 : (Jvm.Cond.instantiable "QuorumGate$Clockwork" (4 : Nat)) ∈ lw_g := gwc_2 129 rfl rfl
theorem wd496 : (Jvm.Cond.instanceMethod ({ cls := "QuorumGate$Clockwork", name := "<init>", desc := "()V" } : Jvm.MethodName)) ∈ lw_g := gwc_2 131 rfl rfl
theorem wd497 : (Jvm.Cond.code ({ cls := "QuorumGate$Clockwork", name := "<init>", desc := "()V" } : Jvm.MethodName) prog_2_method_1_code (1 : Nat) (Option.none : Option Jvm.ClassFile.FieldType)) ∈ lw_g := gwc_2 132 rfl rfl
theorem wd498 : (Jvm.Cond.methodLink "QuorumGate$Clockwork" (3 : Nat) ({ cls := "java/lang/Object", name := "<init>", desc := "()V" } : Jvm.MethodName)) ∈ lw_g := gwc_2 133 rfl rfl
theorem wd499 : (Jvm.Cond.fieldLink "QuorumGate$Clockwork" (9 : Nat) "QuorumGate$Clockwork" "ways" "[I") ∈ lw_g := gwc_2 134 rfl rfl
theorem wd500 : (Jvm.Cond.fieldLink "QuorumGate" (320 : Nat) "QuorumGate$Clockwork" "ways" "[I") ∈ lw_g := gwc_2 135 rfl rfl
theorem wd501 : (Jvm.Cond.fieldLink "QuorumGate$Clockwork" (21 : Nat) "QuorumGate$Clockwork" "end" "I") ∈ lw_g := gwc_2 136 rfl rfl
theorem wd502 : (Jvm.Cond.fieldLink "QuorumGate" (326 : Nat) "QuorumGate$Clockwork" "end" "I") ∈ lw_g := gwc_2 137 rfl rfl
theorem wd503 : (Jvm.Cond.fieldLink "QuorumGate$Clockwork" (25 : Nat) "QuorumGate$Clockwork" "lastEntry" "I") ∈ lw_g := gwc_2 138 rfl rfl
theorem wd504 : (Jvm.Cond.fieldLink "QuorumGate" (329 : Nat) "QuorumGate$Clockwork" "lastEntry" "I") ∈ lw_g := gwc_2 139 rfl rfl
theorem wd505 : (Jvm.Cond.fieldLink "QuorumGate$Clockwork" (28 : Nat) "QuorumGate$Clockwork" "emptyTimes" "I") ∈ lw_g := gwc_2 140 rfl rfl
theorem wd506 : (Jvm.Cond.fieldLink "QuorumGate" (335 : Nat) "QuorumGate$Clockwork" "emptyTimes" "I") ∈ lw_g := gwc_2 141 rfl rfl
theorem wd516 : (Jvm.Cond.classLink "QuorumGate" (42 : Nat) "QuorumGate$Search") ∈ lw_g := gwc_2 151 rfl rfl
theorem wd517 : (Jvm.Cond.instantiable "QuorumGate$Search" (16 : Nat)) ∈ lw_g := gwc_2 152 rfl rfl
theorem wd518 : (Jvm.Cond.methodLink "QuorumGate" (44 : Nat) ({ cls := "QuorumGate$Search", name := "<init>", desc := "(LQuorumGate$Hall;)V" } : Jvm.MethodName)) ∈ lw_g := gwc_2 153 rfl rfl
theorem wd519 : (Jvm.Cond.instanceMethod ({ cls := "QuorumGate$Search", name := "<init>", desc := "(LQuorumGate$Hall;)V" } : Jvm.MethodName)) ∈ lw_g := gwc_2 154 rfl rfl
theorem wd520 : (Jvm.Cond.code ({ cls := "QuorumGate$Search", name := "<init>", desc := "(LQuorumGate$Hall;)V" } : Jvm.MethodName) prog_8_method_1_code (2 : Nat) (Option.none : Option Jvm.ClassFile.FieldType)) ∈ lw_g := gwc_2 155 rfl rfl
theorem wd521 : (Jvm.Cond.methodLink "QuorumGate$Search" (3 : Nat) ({ cls := "java/lang/Object", name := "<init>", desc := "()V" } : Jvm.MethodName)) ∈ lw_g := gwc_2 156 rfl rfl
theorem wd522 : (Jvm.Cond.fieldLink "QuorumGate$Search" (27 : Nat) "QuorumGate$Search" "hall" "LQuorumGate$Hall;") ∈ lw_g := gwc_2 157 rfl rfl
theorem wd523 : (Jvm.Cond.fieldLink "QuorumGate$Search" (9 : Nat) "QuorumGate$Search" "starts" "[I") ∈ lw_g := gwc_2 158 rfl rfl
theorem wd524 : (Jvm.Cond.fieldLink "QuorumGate$Search" (15 : Nat) "QuorumGate$Search" "depths" "[I") ∈ lw_g := gwc_2 159 rfl rfl
theorem wd525 : (Jvm.Cond.fieldLink "QuorumGate$Search" (18 : Nat) "QuorumGate$Search" "insides" "[I") ∈ lw_g := gwc_2 160 rfl rfl
theorem wd526 : (Jvm.Cond.fieldLink "QuorumGate$Search" (21 : Nat) "QuorumGate$Search" "stampsOfNow" "[I") ∈ lw_g := gwc_2 161 rfl rfl
theorem wd527 : (Jvm.Cond.fieldLink "QuorumGate$Search" (24 : Nat) "QuorumGate$Search" "cells" "[I") ∈ lw_g := gwc_2 162 rfl rfl
theorem wd528 : (Jvm.Cond.fieldLink "QuorumGate$Search" (153 : Nat) "QuorumGate$Search" "end" "I") ∈ lw_g := gwc_2 163 rfl rfl
theorem wd529 : (Jvm.Cond.fieldLink "QuorumGate$Search" (221 : Nat) "QuorumGate$Search" "reading" "I") ∈ lw_g := gwc_2 164 rfl rfl
theorem wd530 : (Jvm.Cond.fieldLink "QuorumGate$Search" (96 : Nat) "QuorumGate$Search" "most" "I") ∈ lw_g := gwc_2 165 rfl rfl
theorem wd531 : (Jvm.Cond.fieldLink "QuorumGate$Search" (88 : Nat) "QuorumGate$Search" "askers" "I") ∈ lw_g := gwc_2 166 rfl rfl
theorem wd532 : (Jvm.Cond.fieldLink "QuorumGate$Search" (39 : Nat) "QuorumGate$Search" "met" "I") ∈ lw_g := gwc_2 167 rfl rfl
theorem wd533 : (Jvm.Cond.fieldLink "QuorumGate$Search" (99 : Nat) "QuorumGate$Search" "together" "I") ∈ lw_g := gwc_2 168 rfl rfl
theorem wd534 : (Jvm.Cond.fieldLink "QuorumGate$Search" (102 : Nat) "QuorumGate$Search" "stuck" "I") ∈ lw_g := gwc_2 169 rfl rfl
theorem wd535 : (Jvm.Cond.fieldLink "QuorumGate$Search" (105 : Nat) "QuorumGate$Search" "mostLetters" "I") ∈ lw_g := gwc_2 170 rfl rfl
theorem wd536 : (Jvm.Cond.fieldLink "QuorumGate$Search" (108 : Nat) "QuorumGate$Search" "deepest" "I") ∈ lw_g := gwc_2 171 rfl rfl
theorem wd537 : (Jvm.Cond.fieldLink "QuorumGate$Search" (43 : Nat) "QuorumGate$Search" "someLeft" "Z") ∈ lw_g := gwc_2 172 rfl rfl
theorem wd571 : (Jvm.Cond.methodLink "QuorumGate" (51 : Nat) ({ cls := "QuorumGate$Sets", name := "makeFilled", desc := "(I)V" } : Jvm.MethodName)) ∈ lw_g := gwc_2 206 rfl rfl
theorem wd572 : (Jvm.Cond.instanceMethod ({ cls := "QuorumGate$Sets", name := "makeFilled", desc := "(I)V" } : Jvm.MethodName)) ∈ lw_g := gwc_2 207 rfl rfl
theorem wd573 : (Jvm.Cond.selects "QuorumGate$Sets" ({ cls := "QuorumGate$Sets", name := "makeFilled", desc := "(I)V" } : Jvm.MethodName) ({ cls := "QuorumGate$Sets", name := "makeFilled", desc := "(I)V" } : Jvm.MethodName)) ∈ lw_g := gwc_2 208 rfl rfl
theorem wd574 : (Jvm.Cond.code ({ cls := "QuorumGate$Sets", name := "makeFilled", desc := "(I)V" } : Jvm.MethodName) prog_9_method_2_code (7 : Nat) (Option.none : Option Jvm.ClassFile.FieldType)) ∈ lw_g := gwc_2 209 rfl rfl
theorem wd575 : (Jvm.Cond.methodLink "QuorumGate$Sets" (21 : Nat) ({ cls := "QuorumGate$Sets", name := "begin", desc := "(I)V" } : Jvm.MethodName)) ∈ lw_g := gwc_2 210 rfl rfl
theorem wd577 : (Jvm.Cond.instanceMethod ({ cls := "QuorumGate$Sets", name := "begin", desc := "(I)V" } : Jvm.MethodName)) ∈ lw_g := gwc_2 212 rfl rfl
theorem wd578 : (Jvm.Cond.code ({ cls := "QuorumGate$Sets", name := "begin", desc := "(I)V" } : Jvm.MethodName) prog_9_method_9_code (2 : Nat) (Option.none : Option Jvm.ClassFile.FieldType)) ∈ lw_g := gwc_2 213 rfl rfl
theorem wd579 : (Jvm.Cond.methodLink "QuorumGate$Sets" (54 : Nat) ({ cls := "java/util/Arrays", name := "fill", desc := "([II)V" } : Jvm.MethodName)) ∈ lw_g := gwc_2 214 rfl rfl
theorem wd580 : (Jvm.Cond.static ({ cls := "java/util/Arrays", name := "fill", desc := "([II)V" } : Jvm.MethodName)) ∈ lw_g := gwc_2 215 rfl rfl
theorem wd581 : (Jvm.Cond.code ({ cls := "java/util/Arrays", name := "fill", desc := "([II)V" } : Jvm.MethodName) prog_21_method_103_code (4 : Nat) (Option.none : Option Jvm.ClassFile.FieldType)) ∈ lw_g := gwc_2 216 rfl rfl
theorem wd582 : (Jvm.Cond.methodLink "QuorumGate" (55 : Nat) ({ cls := "QuorumGate", name := "startAnew", desc := "()I" } : Jvm.MethodName)) ∈ lw_g := gwc_2 217 rfl rfl
theorem wd584 : (Jvm.Cond.instanceMethod ({ cls := "QuorumGate", name := "startAnew", desc := "()I" } : Jvm.MethodName)) ∈ lw_g := gwc_2 219 rfl rfl
theorem wd585 : (Jvm.Cond.code ({ cls := "QuorumGate", name := "startAnew", desc := "()I" } : Jvm.MethodName) prog_1_method_51_code (1 : Nat) (Option.some Jvm.ClassFile.FieldType.int)) ∈ lw_g := gwc_2 220 rfl rfl
theorem wd586 : (Jvm.Cond.methodLink "QuorumGate" (361 : Nat) ({ cls := "QuorumGate$Hall", name := "clear", desc := "()V" } : Jvm.MethodName)) ∈ lw_g := gwc_2 221 rfl rfl
theorem wd587 : (Jvm.Cond.instanceMethod ({ cls := "QuorumGate$Hall", name := "clear", desc := "()V" } : Jvm.MethodName)) ∈ lw_g := gwc_2 222 rfl rfl
theorem wd588 : (Jvm.Cond.selects "QuorumGate$Hall" ({ cls := "QuorumGate$Hall", name := "clear", desc := "()V" } : Jvm.MethodName) ({ cls := "QuorumGate$Hall", name := "clear", desc := "()V" } : Jvm.MethodName)) ∈ lw_g := gwc_2 223 rfl rfl
theorem wd589 : (Jvm.Cond.code ({ cls := "QuorumGate$Hall", name := "clear", desc := "()V" } : Jvm.MethodName) prog_4_method_2_code (2 : Nat) (Option.none : Option Jvm.ClassFile.FieldType)) ∈ lw_g := gwc_2 224 rfl rfl
theorem wd590 : (Jvm.Cond.methodLink "QuorumGate$Hall" (48 : Nat) ({ cls := "QuorumGate$Post", name := "clear", desc := "()V" } : Jvm.MethodName)) ∈ lw_g := gwc_2 225 rfl rfl
theorem wd591 : (Jvm.Cond.instanceMethod ({ cls := "QuorumGate$Post", name := "clear", desc := "()V" } : Jvm.MethodName)) ∈ lw_g := gwc_2 226 rfl rfl
theorem wd592 : (Jvm.Cond.selects "QuorumGate$Post" ({ cls := "QuorumGate$Post", name := "clear", desc := "()V" } : Jvm.MethodName) ({ cls := "QuorumGate$Post", name := "clear", desc := "()V" } : Jvm.MethodName)) ∈ lw_g := gwc_2 227 rfl rfl
theorem wd593 : (Jvm.Cond.code ({ cls := "QuorumGate$Post", name := "clear", desc := "()V" } : Jvm.MethodName) prog_7_method_11_code (1 : Nat) (Option.none : Option Jvm.ClassFile.FieldType)) ∈ lw_g := gwc_2 228 rfl rfl
theorem wd594 : (Jvm.Cond.methodLink "QuorumGate$Post" (67 : Nat) ({ cls := "QuorumGate$Post", name := "clearLanes", desc := "()V" } : Jvm.MethodName)) ∈ lw_g := gwc_2 229 rfl rfl
theorem wd595 : (Jvm.Cond.instanceMethod ({ cls := "QuorumGate$Post", name := "clearLanes", desc := "()V" } : Jvm.MethodName)) ∈ lw_g := gwc_2 230 rfl rfl
theorem wd596 : (Jvm.Cond.selects "QuorumGate$Post" ({ cls := "QuorumGate$Post", name := "clearLanes", desc := "()V" } : Jvm.MethodName) ({ cls := "QuorumGate$Post", name := "clearLanes", desc := "()V" } : Jvm.MethodName)) ∈ lw_g := gwc_2 231 rfl rfl
theorem wd597 : (Jvm.Cond.code ({ cls := "QuorumGate$Post", name := "clearLanes", desc := "()V" } : Jvm.MethodName) prog_7_method_12_code (1 : Nat) (Option.none : Option Jvm.ClassFile.FieldType)) ∈ lw_g := gwc_2 232 rfl rfl
theorem wd598 : (Jvm.Cond.methodLink "QuorumGate$Post" (70 : Nat) ({ cls := "java/util/Arrays", name := "fill", desc := "([II)V" } : Jvm.MethodName)) ∈ lw_g := gwc_2 233 rfl rfl
theorem wd599 : (Jvm.Cond.methodLink "QuorumGate$Hall" (51 : Nat) ({ cls := "QuorumGate$Place", name := "clear", desc := "()V" } : Jvm.MethodName)) ∈ lw_g := gwc_2 234 rfl rfl
theorem wd600 : (Jvm.Cond.instanceMethod ({ cls := "QuorumGate$Place", name := "clear", desc := "()V" } : Jvm.MethodName)) ∈ lw_g := gwc_2 235 rfl rfl
theorem wd601 : (Jvm.Cond.selects "QuorumGate$Place" ({ cls := "QuorumGate$Place", name := "clear", desc := "()V" } : Jvm.MethodName) ({ cls := "QuorumGate$Place", name := "clear", desc := "()V" } : Jvm.MethodName)) ∈ lw_g := gwc_2 236 rfl rfl
theorem wd602 : (Jvm.Cond.code ({ cls := "QuorumGate$Place", name := "clear", desc := "()V" } : Jvm.MethodName) prog_6_method_2_code (1 : Nat) (Option.none : Option Jvm.ClassFile.FieldType)) ∈ lw_g := gwc_2 237 rfl rfl
theorem wd603 : (Jvm.Cond.methodLink "QuorumGate$Place" (28 : Nat) ({ cls := "QuorumGate$Place", name := "rest", desc := "()V" } : Jvm.MethodName)) ∈ lw_g := gwc_2 238 rfl rfl
theorem wd604 : (Jvm.Cond.instanceMethod ({ cls := "QuorumGate$Place", name := "rest", desc := "()V" } : Jvm.MethodName)) ∈ lw_g := gwc_2 239 rfl rfl
theorem wd605 : (Jvm.Cond.selects "QuorumGate$Place" ({ cls := "QuorumGate$Place", name := "rest", desc := "()V" } : Jvm.MethodName) ({ cls := "QuorumGate$Place", name := "rest", desc := "()V" } : Jvm.MethodName)) ∈ lw_g := gwc_3 0 rfl rfl
theorem wd606 : (Jvm.Cond.code ({ cls := "QuorumGate$Place", name := "rest", desc := "()V" } : Jvm.MethodName) prog_6_method_3_code (1 : Nat) (Option.none : Option Jvm.ClassFile.FieldType)) ∈ lw_g := gwc_3 1 rfl rfl
theorem wd607 : (Jvm.Cond.methodLink "QuorumGate$Place" (31 : Nat) ({ cls := "QuorumGate$Place", name := "forgetAll", desc := "()V" } : Jvm.MethodName)) ∈ lw_g := gwc_3 2 rfl rfl
theorem wd608 : (Jvm.Cond.instanceMethod ({ cls := "QuorumGate$Place", name := "forgetAll", desc := "()V" } : Jvm.MethodName)) ∈ lw_g := gwc_3 3 rfl rfl
theorem wd609 : (Jvm.Cond.selects "QuorumGate$Place" ({ cls := "QuorumGate$Place", name := "forgetAll", desc := "()V" } : Jvm.MethodName) ({ cls := "QuorumGate$Place", name := "forgetAll", desc := "()V" } : Jvm.MethodName)) ∈ lw_g := gwc_3 4 rfl rfl
theorem wd610 : (Jvm.Cond.code ({ cls := "QuorumGate$Place", name := "forgetAll", desc := "()V" } : Jvm.MethodName) prog_6_method_4_code (1 : Nat) (Option.none : Option Jvm.ClassFile.FieldType)) ∈ lw_g := gwc_3 5 rfl rfl
theorem wd611 : (Jvm.Cond.methodLink "QuorumGate$Place" (61 : Nat) ({ cls := "QuorumGate$Place", name := "forgetGranted", desc := "()V" } : Jvm.MethodName)) ∈ lw_g := gwc_3 6 rfl rfl
theorem wd612 : (Jvm.Cond.instanceMethod ({ cls := "QuorumGate$Place", name := "forgetGranted", desc := "()V" } : Jvm.MethodName)) ∈ lw_g := gwc_3 7 rfl rfl
theorem wd613 : (Jvm.Cond.selects "QuorumGate$Place" ({ cls := "QuorumGate$Place", name := "forgetGranted", desc := "()V" } : Jvm.MethodName) ({ cls := "QuorumGate$Place", name := "forgetGranted", desc := "()V" } : Jvm.MethodName)) ∈ lw_g := gwc_3 8 rfl rfl
theorem wd614 : (Jvm.Cond.code ({ cls := "QuorumGate$Place", name := "forgetGranted", desc := "()V" } : Jvm.MethodName) prog_6_method_5_code (1 : Nat) (Option.none : Option Jvm.ClassFile.FieldType)) ∈ lw_g := gwc_3 9 rfl rfl
theorem wd615 : (Jvm.Cond.methodLink "QuorumGate$Hall" (52 : Nat) ({ cls := "QuorumGate$Log", name := "empty", desc := "()V" } : Jvm.MethodName)) ∈ lw_g := gwc_3 10 rfl rfl
theorem wd616 : (Jvm.Cond.instanceMethod ({ cls := "QuorumGate$Log", name := "empty", desc := "()V" } : Jvm.MethodName)) ∈ lw_g := gwc_3 11 rfl rfl
theorem wd617 : (Jvm.Cond.selects "QuorumGate$Log" ({ cls := "QuorumGate$Log", name := "empty", desc := "()V" } : Jvm.MethodName) ({ cls := "QuorumGate$Log", name := "empty", desc := "()V" } : Jvm.MethodName)) ∈ lw_g := gwc_3 12 rfl rfl
theorem wd618 : (Jvm.Cond.code ({ cls := "QuorumGate$Log", name := "empty", desc := "()V" } : Jvm.MethodName) prog_5_method_2_code (1 : Nat) (Option.none : Option Jvm.ClassFile.FieldType)) ∈ lw_g := gwc_3 13 rfl rfl
theorem wd619 : (Jvm.Cond.methodLink "QuorumGate$Hall" (88 : Nat) ({ cls := "java/lang/System", name := "arraycopy", desc := "(Ljava/lang/Object;ILjava/lang/Object;II)V" } : Jvm.MethodName)) ∈ lw_g := gwc_3 14 rfl rfl
theorem wd620 : (Jvm.Cond.static ({ cls := "java/lang/System", name := "arraycopy", desc := "(Ljava/lang/Object;ILjava/lang/Object;II)V" } : Jvm.MethodName)) ∈ lw_g := gwc_3 15 rfl rfl
theorem wd621 : (Jvm.Cond.native ({ cls := "java/lang/System", name := "arraycopy", desc := "(Ljava/lang/Object;ILjava/lang/Object;II)V" } : Jvm.MethodName)) ∈ lw_g := gwc_3 16 rfl rfl
theorem wd622 : (Jvm.Cond.methodLink "QuorumGate" (364 : Nat) ({ cls := "QuorumGate$Clockwork", name := "clear", desc := "()V" } : Jvm.MethodName)) ∈ lw_g := gwc_3 17 rfl rfl
theorem wd623 : (Jvm.Cond.instanceMethod ({ cls := "QuorumGate$Clockwork", name := "clear", desc := "()V" } : Jvm.MethodName)) ∈ lw_g := gwc_3 18 rfl rfl
theorem wd624 : (Jvm.Cond.selects "QuorumGate$Clockwork" ({ cls := "QuorumGate$Clockwork", name := "clear", desc := "()V" } : Jvm.MethodName) ({ cls := "QuorumGate$Clockwork", name := "clear", desc := "()V" } : Jvm.MethodName)) ∈ lw_g := gwc_3 19 rfl rfl
theorem wd625 : (Jvm.Cond.code ({ cls := "QuorumGate$Clockwork", name := "clear", desc := "()V" } : Jvm.MethodName) prog_2_method_2_code (1 : Nat) (Option.none : Option Jvm.ClassFile.FieldType)) ∈ lw_g := gwc_3 20 rfl rfl
theorem wd626 : (Jvm.Cond.methodLink "QuorumGate$Clockwork" (15 : Nat) ({ cls := "java/util/Arrays", name := "fill", desc := "([II)V" } : Jvm.MethodName)) ∈ lw_g := gwc_3 21 rfl rfl
theorem wd627 : (Jvm.Cond.fieldLink "QuorumGate" (10 : Nat) "QuorumGate" "sets" "LQuorumGate$Sets;") ∈ lw_g := gwc_3 22 rfl rfl
theorem wd628 : (Jvm.Cond.fieldLink "QuorumGate" (19 : Nat) "QuorumGate" "survey" "LQuorumGate$Survey;") ∈ lw_g := gwc_3 23 rfl rfl
theorem wd629 : (Jvm.Cond.fieldLink "QuorumGate" (28 : Nat) "QuorumGate" "hall" "LQuorumGate$Hall;") ∈ lw_g := gwc_3 24 rfl rfl
theorem wd630 : (Jvm.Cond.fieldLink "QuorumGate" (32 : Nat) "QuorumGate" "trial" "LQuorumGate$Hall;") ∈ lw_g := gwc_3 25 rfl rfl
theorem wd631 : (Jvm.Cond.fieldLink "QuorumGate" (38 : Nat) "QuorumGate" "clockwork" "LQuorumGate$Clockwork;") ∈ lw_g := gwc_3 26 rfl rfl
theorem wd632 : (Jvm.Cond.fieldLink "QuorumGate" (47 : Nat) "QuorumGate" "search" "LQuorumGate$Search;") ∈ lw_g := gwc_3 27 rfl rfl
theorem wd646 : (Jvm.Cond.methodLink "QuorumGateLaw" (13 : Nat) ({ cls := "QuorumGate", name := "grid", desc := "(I)I" } : Jvm.MethodName)) ∈ lw_g := gwc_3 41 rfl rfl
theorem wd647 : (Jvm.Cond.instanceMethod ({ cls := "QuorumGate", name := "grid", desc := "(I)I" } : Jvm.MethodName)) ∈ lw_g := gwc_3 42 rfl rfl
theorem wd648 : (Jvm.Cond.selects "QuorumGate" ({ cls := "QuorumGate", name := "grid", desc := "(I)I" } : Jvm.MethodName) ({ cls := "QuorumGate", name := "grid", desc := "(I)I" } : Jvm.MethodName)) ∈ lw_g := gwc_3 43 rfl rfl
theorem wd649 : (Jvm.Cond.code ({ cls := "QuorumGate", name := "grid", desc := "(I)I" } : Jvm.MethodName) prog_1_method_2_code (2 : Nat) (Option.some Jvm.ClassFile.FieldType.int)) ∈ lw_g := gwc_3 44 rfl rfl
theorem wd650 : (Jvm.Cond.methodLink "QuorumGateLaw" (18 : Nat) ({ cls := "QuorumGate", name := "plane", desc := "(I)I" } : Jvm.MethodName)) ∈ lw_g := gwc_3 45 rfl rfl
theorem wd651 : (Jvm.Cond.instanceMethod ({ cls := "QuorumGate", name := "plane", desc := "(I)I" } : Jvm.MethodName)) ∈ lw_g := gwc_3 46 rfl rfl
theorem wd652 : (Jvm.Cond.selects "QuorumGate" ({ cls := "QuorumGate", name := "plane", desc := "(I)I" } : Jvm.MethodName) ({ cls := "QuorumGate", name := "plane", desc := "(I)I" } : Jvm.MethodName)) ∈ lw_g := gwc_3 47 rfl rfl
theorem wd653 : (Jvm.Cond.code ({ cls := "QuorumGate", name := "plane", desc := "(I)I" } : Jvm.MethodName) prog_1_method_3_code (2 : Nat) (Option.some Jvm.ClassFile.FieldType.int)) ∈ lw_g := gwc_3 48 rfl rfl
theorem wd654 : (Jvm.Cond.methodLink "QuorumGate" (59 : Nat) ({ cls := "QuorumGate$Sets", name := "makePlane", desc := "(I)V" } : Jvm.MethodName)) ∈ lw_g := gwc_3 49 rfl rfl
theorem wd655 : (Jvm.Cond.instanceMethod ({ cls := "QuorumGate$Sets", name := "makePlane", desc := "(I)V" } : Jvm.MethodName)) ∈ lw_g := gwc_3 50 rfl rfl
theorem wd656 : (Jvm.Cond.selects "QuorumGate$Sets" ({ cls := "QuorumGate$Sets", name := "makePlane", desc := "(I)V" } : Jvm.MethodName) ({ cls := "QuorumGate$Sets", name := "makePlane", desc := "(I)V" } : Jvm.MethodName)) ∈ lw_g := gwc_3 51 rfl rfl
theorem wd657 : (Jvm.Cond.code ({ cls := "QuorumGate$Sets", name := "makePlane", desc := "(I)V" } : Jvm.MethodName) prog_9_method_3_code (5 : Nat) (Option.none : Option Jvm.ClassFile.FieldType)) ∈ lw_g := gwc_3 52 rfl rfl
theorem wd658 : (Jvm.Cond.fieldLink "QuorumGate$Sets" (25 : Nat) "QuorumGate$Sets" "PLANE_STEPS" "[I") ∈ lw_g := gwc_3 53 rfl rfl
theorem wd660 : (Jvm.Cond.methodLink "QuorumGateLaw" (22 : Nat) ({ cls := "QuorumGate", name := "filled", desc := "(I)I" } : Jvm.MethodName)) ∈ lw_g := gwc_3 55 rfl rfl
theorem wd661 : (Jvm.Cond.instanceMethod ({ cls := "QuorumGate", name := "filled", desc := "(I)I" } : Jvm.MethodName)) ∈ lw_g := gwc_3 56 rfl rfl
theorem wd662 : (Jvm.Cond.selects "QuorumGate" ({ cls := "QuorumGate", name := "filled", desc := "(I)I" } : Jvm.MethodName) ({ cls := "QuorumGate", name := "filled", desc := "(I)I" } : Jvm.MethodName)) ∈ lw_g := gwc_3 57 rfl rfl
theorem wd663 : (Jvm.Cond.code ({ cls := "QuorumGate", name := "filled", desc := "(I)I" } : Jvm.MethodName) prog_1_method_4_code (2 : Nat) (Option.some Jvm.ClassFile.FieldType.int)) ∈ lw_g := gwc_3 58 rfl rfl
theorem wd664 : (Jvm.Cond.methodLink "QuorumGateLaw" (26 : Nat) ({ cls := "QuorumGate", name := "majority", desc := "(I)I" } : Jvm.MethodName)) ∈ lw_g := gwc_3 59 rfl rfl
theorem wd665 : (Jvm.Cond.instanceMethod ({ cls := "QuorumGate", name := "majority", desc := "(I)I" } : Jvm.MethodName)) ∈ lw_g := gwc_3 60 rfl rfl
theorem wd666 : (Jvm.Cond.selects "QuorumGate" ({ cls := "QuorumGate", name := "majority", desc := "(I)I" } : Jvm.MethodName) ({ cls := "QuorumGate", name := "majority", desc := "(I)I" } : Jvm.MethodName)) ∈ lw_g := gwc_3 61 rfl rfl
theorem wd667 : (Jvm.Cond.code ({ cls := "QuorumGate", name := "majority", desc := "(I)I" } : Jvm.MethodName) prog_1_method_5_code (2 : Nat) (Option.some Jvm.ClassFile.FieldType.int)) ∈ lw_g := gwc_3 62 rfl rfl
theorem wd668 : (Jvm.Cond.methodLink "QuorumGate" (62 : Nat) ({ cls := "QuorumGate$Sets", name := "makeMajority", desc := "(I)V" } : Jvm.MethodName)) ∈ lw_g := gwc_3 63 rfl rfl
theorem wd669 : (Jvm.Cond.instanceMethod ({ cls := "QuorumGate$Sets", name := "makeMajority", desc := "(I)V" } : Jvm.MethodName)) ∈ lw_g := gwc_3 64 rfl rfl
theorem wd670 : (Jvm.Cond.selects "QuorumGate$Sets" ({ cls := "QuorumGate$Sets", name := "makeMajority", desc := "(I)V" } : Jvm.MethodName) ({ cls := "QuorumGate$Sets", name := "makeMajority", desc := "(I)V" } : Jvm.MethodName)) ∈ lw_g := gwc_3 65 rfl rfl
theorem wd671 : (Jvm.Cond.code ({ cls := "QuorumGate$Sets", name := "makeMajority", desc := "(I)V" } : Jvm.MethodName) prog_9_method_4_code (3 : Nat) (Option.none : Option Jvm.ClassFile.FieldType)) ∈ lw_g := gwc_3 66 rfl rfl
theorem wd672 : (Jvm.Cond.methodLink "QuorumGate$Sets" (28 : Nat) ({ cls := "QuorumGate$Sets", name := "majorityFrom", desc := "(II)I" } : Jvm.MethodName)) ∈ lw_g := gwc_3 67 rfl rfl
theorem wd673 : (Jvm.Cond.static ({ cls := "QuorumGate$Sets", name := "majorityFrom", desc := "(II)I" } : Jvm.MethodName)) ∈ lw_g := gwc_3 68 rfl rfl
theorem wd674 : (Jvm.Cond.code ({ cls := "QuorumGate$Sets", name := "majorityFrom", desc := "(II)I" } : Jvm.MethodName) prog_9_method_10_code (4 : Nat) (Option.some Jvm.ClassFile.FieldType.int)) ∈ lw_g := gwc_3 69 rfl rfl
theorem wd675 : (Jvm.Cond.methodLink "QuorumGateLaw" (30 : Nat) ({ cls := "QuorumGate", name := "wheel", desc := "(I)I" } : Jvm.MethodName)) ∈ lw_g := gwc_3 70 rfl rfl
theorem wd676 : (Jvm.Cond.instanceMethod ({ cls := "QuorumGate", name := "wheel", desc := "(I)I" } : Jvm.MethodName)) ∈ lw_g := gwc_3 71 rfl rfl
theorem wd677 : (Jvm.Cond.selects "QuorumGate" ({ cls := "QuorumGate", name := "wheel", desc := "(I)I" } : Jvm.MethodName) ({ cls := "QuorumGate", name := "wheel", desc := "(I)I" } : Jvm.MethodName)) ∈ lw_g := gwc_3 72 rfl rfl
theorem wd678 : (Jvm.Cond.code ({ cls := "QuorumGate", name := "wheel", desc := "(I)I" } : Jvm.MethodName) prog_1_method_6_code (2 : Nat) (Option.some Jvm.ClassFile.FieldType.int)) ∈ lw_g := gwc_3 73 rfl rfl
theorem wd679 : (Jvm.Cond.methodLink "QuorumGate" (65 : Nat) ({ cls := "QuorumGate$Sets", name := "makeWheel", desc := "(I)V" } : Jvm.MethodName)) ∈ lw_g := gwc_3 74 rfl rfl
theorem wd680 : (Jvm.Cond.instanceMethod ({ cls := "QuorumGate$Sets", name := "makeWheel", desc := "(I)V" } : Jvm.MethodName)) ∈ lw_g := gwc_3 75 rfl rfl
theorem wd681 : (Jvm.Cond.selects "QuorumGate$Sets" ({ cls := "QuorumGate$Sets", name := "makeWheel", desc := "(I)V" } : Jvm.MethodName) ({ cls := "QuorumGate$Sets", name := "makeWheel", desc := "(I)V" } : Jvm.MethodName)) ∈ lw_g := gwc_3 76 rfl rfl
theorem wd682 : (Jvm.Cond.code ({ cls := "QuorumGate$Sets", name := "makeWheel", desc := "(I)V" } : Jvm.MethodName) prog_9_method_5_code (3 : Nat) (Option.none : Option Jvm.ClassFile.FieldType)) ∈ lw_g := gwc_3 77 rfl rfl
theorem wd683 : (Jvm.Cond.methodLink "QuorumGate$Sets" (32 : Nat) ({ cls := "QuorumGate$Sets", name := "allNodes", desc := "()I" } : Jvm.MethodName)) ∈ lw_g := gwc_3 78 rfl rfl
theorem wd684 : (Jvm.Cond.instanceMethod ({ cls := "QuorumGate$Sets", name := "allNodes", desc := "()I" } : Jvm.MethodName)) ∈ lw_g := gwc_3 79 rfl rfl
theorem wd685 : (Jvm.Cond.selects "QuorumGate$Sets" ({ cls := "QuorumGate$Sets", name := "allNodes", desc := "()I" } : Jvm.MethodName) ({ cls := "QuorumGate$Sets", name := "allNodes", desc := "()I" } : Jvm.MethodName)) ∈ lw_g := gwc_3 80 rfl rfl
theorem wd686 : (Jvm.Cond.code ({ cls := "QuorumGate$Sets", name := "allNodes", desc := "()I" } : Jvm.MethodName) prog_9_method_12_code (1 : Nat) (Option.some Jvm.ClassFile.FieldType.int)) ∈ lw_g := gwc_3 81 rfl rfl
theorem wd687 : (Jvm.Cond.methodLink "QuorumGateLaw" (34 : Nat) ({ cls := "QuorumGate", name := "tree", desc := "(I)I" } : Jvm.MethodName)) ∈ lw_g := gwc_3 82 rfl rfl
theorem wd688 : (Jvm.Cond.instanceMethod ({ cls := "QuorumGate", name := "tree", desc := "(I)I" } : Jvm.MethodName)) ∈ lw_g := gwc_3 83 rfl rfl
theorem wd689 : (Jvm.Cond.selects "QuorumGate" ({ cls := "QuorumGate", name := "tree", desc := "(I)I" } : Jvm.MethodName) ({ cls := "QuorumGate", name := "tree", desc := "(I)I" } : Jvm.MethodName)) ∈ lw_g := gwc_3 84 rfl rfl
theorem wd690 : (Jvm.Cond.code ({ cls := "QuorumGate", name := "tree", desc := "(I)I" } : Jvm.MethodName) prog_1_method_7_code (2 : Nat) (Option.some Jvm.ClassFile.FieldType.int)) ∈ lw_g := gwc_3 85 rfl rfl
theorem wd691 : (Jvm.Cond.methodLink "QuorumGate" (68 : Nat) ({ cls := "QuorumGate$Sets", name := "makeTree", desc := "(I)V" } : Jvm.MethodName)) ∈ lw_g := gwc_3 86 rfl rfl
theorem wd692 : (Jvm.Cond.instanceMethod ({ cls := "QuorumGate$Sets", name := "makeTree", desc := "(I)V" } : Jvm.MethodName)) ∈ lw_g := gwc_3 87 rfl rfl
theorem wd693 : (Jvm.Cond.selects "QuorumGate$Sets" ({ cls := "QuorumGate$Sets", name := "makeTree", desc := "(I)V" } : Jvm.MethodName) ({ cls := "QuorumGate$Sets", name := "makeTree", desc := "(I)V" } : Jvm.MethodName)) ∈ lw_g := gwc_3 88 rfl rfl
theorem wd694 : (Jvm.Cond.code ({ cls := "QuorumGate$Sets", name := "makeTree", desc := "(I)V" } : Jvm.MethodName) prog_9_method_6_code (5 : Nat) (Option.none : Option Jvm.ClassFile.FieldType)) ∈ lw_g := gwc_3 89 rfl rfl
theorem wd695 : (Jvm.Cond.methodLink "QuorumGateLaw" (38 : Nat) ({ cls := "QuorumGate", name := "within", desc := "(II)I" } : Jvm.MethodName)) ∈ lw_g := gwc_3 90 rfl rfl
theorem wd696 : (Jvm.Cond.instanceMethod ({ cls := "QuorumGate", name := "within", desc := "(II)I" } : Jvm.MethodName)) ∈ lw_g := gwc_3 91 rfl rfl
theorem wd697 : (Jvm.Cond.selects "QuorumGate" ({ cls := "QuorumGate", name := "within", desc := "(II)I" } : Jvm.MethodName) ({ cls := "QuorumGate", name := "within", desc := "(II)I" } : Jvm.MethodName)) ∈ lw_g := gwc_3 92 rfl rfl
theorem wd698 : (Jvm.Cond.code ({ cls := "QuorumGate", name := "within", desc := "(II)I" } : Jvm.MethodName) prog_1_method_8_code (3 : Nat) (Option.some Jvm.ClassFile.FieldType.int)) ∈ lw_g := gwc_3 93 rfl rfl
theorem wd699 : (Jvm.Cond.methodLink "QuorumGate" (71 : Nat) ({ cls := "QuorumGate$Sets", name := "isNode", desc := "(I)Z" } : Jvm.MethodName)) ∈ lw_g := gwc_3 94 rfl rfl
theorem wd700 : (Jvm.Cond.instanceMethod ({ cls := "QuorumGate$Sets", name := "isNode", desc := "(I)Z" } : Jvm.MethodName)) ∈ lw_g := gwc_3 95 rfl rfl
theorem wd701 : (Jvm.Cond.selects "QuorumGate$Sets" ({ cls := "QuorumGate$Sets", name := "isNode", desc := "(I)Z" } : Jvm.MethodName) ({ cls := "QuorumGate$Sets", name := "isNode", desc := "(I)Z" } : Jvm.MethodName)) ∈ lw_g := gwc_3 96 rfl rfl
theorem wd702 : (Jvm.Cond.code ({ cls := "QuorumGate$Sets", name := "isNode", desc := "(I)Z" } : Jvm.MethodName) prog_9_method_13_code (2 : Nat) (Option.some Jvm.ClassFile.FieldType.boolean)) ∈ lw_g := gwc_3 97 rfl rfl
theorem wd703 : (Jvm.Cond.methodLink "QuorumGate" (79 : Nat) ({ cls := "QuorumGate$Sets", name := "makeWithin", desc := "(II)V" } : Jvm.MethodName)) ∈ lw_g := gwc_3 98 rfl rfl
theorem wd704 : (Jvm.Cond.instanceMethod ({ cls := "QuorumGate$Sets", name := "makeWithin", desc := "(II)V" } : Jvm.MethodName)) ∈ lw_g := gwc_3 99 rfl rfl
theorem wd705 : (Jvm.Cond.selects "QuorumGate$Sets" ({ cls := "QuorumGate$Sets", name := "makeWithin", desc := "(II)V" } : Jvm.MethodName) ({ cls := "QuorumGate$Sets", name := "makeWithin", desc := "(II)V" } : Jvm.MethodName)) ∈ lw_g := gwc_3 100 rfl rfl
theorem wd706 : (Jvm.Cond.code ({ cls := "QuorumGate$Sets", name := "makeWithin", desc := "(II)V" } : Jvm.MethodName) prog_9_method_7_code (6 : Nat) (Option.none : Option Jvm.ClassFile.FieldType)) ∈ lw_g := gwc_3 101 rfl rfl
theorem wd707 : (Jvm.Cond.methodLink "QuorumGate$Sets" (44 : Nat) ({ cls := "java/lang/System", name := "arraycopy", desc := "(Ljava/lang/Object;ILjava/lang/Object;II)V" } : Jvm.MethodName)) ∈ lw_g := gwc_3 102 rfl rfl
theorem wd708 : (Jvm.Cond.methodLink "QuorumGate$Sets" (50 : Nat) ({ cls := "QuorumGate$Sets", name := "replaced", desc := "(III)I" } : Jvm.MethodName)) ∈ lw_g := gwc_3 103 rfl rfl
theorem wd709 : (Jvm.Cond.static ({ cls := "QuorumGate$Sets", name := "replaced", desc := "(III)I" } : Jvm.MethodName)) ∈ lw_g := gwc_3 104 rfl rfl
theorem wd710 : (Jvm.Cond.code ({ cls := "QuorumGate$Sets", name := "replaced", desc := "(III)I" } : Jvm.MethodName) prog_9_method_11_code (5 : Nat) (Option.some Jvm.ClassFile.FieldType.int)) ∈ lw_g := gwc_3 105 rfl rfl
theorem wd712 : (Jvm.Cond.static ({ cls := "QuorumGate", name := "has", desc := "(II)Z" } : Jvm.MethodName)) ∈ lw_g := gwc_3 107 rfl rfl
theorem wd713 : (Jvm.Cond.code ({ cls := "QuorumGate", name := "has", desc := "(II)Z" } : Jvm.MethodName) prog_1_method_57_code (2 : Nat) (Option.some Jvm.ClassFile.FieldType.boolean)) ∈ lw_g := gwc_3 108 rfl rfl
theorem wd714 : (Jvm.Cond.methodLink "QuorumGateLaw" (43 : Nat) ({ cls := "QuorumGate", name := "base", desc := "(II)I" } : Jvm.MethodName)) ∈ lw_g := gwc_3 109 rfl rfl
theorem wd715 : (Jvm.Cond.instanceMethod ({ cls := "QuorumGate", name := "base", desc := "(II)I" } : Jvm.MethodName)) ∈ lw_g := gwc_3 110 rfl rfl
theorem wd716 : (Jvm.Cond.selects "QuorumGate" ({ cls := "QuorumGate", name := "base", desc := "(II)I" } : Jvm.MethodName) ({ cls := "QuorumGate", name := "base", desc := "(II)I" } : Jvm.MethodName)) ∈ lw_g := gwc_3 111 rfl rfl
theorem wd717 : (Jvm.Cond.code ({ cls := "QuorumGate", name := "base", desc := "(II)I" } : Jvm.MethodName) prog_1_method_9_code (3 : Nat) (Option.some Jvm.ClassFile.FieldType.int)) ∈ lw_g := gwc_3 112 rfl rfl
theorem wd718 : (Jvm.Cond.methodLink "QuorumGate" (83 : Nat) ({ cls := "QuorumGate$Sets", name := "isSetOfNodes", desc := "(I)Z" } : Jvm.MethodName)) ∈ lw_g := gwc_3 113 rfl rfl
theorem wd719 : (Jvm.Cond.instanceMethod ({ cls := "QuorumGate$Sets", name := "isSetOfNodes", desc := "(I)Z" } : Jvm.MethodName)) ∈ lw_g := gwc_3 114 rfl rfl
theorem wd720 : (Jvm.Cond.selects "QuorumGate$Sets" ({ cls := "QuorumGate$Sets", name := "isSetOfNodes", desc := "(I)Z" } : Jvm.MethodName) ({ cls := "QuorumGate$Sets", name := "isSetOfNodes", desc := "(I)Z" } : Jvm.MethodName)) ∈ lw_g := gwc_3 115 rfl rfl
theorem wd721 : (Jvm.Cond.code ({ cls := "QuorumGate$Sets", name := "isSetOfNodes", desc := "(I)Z" } : Jvm.MethodName) prog_9_method_14_code (2 : Nat) (Option.some Jvm.ClassFile.FieldType.boolean)) ∈ lw_g := gwc_3 116 rfl rfl
theorem wd722 : (Jvm.Cond.methodLink "QuorumGate" (86 : Nat) ({ cls := "QuorumGate$Sets", name := "tellByHand", desc := "(II)V" } : Jvm.MethodName)) ∈ lw_g := gwc_3 117 rfl rfl
theorem wd723 : (Jvm.Cond.instanceMethod ({ cls := "QuorumGate$Sets", name := "tellByHand", desc := "(II)V" } : Jvm.MethodName)) ∈ lw_g := gwc_3 118 rfl rfl
theorem wd724 : (Jvm.Cond.selects "QuorumGate$Sets" ({ cls := "QuorumGate$Sets", name := "tellByHand", desc := "(II)V" } : Jvm.MethodName) ({ cls := "QuorumGate$Sets", name := "tellByHand", desc := "(II)V" } : Jvm.MethodName)) ∈ lw_g := gwc_3 119 rfl rfl
theorem wd725 : (Jvm.Cond.code ({ cls := "QuorumGate$Sets", name := "tellByHand", desc := "(II)V" } : Jvm.MethodName) prog_9_method_8_code (3 : Nat) (Option.none : Option Jvm.ClassFile.FieldType)) ∈ lw_g := gwc_3 120 rfl rfl
theorem wd726 : (Jvm.Cond.methodLink "QuorumGate" (89 : Nat) ({ cls := "QuorumGate$Sets", name := "countApart", desc := "()I" } : Jvm.MethodName)) ∈ lw_g := gwc_3 121 rfl rfl
theorem wd727 : (Jvm.Cond.instanceMethod ({ cls := "QuorumGate$Sets", name := "countApart", desc := "()I" } : Jvm.MethodName)) ∈ lw_g := gwc_3 122 rfl rfl
theorem wd728 : (Jvm.Cond.selects "QuorumGate$Sets" ({ cls := "QuorumGate$Sets", name := "countApart", desc := "()I" } : Jvm.MethodName) ({ cls := "QuorumGate$Sets", name := "countApart", desc := "()I" } : Jvm.MethodName)) ∈ lw_g := gwc_3 123 rfl rfl
theorem wd729 : (Jvm.Cond.code ({ cls := "QuorumGate$Sets", name := "countApart", desc := "()I" } : Jvm.MethodName) prog_9_method_20_code (4 : Nat) (Option.some Jvm.ClassFile.FieldType.int)) ∈ lw_g := gwc_3 124 rfl rfl
theorem wd730 : (Jvm.Cond.methodLink "QuorumGateLaw" (47 : Nat) ({ cls := "QuorumGate", name := "quorum", desc := "(II)I" } : Jvm.MethodName)) ∈ lw_g := gwc_3 125 rfl rfl
theorem wd731 : (Jvm.Cond.instanceMethod ({ cls := "QuorumGate", name := "quorum", desc := "(II)I" } : Jvm.MethodName)) ∈ lw_g := gwc_3 126 rfl rfl
theorem wd732 : (Jvm.Cond.selects "QuorumGate" ({ cls := "QuorumGate", name := "quorum", desc := "(II)I" } : Jvm.MethodName) ({ cls := "QuorumGate", name := "quorum", desc := "(II)I" } : Jvm.MethodName)) ∈ lw_g := gwc_3 127 rfl rfl
theorem wd733 : (Jvm.Cond.code ({ cls := "QuorumGate", name := "quorum", desc := "(II)I" } : Jvm.MethodName) prog_1_method_10_code (3 : Nat) (Option.some Jvm.ClassFile.FieldType.int)) ∈ lw_g := gwc_3 128 rfl rfl
theorem wd734 : (Jvm.Cond.methodLink "QuorumGateLaw" (51 : Nat) ({ cls := "QuorumGate", name := "meeting", desc := "(II)I" } : Jvm.MethodName)) ∈ lw_g := gwc_3 129 rfl rfl
theorem wd735 : (Jvm.Cond.instanceMethod ({ cls := "QuorumGate", name := "meeting", desc := "(II)I" } : Jvm.MethodName)) ∈ lw_g := gwc_3 130 rfl rfl
theorem wd736 : (Jvm.Cond.selects "QuorumGate" ({ cls := "QuorumGate", name := "meeting", desc := "(II)I" } : Jvm.MethodName) ({ cls := "QuorumGate", name := "meeting", desc := "(II)I" } : Jvm.MethodName)) ∈ lw_g := gwc_3 131 rfl rfl
theorem wd737 : (Jvm.Cond.code ({ cls := "QuorumGate", name := "meeting", desc := "(II)I" } : Jvm.MethodName) prog_1_method_11_code (3 : Nat) (Option.some Jvm.ClassFile.FieldType.int)) ∈ lw_g := gwc_3 132 rfl rfl
theorem wd738 : (Jvm.Cond.methodLink "QuorumGate" (108 : Nat) ({ cls := "QuorumGate", name := "lowest", desc := "(J)I" } : Jvm.MethodName)) ∈ lw_g := gwc_3 133 rfl rfl
theorem wd739 : (Jvm.Cond.static ({ cls := "QuorumGate", name := "lowest", desc := "(J)I" } : Jvm.MethodName)) ∈ lw_g := gwc_3 134 rfl rfl
theorem wd740 : (Jvm.Cond.code ({ cls := "QuorumGate", name := "lowest", desc := "(J)I" } : Jvm.MethodName) prog_1_method_58_code (2 : Nat) (Option.some Jvm.ClassFile.FieldType.int)) ∈ lw_g := gwc_3 135 rfl rfl
theorem wd741 : (Jvm.Cond.methodLink "QuorumGate" (382 : Nat) ({ cls := "java/lang/Long", name := "bitCount", desc := "(J)I" } : Jvm.MethodName)) ∈ lw_g := gwc_3 136 rfl rfl
theorem wd742 : (Jvm.Cond.static ({ cls := "java/lang/Long", name := "bitCount", desc := "(J)I" } : Jvm.MethodName)) ∈ lw_g := gwc_3 137 rfl rfl
theorem wd743 : (Jvm.Cond.code ({ cls := "java/lang/Long", name := "bitCount", desc := "(J)I" } : Jvm.MethodName) prog_17_method_50_code (2 : Nat) (Option.some Jvm.ClassFile.FieldType.int)) ∈ lw_g := gwc_3 138 rfl rfl
theorem wd744 : (Jvm.Cond.constantLong "java/lang/Long" (314 : Nat) (6148914691236517205 : Int64)) ∈ lw_g := gwc_3 139 rfl rfl
theorem wd745 : (Jvm.Cond.constantLong "java/lang/Long" (316 : Nat) (3689348814741910323 : Int64)) ∈ lw_g := gwc_3 140 rfl rfl
theorem wd746 : (Jvm.Cond.constantLong "java/lang/Long" (318 : Nat) (1085102592571150095 : Int64)) ∈ lw_g := gwc_3 141 rfl rfl
theorem wd747 : (Jvm.Cond.methodLink "QuorumGateLaw" (55 : Nat) ({ cls := "QuorumGate", name := "apart", desc := "()I" } : Jvm.MethodName)) ∈ lw_g := gwc_3 142 rfl rfl
theorem wd748 : (Jvm.Cond.instanceMethod ({ cls := "QuorumGate", name := "apart", desc := "()I" } : Jvm.MethodName)) ∈ lw_g := gwc_3 143 rfl rfl
theorem wd749 : (Jvm.Cond.selects "QuorumGate" ({ cls := "QuorumGate", name := "apart", desc := "()I" } : Jvm.MethodName) ({ cls := "QuorumGate", name := "apart", desc := "()I" } : Jvm.MethodName)) ∈ lw_g := gwc_3 144 rfl rfl
theorem wd750 : (Jvm.Cond.code ({ cls := "QuorumGate", name := "apart", desc := "()I" } : Jvm.MethodName) prog_1_method_12_code (1 : Nat) (Option.some Jvm.ClassFile.FieldType.int)) ∈ lw_g := gwc_3 145 rfl rfl
theorem wd751 : (Jvm.Cond.methodLink "QuorumGateLaw" (60 : Nat) ({ cls := "QuorumGate", name := "load", desc := "(I)I" } : Jvm.MethodName)) ∈ lw_g := gwc_3 146 rfl rfl
theorem wd752 : (Jvm.Cond.instanceMethod ({ cls := "QuorumGate", name := "load", desc := "(I)I" } : Jvm.MethodName)) ∈ lw_g := gwc_3 147 rfl rfl
theorem wd753 : (Jvm.Cond.selects "QuorumGate" ({ cls := "QuorumGate", name := "load", desc := "(I)I" } : Jvm.MethodName) ({ cls := "QuorumGate", name := "load", desc := "(I)I" } : Jvm.MethodName)) ∈ lw_g := gwc_3 148 rfl rfl
theorem wd754 : (Jvm.Cond.code ({ cls := "QuorumGate", name := "load", desc := "(I)I" } : Jvm.MethodName) prog_1_method_13_code (2 : Nat) (Option.some Jvm.ClassFile.FieldType.int)) ∈ lw_g := gwc_3 149 rfl rfl
theorem wd755 : (Jvm.Cond.methodLink "QuorumGate" (112 : Nat) ({ cls := "QuorumGate$Sets", name := "loadOf", desc := "(I)I" } : Jvm.MethodName)) ∈ lw_g := gwc_3 150 rfl rfl
theorem wd756 : (Jvm.Cond.instanceMethod ({ cls := "QuorumGate$Sets", name := "loadOf", desc := "(I)I" } : Jvm.MethodName)) ∈ lw_g := gwc_3 151 rfl rfl
theorem wd757 : (Jvm.Cond.selects "QuorumGate$Sets" ({ cls := "QuorumGate$Sets", name := "loadOf", desc := "(I)I" } : Jvm.MethodName) ({ cls := "QuorumGate$Sets", name := "loadOf", desc := "(I)I" } : Jvm.MethodName)) ∈ lw_g := gwc_3 152 rfl rfl
theorem wd758 : (Jvm.Cond.code ({ cls := "QuorumGate$Sets", name := "loadOf", desc := "(I)I" } : Jvm.MethodName) prog_9_method_21_code (4 : Nat) (Option.some Jvm.ClassFile.FieldType.int)) ∈ lw_g := gwc_3 153 rfl rfl
theorem wd759 : (Jvm.Cond.methodLink "QuorumGateLaw" (64 : Nat) ({ cls := "QuorumGate", name := "stops", desc := "(I)Z" } : Jvm.MethodName)) ∈ lw_g := gwc_3 154 rfl rfl
theorem wd760 : (Jvm.Cond.instanceMethod ({ cls := "QuorumGate", name := "stops", desc := "(I)Z" } : Jvm.MethodName)) ∈ lw_g := gwc_3 155 rfl rfl
theorem wd761 : (Jvm.Cond.selects "QuorumGate" ({ cls := "QuorumGate", name := "stops", desc := "(I)Z" } : Jvm.MethodName) ({ cls := "QuorumGate", name := "stops", desc := "(I)Z" } : Jvm.MethodName)) ∈ lw_g := gwc_3 156 rfl rfl
theorem wd762 : (Jvm.Cond.code ({ cls := "QuorumGate", name := "stops", desc := "(I)Z" } : Jvm.MethodName) prog_1_method_14_code (2 : Nat) (Option.some Jvm.ClassFile.FieldType.boolean)) ∈ lw_g := gwc_3 157 rfl rfl
theorem wd763 : (Jvm.Cond.methodLink "QuorumGate" (116 : Nat) ({ cls := "QuorumGate$Sets", name := "allNodes", desc := "()I" } : Jvm.MethodName)) ∈ lw_g := gwc_3 158 rfl rfl
theorem wd764 : (Jvm.Cond.methodLink "QuorumGate" (119 : Nat) ({ cls := "QuorumGate$Sets", name := "someQuorum", desc := "(I)Z" } : Jvm.MethodName)) ∈ lw_g := gwc_3 159 rfl rfl
theorem wd765 : (Jvm.Cond.instanceMethod ({ cls := "QuorumGate$Sets", name := "someQuorum", desc := "(I)Z" } : Jvm.MethodName)) ∈ lw_g := gwc_3 160 rfl rfl
theorem wd766 : (Jvm.Cond.selects "QuorumGate$Sets" ({ cls := "QuorumGate$Sets", name := "someQuorum", desc := "(I)Z" } : Jvm.MethodName) ({ cls := "QuorumGate$Sets", name := "someQuorum", desc := "(I)Z" } : Jvm.MethodName)) ∈ lw_g := gwc_3 161 rfl rfl
theorem wd767 : (Jvm.Cond.code ({ cls := "QuorumGate$Sets", name := "someQuorum", desc := "(I)Z" } : Jvm.MethodName) prog_9_method_16_code (2 : Nat) (Option.some Jvm.ClassFile.FieldType.boolean)) ∈ lw_g := gwc_3 162 rfl rfl
theorem wd768 : (Jvm.Cond.methodLink "QuorumGate$Sets" (64 : Nat) ({ cls := "QuorumGate$Sets", name := "wholeOfRoot", desc := "(I)I" } : Jvm.MethodName)) ∈ lw_g := gwc_3 163 rfl rfl
theorem wd770 : (Jvm.Cond.instanceMethod ({ cls := "QuorumGate$Sets", name := "wholeOfRoot", desc := "(I)I" } : Jvm.MethodName)) ∈ lw_g := gwc_3 165 rfl rfl
theorem wd771 : (Jvm.Cond.code ({ cls := "QuorumGate$Sets", name := "wholeOfRoot", desc := "(I)I" } : Jvm.MethodName) prog_9_method_18_code (3 : Nat) (Option.some Jvm.ClassFile.FieldType.int)) ∈ lw_g := gwc_3 166 rfl rfl
theorem wd772 : (Jvm.Cond.methodLink "QuorumGate$Sets" (71 : Nat) ({ cls := "QuorumGate$Sets", name := "wholeOf", desc := "(II)I" } : Jvm.MethodName)) ∈ lw_g := gwc_3 167 rfl rfl
theorem wd774 : (Jvm.Cond.instanceMethod ({ cls := "QuorumGate$Sets", name := "wholeOf", desc := "(II)I" } : Jvm.MethodName)) ∈ lw_g := gwc_3 169 rfl rfl
theorem wd775 : (Jvm.Cond.code ({ cls := "QuorumGate$Sets", name := "wholeOf", desc := "(II)I" } : Jvm.MethodName) prog_9_method_19_code (8 : Nat) (Option.some Jvm.ClassFile.FieldType.int)) ∈ lw_g := gwc_3 170 rfl rfl
theorem wd776 : (Jvm.Cond.methodLink "QuorumGate$Sets" (68 : Nat) ({ cls := "QuorumGate$Sets", name := "firstUnbroken", desc := "(I)I" } : Jvm.MethodName)) ∈ lw_g := gwc_3 171 rfl rfl
theorem wd778 : (Jvm.Cond.instanceMethod ({ cls := "QuorumGate$Sets", name := "firstUnbroken", desc := "(I)I" } : Jvm.MethodName)) ∈ lw_g := gwc_3 173 rfl rfl
theorem wd779 : (Jvm.Cond.code ({ cls := "QuorumGate$Sets", name := "firstUnbroken", desc := "(I)I" } : Jvm.MethodName) prog_9_method_17_code (3 : Nat) (Option.some Jvm.ClassFile.FieldType.int)) ∈ lw_g := gwc_3 174 rfl rfl
theorem wd780 : (Jvm.Cond.methodLink "QuorumGateLaw" (69 : Nat) ({ cls := "QuorumGate", name := "weakest", desc := "(I)I" } : Jvm.MethodName)) ∈ lw_g := gwc_3 175 rfl rfl
theorem wd781 : (Jvm.Cond.instanceMethod ({ cls := "QuorumGate", name := "weakest", desc := "(I)I" } : Jvm.MethodName)) ∈ lw_g := gwc_3 176 rfl rfl
theorem wd782 : (Jvm.Cond.selects "QuorumGate" ({ cls := "QuorumGate", name := "weakest", desc := "(I)I" } : Jvm.MethodName) ({ cls := "QuorumGate", name := "weakest", desc := "(I)I" } : Jvm.MethodName)) ∈ lw_g := gwc_3 177 rfl rfl
theorem wd783 : (Jvm.Cond.code ({ cls := "QuorumGate", name := "weakest", desc := "(I)I" } : Jvm.MethodName) prog_1_method_15_code (3 : Nat) (Option.some Jvm.ClassFile.FieldType.int)) ∈ lw_g := gwc_3 178 rfl rfl
theorem wd784 : (Jvm.Cond.methodLink "QuorumGate" (122 : Nat) ({ cls := "QuorumGate", name := "surveyOnce", desc := "()V" } : Jvm.MethodName)) ∈ lw_g := gwc_3 179 rfl rfl
theorem wd786 : (Jvm.Cond.instanceMethod ({ cls := "QuorumGate", name := "surveyOnce", desc := "()V" } : Jvm.MethodName)) ∈ lw_g := gwc_3 181 rfl rfl
theorem wd787 : (Jvm.Cond.code ({ cls := "QuorumGate", name := "surveyOnce", desc := "()V" } : Jvm.MethodName) prog_1_method_52_code (1 : Nat) (Option.none : Option Jvm.ClassFile.FieldType)) ∈ lw_g := gwc_3 182 rfl rfl
theorem wd788 : (Jvm.Cond.methodLink "QuorumGate" (368 : Nat) ({ cls := "QuorumGate$Survey", name := "take", desc := "(LQuorumGate$Sets;)V" } : Jvm.MethodName)) ∈ lw_g := gwc_3 183 rfl rfl
theorem wd789 : (Jvm.Cond.instanceMethod ({ cls := "QuorumGate$Survey", name := "take", desc := "(LQuorumGate$Sets;)V" } : Jvm.MethodName)) ∈ lw_g := gwc_3 184 rfl rfl
theorem wd790 : (Jvm.Cond.selects "QuorumGate$Survey" ({ cls := "QuorumGate$Survey", name := "take", desc := "(LQuorumGate$Sets;)V" } : Jvm.MethodName) ({ cls := "QuorumGate$Survey", name := "take", desc := "(LQuorumGate$Sets;)V" } : Jvm.MethodName)) ∈ lw_g := gwc_3 185 rfl rfl
theorem wd791 : (Jvm.Cond.code ({ cls := "QuorumGate$Survey", name := "take", desc := "(LQuorumGate$Sets;)V" } : Jvm.MethodName) prog_10_method_2_code (3 : Nat) (Option.none : Option Jvm.ClassFile.FieldType)) ∈ lw_g := gwc_3 186 rfl rfl
theorem wd792 : (Jvm.Cond.methodLink "QuorumGate$Survey" (41 : Nat) ({ cls := "QuorumGate$Family", name := "begin", desc := "(I)V" } : Jvm.MethodName)) ∈ lw_g := gwc_3 187 rfl rfl
theorem wd793 : (Jvm.Cond.instanceMethod ({ cls := "QuorumGate$Family", name := "begin", desc := "(I)V" } : Jvm.MethodName)) ∈ lw_g := gwc_3 188 rfl rfl
theorem wd794 : (Jvm.Cond.selects "QuorumGate$Family" ({ cls := "QuorumGate$Family", name := "begin", desc := "(I)V" } : Jvm.MethodName) ({ cls := "QuorumGate$Family", name := "begin", desc := "(I)V" } : Jvm.MethodName)) ∈ lw_g := gwc_3 189 rfl rfl
theorem wd795 : (Jvm.Cond.code ({ cls := "QuorumGate$Family", name := "begin", desc := "(I)V" } : Jvm.MethodName) prog_3_method_2_code (2 : Nat) (Option.none : Option Jvm.ClassFile.FieldType)) ∈ lw_g := gwc_3 190 rfl rfl
theorem wd796 : (Jvm.Cond.methodLink "QuorumGate$Family" (22 : Nat) ({ cls := "java/util/Arrays", name := "fill", desc := "([JJ)V" } : Jvm.MethodName)) ∈ lw_g := gwc_3 191 rfl rfl
theorem wd797 : (Jvm.Cond.static ({ cls := "java/util/Arrays", name := "fill", desc := "([JJ)V" } : Jvm.MethodName)) ∈ lw_g := gwc_3 192 rfl rfl
theorem wd798 : (Jvm.Cond.code ({ cls := "java/util/Arrays", name := "fill", desc := "([JJ)V" } : Jvm.MethodName) prog_21_method_101_code (5 : Nat) (Option.none : Option Jvm.ClassFile.FieldType)) ∈ lw_g := gwc_3 193 rfl rfl
theorem wd799 : (Jvm.Cond.methodLink "QuorumGate$Survey" (48 : Nat) ({ cls := "QuorumGate$Family", name := "add", desc := "(I)V" } : Jvm.MethodName)) ∈ lw_g := gwc_3 194 rfl rfl
theorem wd800 : (Jvm.Cond.instanceMethod ({ cls := "QuorumGate$Family", name := "add", desc := "(I)V" } : Jvm.MethodName)) ∈ lw_g := gwc_3 195 rfl rfl
theorem wd801 : (Jvm.Cond.selects "QuorumGate$Family" ({ cls := "QuorumGate$Family", name := "add", desc := "(I)V" } : Jvm.MethodName) ({ cls := "QuorumGate$Family", name := "add", desc := "(I)V" } : Jvm.MethodName)) ∈ lw_g := gwc_3 196 rfl rfl
theorem wd802 : (Jvm.Cond.code ({ cls := "QuorumGate$Family", name := "add", desc := "(I)V" } : Jvm.MethodName) prog_3_method_3_code (2 : Nat) (Option.none : Option Jvm.ClassFile.FieldType)) ∈ lw_g := gwc_3 197 rfl rfl
theorem wd803 : (Jvm.Cond.methodLink "QuorumGate$Survey" (55 : Nat) ({ cls := "QuorumGate$Survey", name := "addWholes", desc := "(I)V" } : Jvm.MethodName)) ∈ lw_g := gwc_3 198 rfl rfl
theorem wd805 : (Jvm.Cond.instanceMethod ({ cls := "QuorumGate$Survey", name := "addWholes", desc := "(I)V" } : Jvm.MethodName)) ∈ lw_g := gwc_3 200 rfl rfl
theorem wd806 : (Jvm.Cond.code ({ cls := "QuorumGate$Survey", name := "addWholes", desc := "(I)V" } : Jvm.MethodName) prog_10_method_3_code (3 : Nat) (Option.none : Option Jvm.ClassFile.FieldType)) ∈ lw_g := gwc_3 201 rfl rfl
theorem wd807 : (Jvm.Cond.methodLink "QuorumGate$Survey" (67 : Nat) ({ cls := "QuorumGate$Survey", name := "listWholes", desc := "(III)V" } : Jvm.MethodName)) ∈ lw_g := gwc_3 202 rfl rfl
theorem wd809 : (Jvm.Cond.instanceMethod ({ cls := "QuorumGate$Survey", name := "listWholes", desc := "(III)V" } : Jvm.MethodName)) ∈ lw_g := gwc_3 204 rfl rfl
theorem wd810 : (Jvm.Cond.code ({ cls := "QuorumGate$Survey", name := "listWholes", desc := "(III)V" } : Jvm.MethodName) prog_10_method_4_code (6 : Nat) (Option.none : Option Jvm.ClassFile.FieldType)) ∈ lw_g := gwc_3 205 rfl rfl
theorem wd811 : (Jvm.Cond.methodLink "QuorumGate$Survey" (71 : Nat) ({ cls := "QuorumGate$Survey", name := "listWhole", desc := "(I)V" } : Jvm.MethodName)) ∈ lw_g := gwc_3 206 rfl rfl
theorem wd813 : (Jvm.Cond.instanceMethod ({ cls := "QuorumGate$Survey", name := "listWhole", desc := "(I)V" } : Jvm.MethodName)) ∈ lw_g := gwc_3 208 rfl rfl
theorem wd814 : (Jvm.Cond.code ({ cls := "QuorumGate$Survey", name := "listWhole", desc := "(I)V" } : Jvm.MethodName) prog_10_method_5_code (2 : Nat) (Option.none : Option Jvm.ClassFile.FieldType)) ∈ lw_g := gwc_3 209 rfl rfl
theorem wd815 : (Jvm.Cond.methodLink "QuorumGate$Survey" (58 : Nat) ({ cls := "QuorumGate$Family", name := "addGreater", desc := "()V" } : Jvm.MethodName)) ∈ lw_g := gwc_3 210 rfl rfl
theorem wd816 : (Jvm.Cond.instanceMethod ({ cls := "QuorumGate$Family", name := "addGreater", desc := "()V" } : Jvm.MethodName)) ∈ lw_g := gwc_3 211 rfl rfl
theorem wd817 : (Jvm.Cond.selects "QuorumGate$Family" ({ cls := "QuorumGate$Family", name := "addGreater", desc := "()V" } : Jvm.MethodName) ({ cls := "QuorumGate$Family", name := "addGreater", desc := "()V" } : Jvm.MethodName)) ∈ lw_g := gwc_3 212 rfl rfl
theorem wd818 : (Jvm.Cond.code ({ cls := "QuorumGate$Family", name := "addGreater", desc := "()V" } : Jvm.MethodName) prog_3_method_4_code (3 : Nat) (Option.none : Option Jvm.ClassFile.FieldType)) ∈ lw_g := gwc_3 213 rfl rfl
theorem wd819 : (Jvm.Cond.fieldLink "QuorumGate$Family" (28 : Nat) "QuorumGate$Family" "HAVING" "[J") ∈ lw_g := gwc_3 214 rfl rfl
theorem wd821 : (Jvm.Cond.constantLong "QuorumGate$Family" (31 : Nat) (-1 : Int64)) ∈ lw_g := gwc_3 216 rfl rfl
theorem wd822 : (Jvm.Cond.methodLink "QuorumGate" (129 : Nat) ({ cls := "QuorumGate$Family", name := "leastStop", desc := "()I" } : Jvm.MethodName)) ∈ lw_g := gwc_3 217 rfl rfl
theorem wd823 : (Jvm.Cond.instanceMethod ({ cls := "QuorumGate$Family", name := "leastStop", desc := "()I" } : Jvm.MethodName)) ∈ lw_g := gwc_3 218 rfl rfl
theorem wd824 : (Jvm.Cond.selects "QuorumGate$Family" ({ cls := "QuorumGate$Family", name := "leastStop", desc := "()I" } : Jvm.MethodName) ({ cls := "QuorumGate$Family", name := "leastStop", desc := "()I" } : Jvm.MethodName)) ∈ lw_g := gwc_3 219 rfl rfl
theorem wd825 : (Jvm.Cond.code ({ cls := "QuorumGate$Family", name := "leastStop", desc := "()I" } : Jvm.MethodName) prog_3_method_6_code (8 : Nat) (Option.some Jvm.ClassFile.FieldType.int)) ∈ lw_g := gwc_3 220 rfl rfl
theorem wd826 : (Jvm.Cond.methodLink "QuorumGate$Family" (33 : Nat) ({ cls := "QuorumGate$Family", name := "withoutRest", desc := "(I)J" } : Jvm.MethodName)) ∈ lw_g := gwc_3 221 rfl rfl
theorem wd828 : (Jvm.Cond.instanceMethod ({ cls := "QuorumGate$Family", name := "withoutRest", desc := "(I)J" } : Jvm.MethodName)) ∈ lw_g := gwc_3 223 rfl rfl
theorem wd829 : (Jvm.Cond.code ({ cls := "QuorumGate$Family", name := "withoutRest", desc := "(I)J" } : Jvm.MethodName) prog_3_method_5_code (6 : Nat) (Option.some Jvm.ClassFile.FieldType.long)) ∈ lw_g := gwc_3 224 rfl rfl
theorem wd830 : (Jvm.Cond.methodLink "QuorumGate$Family" (37 : Nat) ({ cls := "java/lang/Integer", name := "bitCount", desc := "(I)I" } : Jvm.MethodName)) ∈ lw_g := gwc_3 225 rfl rfl
theorem wd831 : (Jvm.Cond.static ({ cls := "java/lang/Integer", name := "bitCount", desc := "(I)I" } : Jvm.MethodName)) ∈ lw_g := gwc_3 226 rfl rfl
theorem wd832 : (Jvm.Cond.code ({ cls := "java/lang/Integer", name := "bitCount", desc := "(I)I" } : Jvm.MethodName) prog_16_method_49_code (1 : Nat) (Option.some Jvm.ClassFile.FieldType.int)) ∈ lw_g := gwc_3 227 rfl rfl
theorem wd833 : (Jvm.Cond.constant "java/lang/Integer" (265 : Nat) (1431655765 : Int32)) ∈ lw_g := gwc_3 228 rfl rfl
theorem wd834 : (Jvm.Cond.constant "java/lang/Integer" (266 : Nat) (858993459 : Int32)) ∈ lw_g := gwc_3 229 rfl rfl
theorem wd835 : (Jvm.Cond.constant "java/lang/Integer" (267 : Nat) (252645135 : Int32)) ∈ lw_g := gwc_3 230 rfl rfl
theorem wd836 : (Jvm.Cond.fieldLink "QuorumGate$Family" (43 : Nat) "QuorumGate$Family" "OF_SIZE" "[J") ∈ lw_g := gwc_3 231 rfl rfl
theorem wd839 : (Jvm.Cond.methodLink "QuorumGate" (134 : Nat) ({ cls := "java/lang/Integer", name := "bitCount", desc := "(I)I" } : Jvm.MethodName)) ∈ lw_g := gwc_3 234 rfl rfl
theorem wd840 : (Jvm.Cond.methodLink "QuorumGateLaw" (73 : Nat) ({ cls := "QuorumGate", name := "needless", desc := "()I" } : Jvm.MethodName)) ∈ lw_g := gwc_3 235 rfl rfl
theorem wd841 : (Jvm.Cond.instanceMethod ({ cls := "QuorumGate", name := "needless", desc := "()I" } : Jvm.MethodName)) ∈ lw_g := gwc_3 236 rfl rfl
theorem wd842 : (Jvm.Cond.selects "QuorumGate" ({ cls := "QuorumGate", name := "needless", desc := "()I" } : Jvm.MethodName) ({ cls := "QuorumGate", name := "needless", desc := "()I" } : Jvm.MethodName)) ∈ lw_g := gwc_3 237 rfl rfl
theorem wd843 : (Jvm.Cond.code ({ cls := "QuorumGate", name := "needless", desc := "()I" } : Jvm.MethodName) prog_1_method_16_code (1 : Nat) (Option.some Jvm.ClassFile.FieldType.int)) ∈ lw_g := gwc_3 238 rfl rfl
theorem wd844 : (Jvm.Cond.methodLink "QuorumGate" (139 : Nat) ({ cls := "QuorumGate$Sets", name := "countNeedless", desc := "()I" } : Jvm.MethodName)) ∈ lw_g := gwc_3 239 rfl rfl
theorem wd845 : (Jvm.Cond.instanceMethod ({ cls := "QuorumGate$Sets", name := "countNeedless", desc := "()I" } : Jvm.MethodName)) ∈ lw_g := gwc_4 0 rfl rfl
theorem wd846 : (Jvm.Cond.selects "QuorumGate$Sets" ({ cls := "QuorumGate$Sets", name := "countNeedless", desc := "()I" } : Jvm.MethodName) ({ cls := "QuorumGate$Sets", name := "countNeedless", desc := "()I" } : Jvm.MethodName)) ∈ lw_g := gwc_4 1 rfl rfl
theorem wd847 : (Jvm.Cond.code ({ cls := "QuorumGate$Sets", name := "countNeedless", desc := "()I" } : Jvm.MethodName) prog_9_method_23_code (3 : Nat) (Option.some Jvm.ClassFile.FieldType.int)) ∈ lw_g := gwc_4 2 rfl rfl
theorem wd848 : (Jvm.Cond.methodLink "QuorumGate$Sets" (77 : Nat) ({ cls := "QuorumGate$Sets", name := "isNeedless", desc := "(I)Z" } : Jvm.MethodName)) ∈ lw_g := gwc_4 3 rfl rfl
theorem wd850 : (Jvm.Cond.instanceMethod ({ cls := "QuorumGate$Sets", name := "isNeedless", desc := "(I)Z" } : Jvm.MethodName)) ∈ lw_g := gwc_4 5 rfl rfl
theorem wd851 : (Jvm.Cond.code ({ cls := "QuorumGate$Sets", name := "isNeedless", desc := "(I)Z" } : Jvm.MethodName) prog_9_method_24_code (4 : Nat) (Option.some Jvm.ClassFile.FieldType.boolean)) ∈ lw_g := gwc_4 6 rfl rfl
theorem wd852 : (Jvm.Cond.methodLink "QuorumGateLaw" (77 : Nat) ({ cls := "QuorumGate", name := "chance", desc := "(I)I" } : Jvm.MethodName)) ∈ lw_g := gwc_4 7 rfl rfl
theorem wd853 : (Jvm.Cond.instanceMethod ({ cls := "QuorumGate", name := "chance", desc := "(I)I" } : Jvm.MethodName)) ∈ lw_g := gwc_4 8 rfl rfl
theorem wd854 : (Jvm.Cond.selects "QuorumGate" ({ cls := "QuorumGate", name := "chance", desc := "(I)I" } : Jvm.MethodName) ({ cls := "QuorumGate", name := "chance", desc := "(I)I" } : Jvm.MethodName)) ∈ lw_g := gwc_4 9 rfl rfl
theorem wd855 : (Jvm.Cond.code ({ cls := "QuorumGate", name := "chance", desc := "(I)I" } : Jvm.MethodName) prog_1_method_17_code (2 : Nat) (Option.some Jvm.ClassFile.FieldType.int)) ∈ lw_g := gwc_4 10 rfl rfl
theorem wd856 : (Jvm.Cond.methodLink "QuorumGate" (142 : Nat) ({ cls := "QuorumGate$Survey", name := "millionths", desc := "(III)I" } : Jvm.MethodName)) ∈ lw_g := gwc_4 11 rfl rfl
theorem wd857 : (Jvm.Cond.instanceMethod ({ cls := "QuorumGate$Survey", name := "millionths", desc := "(III)I" } : Jvm.MethodName)) ∈ lw_g := gwc_4 12 rfl rfl
theorem wd858 : (Jvm.Cond.selects "QuorumGate$Survey" ({ cls := "QuorumGate$Survey", name := "millionths", desc := "(III)I" } : Jvm.MethodName) ({ cls := "QuorumGate$Survey", name := "millionths", desc := "(III)I" } : Jvm.MethodName)) ∈ lw_g := gwc_4 13 rfl rfl
theorem wd859 : (Jvm.Cond.code ({ cls := "QuorumGate$Survey", name := "millionths", desc := "(III)I" } : Jvm.MethodName) prog_10_method_6_code (6 : Nat) (Option.some Jvm.ClassFile.FieldType.int)) ∈ lw_g := gwc_4 14 rfl rfl
theorem wd860 : (Jvm.Cond.methodLink "QuorumGate$Survey" (74 : Nat) ({ cls := "QuorumGate$Survey", name := "power", desc := "(II)J" } : Jvm.MethodName)) ∈ lw_g := gwc_4 15 rfl rfl
theorem wd861 : (Jvm.Cond.static ({ cls := "QuorumGate$Survey", name := "power", desc := "(II)J" } : Jvm.MethodName)) ∈ lw_g := gwc_4 16 rfl rfl
theorem wd862 : (Jvm.Cond.code ({ cls := "QuorumGate$Survey", name := "power", desc := "(II)J" } : Jvm.MethodName) prog_10_method_7_code (5 : Nat) (Option.some Jvm.ClassFile.FieldType.long)) ∈ lw_g := gwc_4 17 rfl rfl
theorem wd863 : (Jvm.Cond.methodLink "QuorumGate$Survey" (78 : Nat) ({ cls := "QuorumGate$Family", name := "weigh", desc := "(I[J)J" } : Jvm.MethodName)) ∈ lw_g := gwc_4 18 rfl rfl
theorem wd864 : (Jvm.Cond.instanceMethod ({ cls := "QuorumGate$Family", name := "weigh", desc := "(I[J)J" } : Jvm.MethodName)) ∈ lw_g := gwc_4 19 rfl rfl
theorem wd865 : (Jvm.Cond.selects "QuorumGate$Family" ({ cls := "QuorumGate$Family", name := "weigh", desc := "(I[J)J" } : Jvm.MethodName) ({ cls := "QuorumGate$Family", name := "weigh", desc := "(I[J)J" } : Jvm.MethodName)) ∈ lw_g := gwc_4 20 rfl rfl
theorem wd866 : (Jvm.Cond.code ({ cls := "QuorumGate$Family", name := "weigh", desc := "(I[J)J" } : Jvm.MethodName) prog_3_method_9_code (9 : Nat) (Option.some Jvm.ClassFile.FieldType.long)) ∈ lw_g := gwc_4 21 rfl rfl
theorem wd867 : (Jvm.Cond.methodLink "QuorumGate$Family" (50 : Nat) ({ cls := "QuorumGate$Family", name := "having", desc := "(II)J" } : Jvm.MethodName)) ∈ lw_g := gwc_4 22 rfl rfl
theorem wd869 : (Jvm.Cond.instanceMethod ({ cls := "QuorumGate$Family", name := "having", desc := "(II)J" } : Jvm.MethodName)) ∈ lw_g := gwc_4 24 rfl rfl
theorem wd870 : (Jvm.Cond.code ({ cls := "QuorumGate$Family", name := "having", desc := "(II)J" } : Jvm.MethodName) prog_3_method_8_code (3 : Nat) (Option.some Jvm.ClassFile.FieldType.long)) ∈ lw_g := gwc_4 25 rfl rfl
theorem wd871 : (Jvm.Cond.methodLink "QuorumGate$Family" (54 : Nat) ({ cls := "java/lang/Long", name := "bitCount", desc := "(J)I" } : Jvm.MethodName)) ∈ lw_g := gwc_4 26 rfl rfl
theorem wd872 : (Jvm.Cond.methodLink "QuorumGate$Survey" (82 : Nat) ({ cls := "java/lang/Math", name := "max", desc := "(JJ)J" } : Jvm.MethodName)) ∈ lw_g := gwc_4 27 rfl rfl
theorem wd873 : (Jvm.Cond.static ({ cls := "java/lang/Math", name := "max", desc := "(JJ)J" } : Jvm.MethodName)) ∈ lw_g := gwc_4 28 rfl rfl
theorem wd874 : (Jvm.Cond.code ({ cls := "java/lang/Math", name := "max", desc := "(JJ)J" } : Jvm.MethodName) prog_18_method_66_code (4 : Nat) (Option.some Jvm.ClassFile.FieldType.long)) ∈ lw_g := gwc_4 29 rfl rfl
theorem wd875 : (Jvm.Cond.methodLink "QuorumGateLaw" (81 : Nat) ({ cls := "QuorumGate", name := "chanceOf", desc := "(II)I" } : Jvm.MethodName)) ∈ lw_g := gwc_4 30 rfl rfl
theorem wd876 : (Jvm.Cond.instanceMethod ({ cls := "QuorumGate", name := "chanceOf", desc := "(II)I" } : Jvm.MethodName)) ∈ lw_g := gwc_4 31 rfl rfl
theorem wd877 : (Jvm.Cond.selects "QuorumGate" ({ cls := "QuorumGate", name := "chanceOf", desc := "(II)I" } : Jvm.MethodName) ({ cls := "QuorumGate", name := "chanceOf", desc := "(II)I" } : Jvm.MethodName)) ∈ lw_g := gwc_4 32 rfl rfl
theorem wd878 : (Jvm.Cond.code ({ cls := "QuorumGate", name := "chanceOf", desc := "(II)I" } : Jvm.MethodName) prog_1_method_18_code (3 : Nat) (Option.some Jvm.ClassFile.FieldType.int)) ∈ lw_g := gwc_4 33 rfl rfl
theorem wd879 : (Jvm.Cond.methodLink "QuorumGateLaw" (85 : Nat) ({ cls := "QuorumGate", name := "sizes", desc := "(I)I" } : Jvm.MethodName)) ∈ lw_g := gwc_4 34 rfl rfl
theorem wd880 : (Jvm.Cond.instanceMethod ({ cls := "QuorumGate", name := "sizes", desc := "(I)I" } : Jvm.MethodName)) ∈ lw_g := gwc_4 35 rfl rfl
theorem wd881 : (Jvm.Cond.selects "QuorumGate" ({ cls := "QuorumGate", name := "sizes", desc := "(I)I" } : Jvm.MethodName) ({ cls := "QuorumGate", name := "sizes", desc := "(I)I" } : Jvm.MethodName)) ∈ lw_g := gwc_4 36 rfl rfl
theorem wd882 : (Jvm.Cond.code ({ cls := "QuorumGate", name := "sizes", desc := "(I)I" } : Jvm.MethodName) prog_1_method_19_code (2 : Nat) (Option.some Jvm.ClassFile.FieldType.int)) ∈ lw_g := gwc_4 37 rfl rfl
theorem wd883 : (Jvm.Cond.methodLink "QuorumGate" (146 : Nat) ({ cls := "QuorumGate$Sets", name := "leastSize", desc := "()I" } : Jvm.MethodName)) ∈ lw_g := gwc_4 38 rfl rfl
theorem wd884 : (Jvm.Cond.instanceMethod ({ cls := "QuorumGate$Sets", name := "leastSize", desc := "()I" } : Jvm.MethodName)) ∈ lw_g := gwc_4 39 rfl rfl
theorem wd885 : (Jvm.Cond.selects "QuorumGate$Sets" ({ cls := "QuorumGate$Sets", name := "leastSize", desc := "()I" } : Jvm.MethodName) ({ cls := "QuorumGate$Sets", name := "leastSize", desc := "()I" } : Jvm.MethodName)) ∈ lw_g := gwc_4 40 rfl rfl
theorem wd886 : (Jvm.Cond.code ({ cls := "QuorumGate$Sets", name := "leastSize", desc := "()I" } : Jvm.MethodName) prog_9_method_25_code (3 : Nat) (Option.some Jvm.ClassFile.FieldType.int)) ∈ lw_g := gwc_4 41 rfl rfl
theorem wd887 : (Jvm.Cond.methodLink "QuorumGate$Sets" (81 : Nat) ({ cls := "java/lang/Integer", name := "bitCount", desc := "(I)I" } : Jvm.MethodName)) ∈ lw_g := gwc_4 42 rfl rfl
theorem wd888 : (Jvm.Cond.methodLink "QuorumGate$Sets" (86 : Nat) ({ cls := "java/lang/Math", name := "min", desc := "(II)I" } : Jvm.MethodName)) ∈ lw_g := gwc_4 43 rfl rfl
theorem wd889 : (Jvm.Cond.static ({ cls := "java/lang/Math", name := "min", desc := "(II)I" } : Jvm.MethodName)) ∈ lw_g := gwc_4 44 rfl rfl
theorem wd890 : (Jvm.Cond.code ({ cls := "java/lang/Math", name := "min", desc := "(II)I" } : Jvm.MethodName) prog_18_method_69_code (2 : Nat) (Option.some Jvm.ClassFile.FieldType.int)) ∈ lw_g := gwc_4 45 rfl rfl
theorem wd891 : (Jvm.Cond.methodLink "QuorumGate" (149 : Nat) ({ cls := "QuorumGate$Sets", name := "greatestSize", desc := "()I" } : Jvm.MethodName)) ∈ lw_g := gwc_4 46 rfl rfl
theorem wd892 : (Jvm.Cond.instanceMethod ({ cls := "QuorumGate$Sets", name := "greatestSize", desc := "()I" } : Jvm.MethodName)) ∈ lw_g := gwc_4 47 rfl rfl
theorem wd893 : (Jvm.Cond.selects "QuorumGate$Sets" ({ cls := "QuorumGate$Sets", name := "greatestSize", desc := "()I" } : Jvm.MethodName) ({ cls := "QuorumGate$Sets", name := "greatestSize", desc := "()I" } : Jvm.MethodName)) ∈ lw_g := gwc_4 48 rfl rfl
theorem wd894 : (Jvm.Cond.code ({ cls := "QuorumGate$Sets", name := "greatestSize", desc := "()I" } : Jvm.MethodName) prog_9_method_26_code (3 : Nat) (Option.some Jvm.ClassFile.FieldType.int)) ∈ lw_g := gwc_4 49 rfl rfl
theorem wd895 : (Jvm.Cond.methodLink "QuorumGate$Sets" (91 : Nat) ({ cls := "java/lang/Math", name := "max", desc := "(II)I" } : Jvm.MethodName)) ∈ lw_g := gwc_4 50 rfl rfl
theorem wd896 : (Jvm.Cond.static ({ cls := "java/lang/Math", name := "max", desc := "(II)I" } : Jvm.MethodName)) ∈ lw_g := gwc_4 51 rfl rfl
theorem wd897 : (Jvm.Cond.code ({ cls := "java/lang/Math", name := "max", desc := "(II)I" } : Jvm.MethodName) prog_18_method_65_code (2 : Nat) (Option.some Jvm.ClassFile.FieldType.int)) ∈ lw_g := gwc_4 52 rfl rfl
theorem wd898 : (Jvm.Cond.methodLink "QuorumGate" (152 : Nat) ({ cls := "QuorumGate$Sets", name := "common", desc := "()I" } : Jvm.MethodName)) ∈ lw_g := gwc_4 53 rfl rfl
theorem wd899 : (Jvm.Cond.instanceMethod ({ cls := "QuorumGate$Sets", name := "common", desc := "()I" } : Jvm.MethodName)) ∈ lw_g := gwc_4 54 rfl rfl
theorem wd900 : (Jvm.Cond.selects "QuorumGate$Sets" ({ cls := "QuorumGate$Sets", name := "common", desc := "()I" } : Jvm.MethodName) ({ cls := "QuorumGate$Sets", name := "common", desc := "()I" } : Jvm.MethodName)) ∈ lw_g := gwc_4 55 rfl rfl
theorem wd901 : (Jvm.Cond.code ({ cls := "QuorumGate$Sets", name := "common", desc := "()I" } : Jvm.MethodName) prog_9_method_27_code (3 : Nat) (Option.some Jvm.ClassFile.FieldType.int)) ∈ lw_g := gwc_4 56 rfl rfl
theorem wd902 : (Jvm.Cond.methodLink "QuorumGateLaw" (89 : Nat) ({ cls := "QuorumGate", name := "pivotal", desc := "(I)I" } : Jvm.MethodName)) ∈ lw_g := gwc_4 57 rfl rfl
theorem wd903 : (Jvm.Cond.instanceMethod ({ cls := "QuorumGate", name := "pivotal", desc := "(I)I" } : Jvm.MethodName)) ∈ lw_g := gwc_4 58 rfl rfl
theorem wd904 : (Jvm.Cond.selects "QuorumGate" ({ cls := "QuorumGate", name := "pivotal", desc := "(I)I" } : Jvm.MethodName) ({ cls := "QuorumGate", name := "pivotal", desc := "(I)I" } : Jvm.MethodName)) ∈ lw_g := gwc_4 59 rfl rfl
theorem wd905 : (Jvm.Cond.code ({ cls := "QuorumGate", name := "pivotal", desc := "(I)I" } : Jvm.MethodName) prog_1_method_20_code (2 : Nat) (Option.some Jvm.ClassFile.FieldType.int)) ∈ lw_g := gwc_4 60 rfl rfl
theorem wd906 : (Jvm.Cond.methodLink "QuorumGate" (158 : Nat) ({ cls := "QuorumGate$Family", name := "turnedBy", desc := "(I)I" } : Jvm.MethodName)) ∈ lw_g := gwc_4 61 rfl rfl
theorem wd907 : (Jvm.Cond.instanceMethod ({ cls := "QuorumGate$Family", name := "turnedBy", desc := "(I)I" } : Jvm.MethodName)) ∈ lw_g := gwc_4 62 rfl rfl
theorem wd908 : (Jvm.Cond.selects "QuorumGate$Family" ({ cls := "QuorumGate$Family", name := "turnedBy", desc := "(I)I" } : Jvm.MethodName) ({ cls := "QuorumGate$Family", name := "turnedBy", desc := "(I)I" } : Jvm.MethodName)) ∈ lw_g := gwc_4 63 rfl rfl
theorem wd909 : (Jvm.Cond.code ({ cls := "QuorumGate$Family", name := "turnedBy", desc := "(I)I" } : Jvm.MethodName) prog_3_method_10_code (4 : Nat) (Option.some Jvm.ClassFile.FieldType.int)) ∈ lw_g := gwc_4 64 rfl rfl
theorem wd910 : (Jvm.Cond.methodLink "QuorumGateLaw" (93 : Nat) ({ cls := "QuorumGate", name := "fair", desc := "()Z" } : Jvm.MethodName)) ∈ lw_g := gwc_4 65 rfl rfl
theorem wd911 : (Jvm.Cond.instanceMethod ({ cls := "QuorumGate", name := "fair", desc := "()Z" } : Jvm.MethodName)) ∈ lw_g := gwc_4 66 rfl rfl
theorem wd912 : (Jvm.Cond.selects "QuorumGate" ({ cls := "QuorumGate", name := "fair", desc := "()Z" } : Jvm.MethodName) ({ cls := "QuorumGate", name := "fair", desc := "()Z" } : Jvm.MethodName)) ∈ lw_g := gwc_4 67 rfl rfl
theorem wd913 : (Jvm.Cond.code ({ cls := "QuorumGate", name := "fair", desc := "()Z" } : Jvm.MethodName) prog_1_method_21_code (1 : Nat) (Option.some Jvm.ClassFile.FieldType.boolean)) ∈ lw_g := gwc_4 68 rfl rfl
theorem wd914 : (Jvm.Cond.methodLink "QuorumGate" (161 : Nat) ({ cls := "QuorumGate$Sets", name := "sameLoads", desc := "()Z" } : Jvm.MethodName)) ∈ lw_g := gwc_4 69 rfl rfl
theorem wd915 : (Jvm.Cond.instanceMethod ({ cls := "QuorumGate$Sets", name := "sameLoads", desc := "()Z" } : Jvm.MethodName)) ∈ lw_g := gwc_4 70 rfl rfl
theorem wd916 : (Jvm.Cond.selects "QuorumGate$Sets" ({ cls := "QuorumGate$Sets", name := "sameLoads", desc := "()Z" } : Jvm.MethodName) ({ cls := "QuorumGate$Sets", name := "sameLoads", desc := "()Z" } : Jvm.MethodName)) ∈ lw_g := gwc_4 71 rfl rfl
theorem wd917 : (Jvm.Cond.code ({ cls := "QuorumGate$Sets", name := "sameLoads", desc := "()Z" } : Jvm.MethodName) prog_9_method_22_code (2 : Nat) (Option.some Jvm.ClassFile.FieldType.boolean)) ∈ lw_g := gwc_4 72 rfl rfl
theorem wd918 : (Jvm.Cond.methodLink "QuorumGate$Sets" (74 : Nat) ({ cls := "QuorumGate$Sets", name := "loadOf", desc := "(I)I" } : Jvm.MethodName)) ∈ lw_g := gwc_4 73 rfl rfl
theorem wd919 : (Jvm.Cond.methodLink "QuorumGateLaw" (98 : Nat) ({ cls := "QuorumGate", name := "better", desc := "()I" } : Jvm.MethodName)) ∈ lw_g := gwc_4 74 rfl rfl
theorem wd920 : (Jvm.Cond.instanceMethod ({ cls := "QuorumGate", name := "better", desc := "()I" } : Jvm.MethodName)) ∈ lw_g := gwc_4 75 rfl rfl
theorem wd921 : (Jvm.Cond.selects "QuorumGate" ({ cls := "QuorumGate", name := "better", desc := "()I" } : Jvm.MethodName) ({ cls := "QuorumGate", name := "better", desc := "()I" } : Jvm.MethodName)) ∈ lw_g := gwc_4 76 rfl rfl
theorem wd922 : (Jvm.Cond.code ({ cls := "QuorumGate", name := "better", desc := "()I" } : Jvm.MethodName) prog_1_method_22_code (1 : Nat) (Option.some Jvm.ClassFile.FieldType.int)) ∈ lw_g := gwc_4 77 rfl rfl
theorem wd923 : (Jvm.Cond.methodLink "QuorumGate" (165 : Nat) ({ cls := "QuorumGate$Family", name := "leastBetter", desc := "()I" } : Jvm.MethodName)) ∈ lw_g := gwc_4 78 rfl rfl
theorem wd924 : (Jvm.Cond.instanceMethod ({ cls := "QuorumGate$Family", name := "leastBetter", desc := "()I" } : Jvm.MethodName)) ∈ lw_g := gwc_4 79 rfl rfl
theorem wd925 : (Jvm.Cond.selects "QuorumGate$Family" ({ cls := "QuorumGate$Family", name := "leastBetter", desc := "()I" } : Jvm.MethodName) ({ cls := "QuorumGate$Family", name := "leastBetter", desc := "()I" } : Jvm.MethodName)) ∈ lw_g := gwc_4 80 rfl rfl
theorem wd926 : (Jvm.Cond.code ({ cls := "QuorumGate$Family", name := "leastBetter", desc := "()I" } : Jvm.MethodName) prog_3_method_7_code (4 : Nat) (Option.some Jvm.ClassFile.FieldType.int)) ∈ lw_g := gwc_4 81 rfl rfl
theorem wd927 : (Jvm.Cond.methodLink "QuorumGateLaw" (102 : Nat) ({ cls := "QuorumGate", name := "ask", desc := "(I)I" } : Jvm.MethodName)) ∈ lw_g := gwc_4 82 rfl rfl
theorem wd928 : (Jvm.Cond.instanceMethod ({ cls := "QuorumGate", name := "ask", desc := "(I)I" } : Jvm.MethodName)) ∈ lw_g := gwc_4 83 rfl rfl
theorem wd929 : (Jvm.Cond.selects "QuorumGate" ({ cls := "QuorumGate", name := "ask", desc := "(I)I" } : Jvm.MethodName) ({ cls := "QuorumGate", name := "ask", desc := "(I)I" } : Jvm.MethodName)) ∈ lw_g := gwc_4 84 rfl rfl
theorem wd930 : (Jvm.Cond.code ({ cls := "QuorumGate", name := "ask", desc := "(I)I" } : Jvm.MethodName) prog_1_method_23_code (2 : Nat) (Option.some Jvm.ClassFile.FieldType.int)) ∈ lw_g := gwc_4 85 rfl rfl
theorem wd931 : (Jvm.Cond.methodLink "QuorumGate" (168 : Nat) ({ cls := "QuorumGate$Hall", name := "mayAsk", desc := "(I)Z" } : Jvm.MethodName)) ∈ lw_g := gwc_4 86 rfl rfl
theorem wd932 : (Jvm.Cond.instanceMethod ({ cls := "QuorumGate$Hall", name := "mayAsk", desc := "(I)Z" } : Jvm.MethodName)) ∈ lw_g := gwc_4 87 rfl rfl
theorem wd933 : (Jvm.Cond.selects "QuorumGate$Hall" ({ cls := "QuorumGate$Hall", name := "mayAsk", desc := "(I)Z" } : Jvm.MethodName) ({ cls := "QuorumGate$Hall", name := "mayAsk", desc := "(I)Z" } : Jvm.MethodName)) ∈ lw_g := gwc_4 88 rfl rfl
theorem wd934 : (Jvm.Cond.code ({ cls := "QuorumGate$Hall", name := "mayAsk", desc := "(I)Z" } : Jvm.MethodName) prog_4_method_7_code (2 : Nat) (Option.some Jvm.ClassFile.FieldType.boolean)) ∈ lw_g := gwc_4 89 rfl rfl
theorem wd936 : (Jvm.Cond.methodLink "QuorumGate" (171 : Nat) ({ cls := "QuorumGate$Hall", name := "startAsking", desc := "(I)V" } : Jvm.MethodName)) ∈ lw_g := gwc_4 91 rfl rfl
theorem wd937 : (Jvm.Cond.instanceMethod ({ cls := "QuorumGate$Hall", name := "startAsking", desc := "(I)V" } : Jvm.MethodName)) ∈ lw_g := gwc_4 92 rfl rfl
theorem wd938 : (Jvm.Cond.selects "QuorumGate$Hall" ({ cls := "QuorumGate$Hall", name := "startAsking", desc := "(I)V" } : Jvm.MethodName) ({ cls := "QuorumGate$Hall", name := "startAsking", desc := "(I)V" } : Jvm.MethodName)) ∈ lw_g := gwc_4 93 rfl rfl
theorem wd939 : (Jvm.Cond.code ({ cls := "QuorumGate$Hall", name := "startAsking", desc := "(I)V" } : Jvm.MethodName) prog_4_method_8_code (3 : Nat) (Option.none : Option Jvm.ClassFile.FieldType)) ∈ lw_g := gwc_4 94 rfl rfl
theorem wd940 : (Jvm.Cond.methodLink "QuorumGate$Hall" (121 : Nat) ({ cls := "QuorumGate$Place", name := "rest", desc := "()V" } : Jvm.MethodName)) ∈ lw_g := gwc_4 95 rfl rfl
theorem wd941 : (Jvm.Cond.methodLink "QuorumGate$Hall" (133 : Nat) ({ cls := "QuorumGate$Hall", name := "sendToAll", desc := "(III)V" } : Jvm.MethodName)) ∈ lw_g := gwc_4 96 rfl rfl
theorem wd943 : (Jvm.Cond.instanceMethod ({ cls := "QuorumGate$Hall", name := "sendToAll", desc := "(III)V" } : Jvm.MethodName)) ∈ lw_g := gwc_4 98 rfl rfl
theorem wd944 : (Jvm.Cond.code ({ cls := "QuorumGate$Hall", name := "sendToAll", desc := "(III)V" } : Jvm.MethodName) prog_4_method_12_code (5 : Nat) (Option.none : Option Jvm.ClassFile.FieldType)) ∈ lw_g := gwc_4 99 rfl rfl
theorem wd945 : (Jvm.Cond.methodLink "QuorumGate$Hall" (147 : Nat) ({ cls := "QuorumGate$Post", name := "put", desc := "(IIII)V" } : Jvm.MethodName)) ∈ lw_g := gwc_4 100 rfl rfl
theorem wd946 : (Jvm.Cond.instanceMethod ({ cls := "QuorumGate$Post", name := "put", desc := "(IIII)V" } : Jvm.MethodName)) ∈ lw_g := gwc_4 101 rfl rfl
theorem wd947 : (Jvm.Cond.selects "QuorumGate$Post" ({ cls := "QuorumGate$Post", name := "put", desc := "(IIII)V" } : Jvm.MethodName) ({ cls := "QuorumGate$Post", name := "put", desc := "(IIII)V" } : Jvm.MethodName)) ∈ lw_g := gwc_4 102 rfl rfl
theorem wd948 : (Jvm.Cond.code ({ cls := "QuorumGate$Post", name := "put", desc := "(IIII)V" } : Jvm.MethodName) prog_7_method_4_code (7 : Nat) (Option.none : Option Jvm.ClassFile.FieldType)) ∈ lw_g := gwc_4 103 rfl rfl
theorem wd949 : (Jvm.Cond.constant "QuorumGate$Post" (43 : Nat) (131072 : Int32)) ∈ lw_g := gwc_4 104 rfl rfl
theorem wd950 : (Jvm.Cond.methodLink "QuorumGate$Post" (47 : Nat) ({ cls := "java/util/Arrays", name := "copyOf", desc := "([II)[I" } : Jvm.MethodName)) ∈ lw_g := gwc_4 105 rfl rfl
theorem wd951 : (Jvm.Cond.static ({ cls := "java/util/Arrays", name := "copyOf", desc := "([II)[I" } : Jvm.MethodName)) ∈ lw_g := gwc_4 106 rfl rfl
theorem wd952 : (Jvm.Cond.code ({ cls := "java/util/Arrays", name := "copyOf", desc := "([II)[I" } : Jvm.MethodName) prog_21_method_123_code (3 : Nat) (Option.some (Jvm.ClassFile.FieldType.array Jvm.ClassFile.FieldType.int))) ∈ lw_g := gwc_4 107 rfl rfl
theorem wd960 : (Jvm.Cond.methodLink "java/util/Arrays" (304 : Nat) ({ cls := "java/lang/Math", name := "min", desc := "(II)I" } : Jvm.MethodName)) ∈ lw_g := gwc_4 115 rfl rfl
theorem wd961 : (Jvm.Cond.methodLink "java/util/Arrays" (150 : Nat) ({ cls := "java/lang/System", name := "arraycopy", desc := "(Ljava/lang/Object;ILjava/lang/Object;II)V" } : Jvm.MethodName)) ∈ lw_g := gwc_4 116 rfl rfl
theorem wd962 : (Jvm.Cond.methodLink "QuorumGateLaw" (106 : Nat) ({ cls := "QuorumGate", name := "leave", desc := "(I)Z" } : Jvm.MethodName)) ∈ lw_g := gwc_4 117 rfl rfl
theorem wd963 : (Jvm.Cond.instanceMethod ({ cls := "QuorumGate", name := "leave", desc := "(I)Z" } : Jvm.MethodName)) ∈ lw_g := gwc_4 118 rfl rfl
theorem wd964 : (Jvm.Cond.selects "QuorumGate" ({ cls := "QuorumGate", name := "leave", desc := "(I)Z" } : Jvm.MethodName) ({ cls := "QuorumGate", name := "leave", desc := "(I)Z" } : Jvm.MethodName)) ∈ lw_g := gwc_4 119 rfl rfl
theorem wd965 : (Jvm.Cond.code ({ cls := "QuorumGate", name := "leave", desc := "(I)Z" } : Jvm.MethodName) prog_1_method_24_code (2 : Nat) (Option.some Jvm.ClassFile.FieldType.boolean)) ∈ lw_g := gwc_4 120 rfl rfl
theorem wd966 : (Jvm.Cond.methodLink "QuorumGate" (180 : Nat) ({ cls := "QuorumGate", name := "has", desc := "(II)Z" } : Jvm.MethodName)) ∈ lw_g := gwc_4 121 rfl rfl
theorem wd967 : (Jvm.Cond.methodLink "QuorumGate" (184 : Nat) ({ cls := "QuorumGate$Hall", name := "finish", desc := "(I)V" } : Jvm.MethodName)) ∈ lw_g := gwc_4 122 rfl rfl
theorem wd968 : (Jvm.Cond.instanceMethod ({ cls := "QuorumGate$Hall", name := "finish", desc := "(I)V" } : Jvm.MethodName)) ∈ lw_g := gwc_4 123 rfl rfl
theorem wd969 : (Jvm.Cond.selects "QuorumGate$Hall" ({ cls := "QuorumGate$Hall", name := "finish", desc := "(I)V" } : Jvm.MethodName) ({ cls := "QuorumGate$Hall", name := "finish", desc := "(I)V" } : Jvm.MethodName)) ∈ lw_g := gwc_4 124 rfl rfl
theorem wd970 : (Jvm.Cond.code ({ cls := "QuorumGate$Hall", name := "finish", desc := "(I)V" } : Jvm.MethodName) prog_4_method_10_code (2 : Nat) (Option.none : Option Jvm.ClassFile.FieldType)) ∈ lw_g := gwc_4 125 rfl rfl
theorem wd971 : (Jvm.Cond.methodLink "QuorumGate$Hall" (144 : Nat) ({ cls := "QuorumGate$Hall", name := "beIdle", desc := "(I)V" } : Jvm.MethodName)) ∈ lw_g := gwc_4 126 rfl rfl
theorem wd973 : (Jvm.Cond.instanceMethod ({ cls := "QuorumGate$Hall", name := "beIdle", desc := "(I)V" } : Jvm.MethodName)) ∈ lw_g := gwc_4 128 rfl rfl
theorem wd974 : (Jvm.Cond.code ({ cls := "QuorumGate$Hall", name := "beIdle", desc := "(I)V" } : Jvm.MethodName) prog_4_method_11_code (2 : Nat) (Option.none : Option Jvm.ClassFile.FieldType)) ∈ lw_g := gwc_4 129 rfl rfl
theorem wd975 : (Jvm.Cond.methodLink "QuorumGateLaw" (110 : Nat) ({ cls := "QuorumGate", name := "bring", desc := "(II)I" } : Jvm.MethodName)) ∈ lw_g := gwc_4 130 rfl rfl
theorem wd976 : (Jvm.Cond.instanceMethod ({ cls := "QuorumGate", name := "bring", desc := "(II)I" } : Jvm.MethodName)) ∈ lw_g := gwc_4 131 rfl rfl
theorem wd977 : (Jvm.Cond.selects "QuorumGate" ({ cls := "QuorumGate", name := "bring", desc := "(II)I" } : Jvm.MethodName) ({ cls := "QuorumGate", name := "bring", desc := "(II)I" } : Jvm.MethodName)) ∈ lw_g := gwc_4 132 rfl rfl
theorem wd978 : (Jvm.Cond.code ({ cls := "QuorumGate", name := "bring", desc := "(II)I" } : Jvm.MethodName) prog_1_method_25_code (3 : Nat) (Option.some Jvm.ClassFile.FieldType.int)) ∈ lw_g := gwc_4 133 rfl rfl
theorem wd979 : (Jvm.Cond.methodLink "QuorumGate" (187 : Nat) ({ cls := "QuorumGate$Hall", name := "bringFirst", desc := "(II)I" } : Jvm.MethodName)) ∈ lw_g := gwc_4 134 rfl rfl
theorem wd980 : (Jvm.Cond.instanceMethod ({ cls := "QuorumGate$Hall", name := "bringFirst", desc := "(II)I" } : Jvm.MethodName)) ∈ lw_g := gwc_4 135 rfl rfl
theorem wd981 : (Jvm.Cond.selects "QuorumGate$Hall" ({ cls := "QuorumGate$Hall", name := "bringFirst", desc := "(II)I" } : Jvm.MethodName) ({ cls := "QuorumGate$Hall", name := "bringFirst", desc := "(II)I" } : Jvm.MethodName)) ∈ lw_g := gwc_4 136 rfl rfl
theorem wd982 : (Jvm.Cond.code ({ cls := "QuorumGate$Hall", name := "bringFirst", desc := "(II)I" } : Jvm.MethodName) prog_4_method_17_code (6 : Nat) (Option.some Jvm.ClassFile.FieldType.int)) ∈ lw_g := gwc_4 137 rfl rfl
theorem wd983 : (Jvm.Cond.methodLink "QuorumGate$Hall" (179 : Nat) ({ cls := "QuorumGate$Sets", name := "isNode", desc := "(I)Z" } : Jvm.MethodName)) ∈ lw_g := gwc_4 138 rfl rfl
theorem wd984 : (Jvm.Cond.methodLink "QuorumGate$Hall" (182 : Nat) ({ cls := "QuorumGate$Post", name := "takeFirst", desc := "(II)I" } : Jvm.MethodName)) ∈ lw_g := gwc_4 139 rfl rfl
theorem wd985 : (Jvm.Cond.instanceMethod ({ cls := "QuorumGate$Post", name := "takeFirst", desc := "(II)I" } : Jvm.MethodName)) ∈ lw_g := gwc_4 140 rfl rfl
theorem wd986 : (Jvm.Cond.selects "QuorumGate$Post" ({ cls := "QuorumGate$Post", name := "takeFirst", desc := "(II)I" } : Jvm.MethodName) ({ cls := "QuorumGate$Post", name := "takeFirst", desc := "(II)I" } : Jvm.MethodName)) ∈ lw_g := gwc_4 141 rfl rfl
theorem wd987 : (Jvm.Cond.code ({ cls := "QuorumGate$Post", name := "takeFirst", desc := "(II)I" } : Jvm.MethodName) prog_7_method_5_code (5 : Nat) (Option.some Jvm.ClassFile.FieldType.int)) ∈ lw_g := gwc_4 142 rfl rfl
theorem wd988 : (Jvm.Cond.methodLink "QuorumGate$Hall" (185 : Nat) ({ cls := "QuorumGate$Post", name := "kindOf", desc := "(I)I" } : Jvm.MethodName)) ∈ lw_g := gwc_4 143 rfl rfl
theorem wd989 : (Jvm.Cond.static ({ cls := "QuorumGate$Post", name := "kindOf", desc := "(I)I" } : Jvm.MethodName)) ∈ lw_g := gwc_4 144 rfl rfl
theorem wd990 : (Jvm.Cond.code ({ cls := "QuorumGate$Post", name := "kindOf", desc := "(I)I" } : Jvm.MethodName) prog_7_method_2_code (1 : Nat) (Option.some Jvm.ClassFile.FieldType.int)) ∈ lw_g := gwc_4 145 rfl rfl
theorem wd991 : (Jvm.Cond.methodLink "QuorumGate$Hall" (189 : Nat) ({ cls := "QuorumGate$Post", name := "stampOf", desc := "(I)I" } : Jvm.MethodName)) ∈ lw_g := gwc_4 146 rfl rfl
theorem wd992 : (Jvm.Cond.static ({ cls := "QuorumGate$Post", name := "stampOf", desc := "(I)I" } : Jvm.MethodName)) ∈ lw_g := gwc_4 147 rfl rfl
theorem wd993 : (Jvm.Cond.code ({ cls := "QuorumGate$Post", name := "stampOf", desc := "(I)I" } : Jvm.MethodName) prog_7_method_3_code (1 : Nat) (Option.some Jvm.ClassFile.FieldType.int)) ∈ lw_g := gwc_4 148 rfl rfl
theorem wd994 : (Jvm.Cond.methodLink "QuorumGate$Hall" (192 : Nat) ({ cls := "QuorumGate$Hall", name := "noteBringing", desc := "(IIII)V" } : Jvm.MethodName)) ∈ lw_g := gwc_4 149 rfl rfl
theorem wd996 : (Jvm.Cond.instanceMethod ({ cls := "QuorumGate$Hall", name := "noteBringing", desc := "(IIII)V" } : Jvm.MethodName)) ∈ lw_g := gwc_4 151 rfl rfl
theorem wd997 : (Jvm.Cond.code ({ cls := "QuorumGate$Hall", name := "noteBringing", desc := "(IIII)V" } : Jvm.MethodName) prog_4_method_18_code (5 : Nat) (Option.none : Option Jvm.ClassFile.FieldType)) ∈ lw_g := gwc_4 152 rfl rfl
theorem wd998 : (Jvm.Cond.methodLink "QuorumGate$Hall" (218 : Nat) ({ cls := "QuorumGate$Log", name := "add", desc := "(IIII)V" } : Jvm.MethodName)) ∈ lw_g := gwc_4 153 rfl rfl
theorem wd999 : (Jvm.Cond.instanceMethod ({ cls := "QuorumGate$Log", name := "add", desc := "(IIII)V" } : Jvm.MethodName)) ∈ lw_g := gwc_4 154 rfl rfl
theorem wd1000 : (Jvm.Cond.selects "QuorumGate$Log" ({ cls := "QuorumGate$Log", name := "add", desc := "(IIII)V" } : Jvm.MethodName) ({ cls := "QuorumGate$Log", name := "add", desc := "(IIII)V" } : Jvm.MethodName)) ∈ lw_g := gwc_4 155 rfl rfl
theorem wd1001 : (Jvm.Cond.code ({ cls := "QuorumGate$Log", name := "add", desc := "(IIII)V" } : Jvm.MethodName) prog_5_method_3_code (6 : Nat) (Option.none : Option Jvm.ClassFile.FieldType)) ∈ lw_g := gwc_4 156 rfl rfl
theorem wd1002 : (Jvm.Cond.methodLink "QuorumGate$Hall" (195 : Nat) ({ cls := "java/lang/Math", name := "max", desc := "(II)I" } : Jvm.MethodName)) ∈ lw_g := gwc_4 157 rfl rfl
theorem wd1003 : (Jvm.Cond.methodLink "QuorumGate$Hall" (200 : Nat) ({ cls := "QuorumGate$Hall", name := "hearRequest", desc := "(III)V" } : Jvm.MethodName)) ∈ lw_g := gwc_4 158 rfl rfl
theorem wd1005 : (Jvm.Cond.instanceMethod ({ cls := "QuorumGate$Hall", name := "hearRequest", desc := "(III)V" } : Jvm.MethodName)) ∈ lw_g := gwc_4 160 rfl rfl
theorem wd1006 : (Jvm.Cond.code ({ cls := "QuorumGate$Hall", name := "hearRequest", desc := "(III)V" } : Jvm.MethodName) prog_4_method_19_code (6 : Nat) (Option.none : Option Jvm.ClassFile.FieldType)) ∈ lw_g := gwc_4 161 rfl rfl
theorem wd1007 : (Jvm.Cond.methodLink "QuorumGate$Hall" (224 : Nat) ({ cls := "QuorumGate$Place", name := "firstWaiter", desc := "()I" } : Jvm.MethodName)) ∈ lw_g := gwc_4 162 rfl rfl
theorem wd1008 : (Jvm.Cond.instanceMethod ({ cls := "QuorumGate$Place", name := "firstWaiter", desc := "()I" } : Jvm.MethodName)) ∈ lw_g := gwc_4 163 rfl rfl
theorem wd1009 : (Jvm.Cond.selects "QuorumGate$Place" ({ cls := "QuorumGate$Place", name := "firstWaiter", desc := "()I" } : Jvm.MethodName) ({ cls := "QuorumGate$Place", name := "firstWaiter", desc := "()I" } : Jvm.MethodName)) ∈ lw_g := gwc_4 164 rfl rfl
theorem wd1010 : (Jvm.Cond.code ({ cls := "QuorumGate$Place", name := "firstWaiter", desc := "()I" } : Jvm.MethodName) prog_6_method_11_code (3 : Nat) (Option.some Jvm.ClassFile.FieldType.int)) ∈ lw_g := gwc_4 165 rfl rfl
theorem wd1012 : (Jvm.Cond.methodLink "QuorumGate$Hall" (228 : Nat) ({ cls := "QuorumGate$Place", name := "letWait", desc := "(II)V" } : Jvm.MethodName)) ∈ lw_g := gwc_4 167 rfl rfl
theorem wd1013 : (Jvm.Cond.instanceMethod ({ cls := "QuorumGate$Place", name := "letWait", desc := "(II)V" } : Jvm.MethodName)) ∈ lw_g := gwc_4 168 rfl rfl
theorem wd1014 : (Jvm.Cond.selects "QuorumGate$Place" ({ cls := "QuorumGate$Place", name := "letWait", desc := "(II)V" } : Jvm.MethodName) ({ cls := "QuorumGate$Place", name := "letWait", desc := "(II)V" } : Jvm.MethodName)) ∈ lw_g := gwc_4 169 rfl rfl
theorem wd1015 : (Jvm.Cond.code ({ cls := "QuorumGate$Place", name := "letWait", desc := "(II)V" } : Jvm.MethodName) prog_6_method_7_code (3 : Nat) (Option.none : Option Jvm.ClassFile.FieldType)) ∈ lw_g := gwc_4 170 rfl rfl
theorem wd1016 : (Jvm.Cond.methodLink "QuorumGate$Hall" (176 : Nat) ({ cls := "QuorumGate$Hall", name := "grantFirst", desc := "(I)V" } : Jvm.MethodName)) ∈ lw_g := gwc_4 171 rfl rfl
theorem wd1018 : (Jvm.Cond.instanceMethod ({ cls := "QuorumGate$Hall", name := "grantFirst", desc := "(I)V" } : Jvm.MethodName)) ∈ lw_g := gwc_4 173 rfl rfl
theorem wd1019 : (Jvm.Cond.code ({ cls := "QuorumGate$Hall", name := "grantFirst", desc := "(I)V" } : Jvm.MethodName) prog_4_method_26_code (4 : Nat) (Option.none : Option Jvm.ClassFile.FieldType)) ∈ lw_g := gwc_4 174 rfl rfl
theorem wd1020 : (Jvm.Cond.methodLink "QuorumGate$Hall" (231 : Nat) ({ cls := "QuorumGate$Place", name := "isAheadOfGranted", desc := "(I)Z" } : Jvm.MethodName)) ∈ lw_g := gwc_4 175 rfl rfl
theorem wd1021 : (Jvm.Cond.instanceMethod ({ cls := "QuorumGate$Place", name := "isAheadOfGranted", desc := "(I)Z" } : Jvm.MethodName)) ∈ lw_g := gwc_4 176 rfl rfl
theorem wd1022 : (Jvm.Cond.selects "QuorumGate$Place" ({ cls := "QuorumGate$Place", name := "isAheadOfGranted", desc := "(I)Z" } : Jvm.MethodName) ({ cls := "QuorumGate$Place", name := "isAheadOfGranted", desc := "(I)Z" } : Jvm.MethodName)) ∈ lw_g := gwc_4 177 rfl rfl
theorem wd1023 : (Jvm.Cond.code ({ cls := "QuorumGate$Place", name := "isAheadOfGranted", desc := "(I)Z" } : Jvm.MethodName) prog_6_method_10_code (2 : Nat) (Option.some Jvm.ClassFile.FieldType.boolean)) ∈ lw_g := gwc_4 178 rfl rfl
theorem wd1025 : (Jvm.Cond.static ({ cls := "QuorumGate", name := "isAhead", desc := "(IIII)Z" } : Jvm.MethodName)) ∈ lw_g := gwc_4 180 rfl rfl
theorem wd1026 : (Jvm.Cond.code ({ cls := "QuorumGate", name := "isAhead", desc := "(IIII)Z" } : Jvm.MethodName) prog_1_method_60_code (4 : Nat) (Option.some Jvm.ClassFile.FieldType.boolean)) ∈ lw_g := gwc_4 181 rfl rfl
theorem wd1027 : (Jvm.Cond.methodLink "QuorumGate$Hall" (203 : Nat) ({ cls := "QuorumGate$Hall", name := "hearGrant", desc := "(III)V" } : Jvm.MethodName)) ∈ lw_g := gwc_4 182 rfl rfl
theorem wd1029 : (Jvm.Cond.instanceMethod ({ cls := "QuorumGate$Hall", name := "hearGrant", desc := "(III)V" } : Jvm.MethodName)) ∈ lw_g := gwc_4 184 rfl rfl
theorem wd1030 : (Jvm.Cond.code ({ cls := "QuorumGate$Hall", name := "hearGrant", desc := "(III)V" } : Jvm.MethodName) prog_4_method_20_code (5 : Nat) (Option.none : Option Jvm.ClassFile.FieldType)) ∈ lw_g := gwc_4 185 rfl rfl
theorem wd1031 : (Jvm.Cond.methodLink "QuorumGate$Hall" (244 : Nat) ({ cls := "QuorumGate$Hall", name := "isAskingBy", desc := "(II)Z" } : Jvm.MethodName)) ∈ lw_g := gwc_4 186 rfl rfl
theorem wd1033 : (Jvm.Cond.instanceMethod ({ cls := "QuorumGate$Hall", name := "isAskingBy", desc := "(II)Z" } : Jvm.MethodName)) ∈ lw_g := gwc_4 188 rfl rfl
theorem wd1034 : (Jvm.Cond.code ({ cls := "QuorumGate$Hall", name := "isAskingBy", desc := "(II)Z" } : Jvm.MethodName) prog_4_method_25_code (3 : Nat) (Option.some Jvm.ClassFile.FieldType.boolean)) ∈ lw_g := gwc_4 189 rfl rfl
theorem wd1035 : (Jvm.Cond.methodLink "QuorumGate$Hall" (256 : Nat) ({ cls := "QuorumGate$Hall", name := "enter", desc := "(I)V" } : Jvm.MethodName)) ∈ lw_g := gwc_4 190 rfl rfl
theorem wd1037 : (Jvm.Cond.instanceMethod ({ cls := "QuorumGate$Hall", name := "enter", desc := "(I)V" } : Jvm.MethodName)) ∈ lw_g := gwc_4 192 rfl rfl
theorem wd1038 : (Jvm.Cond.code ({ cls := "QuorumGate$Hall", name := "enter", desc := "(I)V" } : Jvm.MethodName) prog_4_method_27_code (4 : Nat) (Option.none : Option Jvm.ClassFile.FieldType)) ∈ lw_g := gwc_4 193 rfl rfl
theorem wd1039 : (Jvm.Cond.methodLink "QuorumGate$Hall" (272 : Nat) ({ cls := "java/lang/Integer", name := "bitCount", desc := "(I)I" } : Jvm.MethodName)) ∈ lw_g := gwc_4 194 rfl rfl
theorem wd1040 : (Jvm.Cond.methodLink "QuorumGate$Hall" (277 : Nat) ({ cls := "QuorumGate$Hall", name := "isSomeoneAheadOf", desc := "(I)Z" } : Jvm.MethodName)) ∈ lw_g := gwc_4 195 rfl rfl
theorem wd1042 : (Jvm.Cond.instanceMethod ({ cls := "QuorumGate$Hall", name := "isSomeoneAheadOf", desc := "(I)Z" } : Jvm.MethodName)) ∈ lw_g := gwc_4 197 rfl rfl
theorem wd1043 : (Jvm.Cond.code ({ cls := "QuorumGate$Hall", name := "isSomeoneAheadOf", desc := "(I)Z" } : Jvm.MethodName) prog_4_method_28_code (3 : Nat) (Option.some Jvm.ClassFile.FieldType.boolean)) ∈ lw_g := gwc_4 198 rfl rfl
theorem wd1045 : (Jvm.Cond.methodLink "QuorumGate$Hall" (206 : Nat) ({ cls := "QuorumGate$Hall", name := "hearFail", desc := "(III)V" } : Jvm.MethodName)) ∈ lw_g := gwc_4 200 rfl rfl
theorem wd1047 : (Jvm.Cond.instanceMethod ({ cls := "QuorumGate$Hall", name := "hearFail", desc := "(III)V" } : Jvm.MethodName)) ∈ lw_g := gwc_4 202 rfl rfl
theorem wd1048 : (Jvm.Cond.code ({ cls := "QuorumGate$Hall", name := "hearFail", desc := "(III)V" } : Jvm.MethodName) prog_4_method_21_code (5 : Nat) (Option.none : Option Jvm.ClassFile.FieldType)) ∈ lw_g := gwc_4 203 rfl rfl
theorem wd1049 : (Jvm.Cond.methodLink "QuorumGate$Hall" (209 : Nat) ({ cls := "QuorumGate$Hall", name := "hearInquire", desc := "(III)V" } : Jvm.MethodName)) ∈ lw_g := gwc_4 204 rfl rfl
theorem wd1051 : (Jvm.Cond.instanceMethod ({ cls := "QuorumGate$Hall", name := "hearInquire", desc := "(III)V" } : Jvm.MethodName)) ∈ lw_g := gwc_4 206 rfl rfl
theorem wd1052 : (Jvm.Cond.code ({ cls := "QuorumGate$Hall", name := "hearInquire", desc := "(III)V" } : Jvm.MethodName) prog_4_method_22_code (5 : Nat) (Option.none : Option Jvm.ClassFile.FieldType)) ∈ lw_g := gwc_4 207 rfl rfl
theorem wd1053 : (Jvm.Cond.methodLink "QuorumGate$Hall" (212 : Nat) ({ cls := "QuorumGate$Hall", name := "hearYield", desc := "(III)V" } : Jvm.MethodName)) ∈ lw_g := gwc_4 208 rfl rfl
theorem wd1055 : (Jvm.Cond.instanceMethod ({ cls := "QuorumGate$Hall", name := "hearYield", desc := "(III)V" } : Jvm.MethodName)) ∈ lw_g := gwc_4 210 rfl rfl
theorem wd1056 : (Jvm.Cond.code ({ cls := "QuorumGate$Hall", name := "hearYield", desc := "(III)V" } : Jvm.MethodName) prog_4_method_23_code (5 : Nat) (Option.none : Option Jvm.ClassFile.FieldType)) ∈ lw_g := gwc_4 211 rfl rfl
theorem wd1057 : (Jvm.Cond.methodLink "QuorumGate$Hall" (259 : Nat) ({ cls := "QuorumGate$Place", name := "isGrantedBy", desc := "(II)Z" } : Jvm.MethodName)) ∈ lw_g := gwc_4 212 rfl rfl
theorem wd1058 : (Jvm.Cond.instanceMethod ({ cls := "QuorumGate$Place", name := "isGrantedBy", desc := "(II)Z" } : Jvm.MethodName)) ∈ lw_g := gwc_4 213 rfl rfl
theorem wd1059 : (Jvm.Cond.selects "QuorumGate$Place" ({ cls := "QuorumGate$Place", name := "isGrantedBy", desc := "(II)Z" } : Jvm.MethodName) ({ cls := "QuorumGate$Place", name := "isGrantedBy", desc := "(II)Z" } : Jvm.MethodName)) ∈ lw_g := gwc_4 214 rfl rfl
theorem wd1060 : (Jvm.Cond.code ({ cls := "QuorumGate$Place", name := "isGrantedBy", desc := "(II)Z" } : Jvm.MethodName) prog_6_method_8_code (3 : Nat) (Option.some Jvm.ClassFile.FieldType.boolean)) ∈ lw_g := gwc_4 215 rfl rfl
theorem wd1061 : (Jvm.Cond.methodLink "QuorumGate$Hall" (215 : Nat) ({ cls := "QuorumGate$Hall", name := "hearRelease", desc := "(III)V" } : Jvm.MethodName)) ∈ lw_g := gwc_4 216 rfl rfl
theorem wd1063 : (Jvm.Cond.instanceMethod ({ cls := "QuorumGate$Hall", name := "hearRelease", desc := "(III)V" } : Jvm.MethodName)) ∈ lw_g := gwc_4 218 rfl rfl
theorem wd1064 : (Jvm.Cond.code ({ cls := "QuorumGate$Hall", name := "hearRelease", desc := "(III)V" } : Jvm.MethodName) prog_4_method_24_code (5 : Nat) (Option.none : Option Jvm.ClassFile.FieldType)) ∈ lw_g := gwc_4 219 rfl rfl
theorem wd1065 : (Jvm.Cond.methodLink "QuorumGate$Hall" (173 : Nat) ({ cls := "QuorumGate$Place", name := "forgetGranted", desc := "()V" } : Jvm.MethodName)) ∈ lw_g := gwc_4 220 rfl rfl
theorem wd1066 : (Jvm.Cond.methodLink "QuorumGate$Hall" (262 : Nat) ({ cls := "QuorumGate$Place", name := "isWaitingBy", desc := "(II)Z" } : Jvm.MethodName)) ∈ lw_g := gwc_4 221 rfl rfl
theorem wd1067 : (Jvm.Cond.instanceMethod ({ cls := "QuorumGate$Place", name := "isWaitingBy", desc := "(II)Z" } : Jvm.MethodName)) ∈ lw_g := gwc_4 222 rfl rfl
theorem wd1068 : (Jvm.Cond.selects "QuorumGate$Place" ({ cls := "QuorumGate$Place", name := "isWaitingBy", desc := "(II)Z" } : Jvm.MethodName) ({ cls := "QuorumGate$Place", name := "isWaitingBy", desc := "(II)Z" } : Jvm.MethodName)) ∈ lw_g := gwc_4 223 rfl rfl
theorem wd1069 : (Jvm.Cond.code ({ cls := "QuorumGate$Place", name := "isWaitingBy", desc := "(II)Z" } : Jvm.MethodName) prog_6_method_9_code (3 : Nat) (Option.some Jvm.ClassFile.FieldType.boolean)) ∈ lw_g := gwc_4 224 rfl rfl
theorem wd1070 : (Jvm.Cond.methodLink "QuorumGateLaw" (114 : Nat) ({ cls := "QuorumGate", name := "withdraw", desc := "(I)Z" } : Jvm.MethodName)) ∈ lw_g := gwc_4 225 rfl rfl
theorem wd1071 : (Jvm.Cond.instanceMethod ({ cls := "QuorumGate", name := "withdraw", desc := "(I)Z" } : Jvm.MethodName)) ∈ lw_g := gwc_4 226 rfl rfl
theorem wd1072 : (Jvm.Cond.selects "QuorumGate" ({ cls := "QuorumGate", name := "withdraw", desc := "(I)Z" } : Jvm.MethodName) ({ cls := "QuorumGate", name := "withdraw", desc := "(I)Z" } : Jvm.MethodName)) ∈ lw_g := gwc_4 227 rfl rfl
theorem wd1073 : (Jvm.Cond.code ({ cls := "QuorumGate", name := "withdraw", desc := "(I)Z" } : Jvm.MethodName) prog_1_method_26_code (2 : Nat) (Option.some Jvm.ClassFile.FieldType.boolean)) ∈ lw_g := gwc_4 228 rfl rfl
theorem wd1074 : (Jvm.Cond.methodLink "QuorumGateLaw" (118 : Nat) ({ cls := "QuorumGate", name := "breakDown", desc := "(I)Z" } : Jvm.MethodName)) ∈ lw_g := gwc_4 229 rfl rfl
theorem wd1075 : (Jvm.Cond.instanceMethod ({ cls := "QuorumGate", name := "breakDown", desc := "(I)Z" } : Jvm.MethodName)) ∈ lw_g := gwc_4 230 rfl rfl
theorem wd1076 : (Jvm.Cond.selects "QuorumGate" ({ cls := "QuorumGate", name := "breakDown", desc := "(I)Z" } : Jvm.MethodName) ({ cls := "QuorumGate", name := "breakDown", desc := "(I)Z" } : Jvm.MethodName)) ∈ lw_g := gwc_4 231 rfl rfl
theorem wd1077 : (Jvm.Cond.code ({ cls := "QuorumGate", name := "breakDown", desc := "(I)Z" } : Jvm.MethodName) prog_1_method_27_code (2 : Nat) (Option.some Jvm.ClassFile.FieldType.boolean)) ∈ lw_g := gwc_4 232 rfl rfl
theorem wd1078 : (Jvm.Cond.methodLink "QuorumGate" (194 : Nat) ({ cls := "QuorumGate$Hall", name := "howIs", desc := "(I)I" } : Jvm.MethodName)) ∈ lw_g := gwc_4 233 rfl rfl
theorem wd1079 : (Jvm.Cond.instanceMethod ({ cls := "QuorumGate$Hall", name := "howIs", desc := "(I)I" } : Jvm.MethodName)) ∈ lw_g := gwc_4 234 rfl rfl
theorem wd1080 : (Jvm.Cond.selects "QuorumGate$Hall" ({ cls := "QuorumGate$Hall", name := "howIs", desc := "(I)I" } : Jvm.MethodName) ({ cls := "QuorumGate$Hall", name := "howIs", desc := "(I)I" } : Jvm.MethodName)) ∈ lw_g := gwc_4 235 rfl rfl
theorem wd1081 : (Jvm.Cond.code ({ cls := "QuorumGate$Hall", name := "howIs", desc := "(I)I" } : Jvm.MethodName) prog_4_method_5_code (2 : Nat) (Option.some Jvm.ClassFile.FieldType.int)) ∈ lw_g := gwc_4 236 rfl rfl
theorem wd1082 : (Jvm.Cond.methodLink "QuorumGate" (200 : Nat) ({ cls := "QuorumGate$Hall", name := "breakNode", desc := "(I)V" } : Jvm.MethodName)) ∈ lw_g := gwc_4 237 rfl rfl
theorem wd1083 : (Jvm.Cond.instanceMethod ({ cls := "QuorumGate$Hall", name := "breakNode", desc := "(I)V" } : Jvm.MethodName)) ∈ lw_g := gwc_4 238 rfl rfl
theorem wd1084 : (Jvm.Cond.selects "QuorumGate$Hall" ({ cls := "QuorumGate$Hall", name := "breakNode", desc := "(I)V" } : Jvm.MethodName) ({ cls := "QuorumGate$Hall", name := "breakNode", desc := "(I)V" } : Jvm.MethodName)) ∈ lw_g := gwc_4 239 rfl rfl
theorem wd1085 : (Jvm.Cond.code ({ cls := "QuorumGate$Hall", name := "breakNode", desc := "(I)V" } : Jvm.MethodName) prog_4_method_13_code (3 : Nat) (Option.none : Option Jvm.ClassFile.FieldType)) ∈ lw_g := gwc_5 0 rfl rfl
theorem wd1086 : (Jvm.Cond.methodLink "QuorumGate$Hall" (151 : Nat) ({ cls := "QuorumGate$Hall", name := "renewQuorums", desc := "()V" } : Jvm.MethodName)) ∈ lw_g := gwc_5 1 rfl rfl
theorem wd1088 : (Jvm.Cond.instanceMethod ({ cls := "QuorumGate$Hall", name := "renewQuorums", desc := "()V" } : Jvm.MethodName)) ∈ lw_g := gwc_5 3 rfl rfl
theorem wd1089 : (Jvm.Cond.code ({ cls := "QuorumGate$Hall", name := "renewQuorums", desc := "()V" } : Jvm.MethodName) prog_4_method_3_code (2 : Nat) (Option.none : Option Jvm.ClassFile.FieldType)) ∈ lw_g := gwc_5 4 rfl rfl
theorem wd1090 : (Jvm.Cond.methodLink "QuorumGate$Hall" (97 : Nat) ({ cls := "QuorumGate$Sets", name := "quorumNow", desc := "(II)I" } : Jvm.MethodName)) ∈ lw_g := gwc_5 5 rfl rfl
theorem wd1091 : (Jvm.Cond.instanceMethod ({ cls := "QuorumGate$Sets", name := "quorumNow", desc := "(II)I" } : Jvm.MethodName)) ∈ lw_g := gwc_5 6 rfl rfl
theorem wd1092 : (Jvm.Cond.selects "QuorumGate$Sets" ({ cls := "QuorumGate$Sets", name := "quorumNow", desc := "(II)I" } : Jvm.MethodName) ({ cls := "QuorumGate$Sets", name := "quorumNow", desc := "(II)I" } : Jvm.MethodName)) ∈ lw_g := gwc_5 7 rfl rfl
theorem wd1093 : (Jvm.Cond.code ({ cls := "QuorumGate$Sets", name := "quorumNow", desc := "(II)I" } : Jvm.MethodName) prog_9_method_15_code (3 : Nat) (Option.some Jvm.ClassFile.FieldType.int)) ∈ lw_g := gwc_5 8 rfl rfl
theorem wd1094 : (Jvm.Cond.methodLink "QuorumGate$Hall" (154 : Nat) ({ cls := "QuorumGate$Place", name := "forgetAll", desc := "()V" } : Jvm.MethodName)) ∈ lw_g := gwc_5 9 rfl rfl
theorem wd1095 : (Jvm.Cond.methodLink "QuorumGate$Hall" (157 : Nat) ({ cls := "QuorumGate$Post", name := "drop", desc := "(II)V" } : Jvm.MethodName)) ∈ lw_g := gwc_5 10 rfl rfl
theorem wd1096 : (Jvm.Cond.instanceMethod ({ cls := "QuorumGate$Post", name := "drop", desc := "(II)V" } : Jvm.MethodName)) ∈ lw_g := gwc_5 11 rfl rfl
theorem wd1097 : (Jvm.Cond.selects "QuorumGate$Post" ({ cls := "QuorumGate$Post", name := "drop", desc := "(II)V" } : Jvm.MethodName) ({ cls := "QuorumGate$Post", name := "drop", desc := "(II)V" } : Jvm.MethodName)) ∈ lw_g := gwc_5 12 rfl rfl
theorem wd1098 : (Jvm.Cond.code ({ cls := "QuorumGate$Post", name := "drop", desc := "(II)V" } : Jvm.MethodName) prog_7_method_6_code (4 : Nat) (Option.none : Option Jvm.ClassFile.FieldType)) ∈ lw_g := gwc_5 13 rfl rfl
theorem wd1099 : (Jvm.Cond.methodLink "QuorumGate$Post" (56 : Nat) ({ cls := "QuorumGate$Post", name := "countOn", desc := "(II)I" } : Jvm.MethodName)) ∈ lw_g := gwc_5 14 rfl rfl
theorem wd1100 : (Jvm.Cond.instanceMethod ({ cls := "QuorumGate$Post", name := "countOn", desc := "(II)I" } : Jvm.MethodName)) ∈ lw_g := gwc_5 15 rfl rfl
theorem wd1101 : (Jvm.Cond.selects "QuorumGate$Post" ({ cls := "QuorumGate$Post", name := "countOn", desc := "(II)I" } : Jvm.MethodName) ({ cls := "QuorumGate$Post", name := "countOn", desc := "(II)I" } : Jvm.MethodName)) ∈ lw_g := gwc_5 16 rfl rfl
theorem wd1102 : (Jvm.Cond.code ({ cls := "QuorumGate$Post", name := "countOn", desc := "(II)I" } : Jvm.MethodName) prog_7_method_7_code (3 : Nat) (Option.some Jvm.ClassFile.FieldType.int)) ∈ lw_g := gwc_5 17 rfl rfl
theorem wd1103 : (Jvm.Cond.methodLink "QuorumGate$Post" (60 : Nat) ({ cls := "QuorumGate$Post", name := "takeFirst", desc := "(II)I" } : Jvm.MethodName)) ∈ lw_g := gwc_5 18 rfl rfl
theorem wd1104 : (Jvm.Cond.methodLink "QuorumGate$Hall" (161 : Nat) ({ cls := "QuorumGate$Hall", name := "forget", desc := "(II)V" } : Jvm.MethodName)) ∈ lw_g := gwc_5 19 rfl rfl
theorem wd1106 : (Jvm.Cond.instanceMethod ({ cls := "QuorumGate$Hall", name := "forget", desc := "(II)V" } : Jvm.MethodName)) ∈ lw_g := gwc_5 21 rfl rfl
theorem wd1107 : (Jvm.Cond.code ({ cls := "QuorumGate$Hall", name := "forget", desc := "(II)V" } : Jvm.MethodName) prog_4_method_15_code (4 : Nat) (Option.none : Option Jvm.ClassFile.FieldType)) ∈ lw_g := gwc_5 22 rfl rfl
theorem wd1108 : (Jvm.Cond.methodLink "QuorumGate$Hall" (164 : Nat) ({ cls := "QuorumGate$Hall", name := "doWithout", desc := "(II)V" } : Jvm.MethodName)) ∈ lw_g := gwc_5 23 rfl rfl
theorem wd1110 : (Jvm.Cond.instanceMethod ({ cls := "QuorumGate$Hall", name := "doWithout", desc := "(II)V" } : Jvm.MethodName)) ∈ lw_g := gwc_5 25 rfl rfl
theorem wd1111 : (Jvm.Cond.code ({ cls := "QuorumGate$Hall", name := "doWithout", desc := "(II)V" } : Jvm.MethodName) prog_4_method_16_code (3 : Nat) (Option.none : Option Jvm.ClassFile.FieldType)) ∈ lw_g := gwc_5 26 rfl rfl
theorem wd1112 : (Jvm.Cond.methodLink "QuorumGate$Hall" (137 : Nat) ({ cls := "QuorumGate$Hall", name := "mayAsk", desc := "(I)Z" } : Jvm.MethodName)) ∈ lw_g := gwc_5 27 rfl rfl
theorem wd1113 : (Jvm.Cond.methodLink "QuorumGate$Hall" (141 : Nat) ({ cls := "QuorumGate$Hall", name := "startAsking", desc := "(I)V" } : Jvm.MethodName)) ∈ lw_g := gwc_5 28 rfl rfl
theorem wd1114 : (Jvm.Cond.methodLink "QuorumGateLaw" (122 : Nat) ({ cls := "QuorumGate", name := "mend", desc := "(I)Z" } : Jvm.MethodName)) ∈ lw_g := gwc_5 29 rfl rfl
theorem wd1115 : (Jvm.Cond.instanceMethod ({ cls := "QuorumGate", name := "mend", desc := "(I)Z" } : Jvm.MethodName)) ∈ lw_g := gwc_5 30 rfl rfl
theorem wd1116 : (Jvm.Cond.selects "QuorumGate" ({ cls := "QuorumGate", name := "mend", desc := "(I)Z" } : Jvm.MethodName) ({ cls := "QuorumGate", name := "mend", desc := "(I)Z" } : Jvm.MethodName)) ∈ lw_g := gwc_5 31 rfl rfl
theorem wd1117 : (Jvm.Cond.code ({ cls := "QuorumGate", name := "mend", desc := "(I)Z" } : Jvm.MethodName) prog_1_method_28_code (2 : Nat) (Option.some Jvm.ClassFile.FieldType.boolean)) ∈ lw_g := gwc_5 32 rfl rfl
theorem wd1118 : (Jvm.Cond.methodLink "QuorumGate" (203 : Nat) ({ cls := "QuorumGate$Hall", name := "isStill", desc := "()Z" } : Jvm.MethodName)) ∈ lw_g := gwc_5 33 rfl rfl
theorem wd1119 : (Jvm.Cond.instanceMethod ({ cls := "QuorumGate$Hall", name := "isStill", desc := "()Z" } : Jvm.MethodName)) ∈ lw_g := gwc_5 34 rfl rfl
theorem wd1120 : (Jvm.Cond.selects "QuorumGate$Hall" ({ cls := "QuorumGate$Hall", name := "isStill", desc := "()Z" } : Jvm.MethodName) ({ cls := "QuorumGate$Hall", name := "isStill", desc := "()Z" } : Jvm.MethodName)) ∈ lw_g := gwc_5 35 rfl rfl
theorem wd1121 : (Jvm.Cond.code ({ cls := "QuorumGate$Hall", name := "isStill", desc := "()Z" } : Jvm.MethodName) prog_4_method_6_code (1 : Nat) (Option.some Jvm.ClassFile.FieldType.boolean)) ∈ lw_g := gwc_5 36 rfl rfl
theorem wd1122 : (Jvm.Cond.methodLink "QuorumGate" (206 : Nat) ({ cls := "QuorumGate$Hall", name := "mendNode", desc := "(I)V" } : Jvm.MethodName)) ∈ lw_g := gwc_5 37 rfl rfl
theorem wd1123 : (Jvm.Cond.instanceMethod ({ cls := "QuorumGate$Hall", name := "mendNode", desc := "(I)V" } : Jvm.MethodName)) ∈ lw_g := gwc_5 38 rfl rfl
theorem wd1124 : (Jvm.Cond.selects "QuorumGate$Hall" ({ cls := "QuorumGate$Hall", name := "mendNode", desc := "(I)V" } : Jvm.MethodName) ({ cls := "QuorumGate$Hall", name := "mendNode", desc := "(I)V" } : Jvm.MethodName)) ∈ lw_g := gwc_5 39 rfl rfl
theorem wd1125 : (Jvm.Cond.code ({ cls := "QuorumGate$Hall", name := "mendNode", desc := "(I)V" } : Jvm.MethodName) prog_4_method_14_code (2 : Nat) (Option.none : Option Jvm.ClassFile.FieldType)) ∈ lw_g := gwc_5 40 rfl rfl
theorem wd1126 : (Jvm.Cond.methodLink "QuorumGateLaw" (126 : Nat) ({ cls := "QuorumGate", name := "node", desc := "(II)I" } : Jvm.MethodName)) ∈ lw_g := gwc_5 41 rfl rfl
theorem wd1127 : (Jvm.Cond.instanceMethod ({ cls := "QuorumGate", name := "node", desc := "(II)I" } : Jvm.MethodName)) ∈ lw_g := gwc_5 42 rfl rfl
theorem wd1128 : (Jvm.Cond.selects "QuorumGate" ({ cls := "QuorumGate", name := "node", desc := "(II)I" } : Jvm.MethodName) ({ cls := "QuorumGate", name := "node", desc := "(II)I" } : Jvm.MethodName)) ∈ lw_g := gwc_5 43 rfl rfl
theorem wd1129 : (Jvm.Cond.code ({ cls := "QuorumGate", name := "node", desc := "(II)I" } : Jvm.MethodName) prog_1_method_29_code (4 : Nat) (Option.some Jvm.ClassFile.FieldType.int)) ∈ lw_g := gwc_5 44 rfl rfl
theorem wd1130 : (Jvm.Cond.methodLink "QuorumGateLaw" (130 : Nat) ({ cls := "QuorumGate", name := "arbiter", desc := "(II)I" } : Jvm.MethodName)) ∈ lw_g := gwc_5 45 rfl rfl
theorem wd1131 : (Jvm.Cond.instanceMethod ({ cls := "QuorumGate", name := "arbiter", desc := "(II)I" } : Jvm.MethodName)) ∈ lw_g := gwc_5 46 rfl rfl
theorem wd1132 : (Jvm.Cond.selects "QuorumGate" ({ cls := "QuorumGate", name := "arbiter", desc := "(II)I" } : Jvm.MethodName) ({ cls := "QuorumGate", name := "arbiter", desc := "(II)I" } : Jvm.MethodName)) ∈ lw_g := gwc_5 47 rfl rfl
theorem wd1133 : (Jvm.Cond.code ({ cls := "QuorumGate", name := "arbiter", desc := "(II)I" } : Jvm.MethodName) prog_1_method_30_code (4 : Nat) (Option.some Jvm.ClassFile.FieldType.int)) ∈ lw_g := gwc_5 48 rfl rfl
theorem wd1134 : (Jvm.Cond.methodLink "QuorumGateLaw" (134 : Nat) ({ cls := "QuorumGate", name := "waiting", desc := "(III)I" } : Jvm.MethodName)) ∈ lw_g := gwc_5 49 rfl rfl
theorem wd1135 : (Jvm.Cond.instanceMethod ({ cls := "QuorumGate", name := "waiting", desc := "(III)I" } : Jvm.MethodName)) ∈ lw_g := gwc_5 50 rfl rfl
theorem wd1136 : (Jvm.Cond.selects "QuorumGate" ({ cls := "QuorumGate", name := "waiting", desc := "(III)I" } : Jvm.MethodName) ({ cls := "QuorumGate", name := "waiting", desc := "(III)I" } : Jvm.MethodName)) ∈ lw_g := gwc_5 51 rfl rfl
theorem wd1137 : (Jvm.Cond.code ({ cls := "QuorumGate", name := "waiting", desc := "(III)I" } : Jvm.MethodName) prog_1_method_31_code (6 : Nat) (Option.some Jvm.ClassFile.FieldType.int)) ∈ lw_g := gwc_5 52 rfl rfl
theorem wd1138 : (Jvm.Cond.methodLink "QuorumGate" (237 : Nat) ({ cls := "QuorumGate$Place", name := "waiterAt", desc := "(I)I" } : Jvm.MethodName)) ∈ lw_g := gwc_5 53 rfl rfl
theorem wd1139 : (Jvm.Cond.instanceMethod ({ cls := "QuorumGate$Place", name := "waiterAt", desc := "(I)I" } : Jvm.MethodName)) ∈ lw_g := gwc_5 54 rfl rfl
theorem wd1140 : (Jvm.Cond.selects "QuorumGate$Place" ({ cls := "QuorumGate$Place", name := "waiterAt", desc := "(I)I" } : Jvm.MethodName) ({ cls := "QuorumGate$Place", name := "waiterAt", desc := "(I)I" } : Jvm.MethodName)) ∈ lw_g := gwc_5 55 rfl rfl
theorem wd1141 : (Jvm.Cond.code ({ cls := "QuorumGate$Place", name := "waiterAt", desc := "(I)I" } : Jvm.MethodName) prog_6_method_12_code (3 : Nat) (Option.some Jvm.ClassFile.FieldType.int)) ∈ lw_g := gwc_5 56 rfl rfl
theorem wd1142 : (Jvm.Cond.methodLink "QuorumGate$Place" (85 : Nat) ({ cls := "QuorumGate$Place", name := "countAheadOf", desc := "(I)I" } : Jvm.MethodName)) ∈ lw_g := gwc_5 57 rfl rfl
theorem wd1144 : (Jvm.Cond.instanceMethod ({ cls := "QuorumGate$Place", name := "countAheadOf", desc := "(I)I" } : Jvm.MethodName)) ∈ lw_g := gwc_5 59 rfl rfl
theorem wd1145 : (Jvm.Cond.code ({ cls := "QuorumGate$Place", name := "countAheadOf", desc := "(I)I" } : Jvm.MethodName) prog_6_method_13_code (4 : Nat) (Option.some Jvm.ClassFile.FieldType.int)) ∈ lw_g := gwc_5 60 rfl rfl
theorem wd1146 : (Jvm.Cond.methodLink "QuorumGateLaw" (139 : Nat) ({ cls := "QuorumGate", name := "way", desc := "(III)I" } : Jvm.MethodName)) ∈ lw_g := gwc_5 61 rfl rfl
theorem wd1147 : (Jvm.Cond.instanceMethod ({ cls := "QuorumGate", name := "way", desc := "(III)I" } : Jvm.MethodName)) ∈ lw_g := gwc_5 62 rfl rfl
theorem wd1148 : (Jvm.Cond.selects "QuorumGate" ({ cls := "QuorumGate", name := "way", desc := "(III)I" } : Jvm.MethodName) ({ cls := "QuorumGate", name := "way", desc := "(III)I" } : Jvm.MethodName)) ∈ lw_g := gwc_5 63 rfl rfl
theorem wd1149 : (Jvm.Cond.code ({ cls := "QuorumGate", name := "way", desc := "(III)I" } : Jvm.MethodName) prog_1_method_32_code (4 : Nat) (Option.some Jvm.ClassFile.FieldType.int)) ∈ lw_g := gwc_5 64 rfl rfl
theorem wd1150 : (Jvm.Cond.methodLink "QuorumGate" (247 : Nat) ({ cls := "QuorumGate$Post", name := "countOn", desc := "(II)I" } : Jvm.MethodName)) ∈ lw_g := gwc_5 65 rfl rfl
theorem wd1151 : (Jvm.Cond.methodLink "QuorumGate" (252 : Nat) ({ cls := "QuorumGate$Post", name := "kindAt", desc := "(III)I" } : Jvm.MethodName)) ∈ lw_g := gwc_5 66 rfl rfl
theorem wd1152 : (Jvm.Cond.instanceMethod ({ cls := "QuorumGate$Post", name := "kindAt", desc := "(III)I" } : Jvm.MethodName)) ∈ lw_g := gwc_5 67 rfl rfl
theorem wd1153 : (Jvm.Cond.selects "QuorumGate$Post" ({ cls := "QuorumGate$Post", name := "kindAt", desc := "(III)I" } : Jvm.MethodName) ({ cls := "QuorumGate$Post", name := "kindAt", desc := "(III)I" } : Jvm.MethodName)) ∈ lw_g := gwc_5 68 rfl rfl
theorem wd1154 : (Jvm.Cond.code ({ cls := "QuorumGate$Post", name := "kindAt", desc := "(III)I" } : Jvm.MethodName) prog_7_method_8_code (7 : Nat) (Option.some Jvm.ClassFile.FieldType.int)) ∈ lw_g := gwc_5 69 rfl rfl
theorem wd1155 : (Jvm.Cond.methodLink "QuorumGate$Post" (63 : Nat) ({ cls := "QuorumGate$Post", name := "kindOf", desc := "(I)I" } : Jvm.MethodName)) ∈ lw_g := gwc_5 70 rfl rfl
theorem wd1156 : (Jvm.Cond.methodLink "QuorumGateLaw" (143 : Nat) ({ cls := "QuorumGate", name := "is", desc := "(I)I" } : Jvm.MethodName)) ∈ lw_g := gwc_5 71 rfl rfl
theorem wd1157 : (Jvm.Cond.instanceMethod ({ cls := "QuorumGate", name := "is", desc := "(I)I" } : Jvm.MethodName)) ∈ lw_g := gwc_5 72 rfl rfl
theorem wd1158 : (Jvm.Cond.selects "QuorumGate" ({ cls := "QuorumGate", name := "is", desc := "(I)I" } : Jvm.MethodName) ({ cls := "QuorumGate", name := "is", desc := "(I)I" } : Jvm.MethodName)) ∈ lw_g := gwc_5 73 rfl rfl
theorem wd1159 : (Jvm.Cond.code ({ cls := "QuorumGate", name := "is", desc := "(I)I" } : Jvm.MethodName) prog_1_method_33_code (2 : Nat) (Option.some Jvm.ClassFile.FieldType.int)) ∈ lw_g := gwc_5 74 rfl rfl
theorem wd1160 : (Jvm.Cond.methodLink "QuorumGate" (271 : Nat) ({ cls := "QuorumGate$Hall", name := "countMoves", desc := "()I" } : Jvm.MethodName)) ∈ lw_g := gwc_5 75 rfl rfl
theorem wd1161 : (Jvm.Cond.instanceMethod ({ cls := "QuorumGate$Hall", name := "countMoves", desc := "()I" } : Jvm.MethodName)) ∈ lw_g := gwc_5 76 rfl rfl
theorem wd1162 : (Jvm.Cond.selects "QuorumGate$Hall" ({ cls := "QuorumGate$Hall", name := "countMoves", desc := "()I" } : Jvm.MethodName) ({ cls := "QuorumGate$Hall", name := "countMoves", desc := "()I" } : Jvm.MethodName)) ∈ lw_g := gwc_5 77 rfl rfl
theorem wd1163 : (Jvm.Cond.code ({ cls := "QuorumGate$Hall", name := "countMoves", desc := "()I" } : Jvm.MethodName) prog_4_method_31_code (3 : Nat) (Option.some Jvm.ClassFile.FieldType.int)) ∈ lw_g := gwc_5 78 rfl rfl
theorem wd1164 : (Jvm.Cond.methodLink "QuorumGate" (277 : Nat) ({ cls := "QuorumGate$Hall", name := "round", desc := "()I" } : Jvm.MethodName)) ∈ lw_g := gwc_5 79 rfl rfl
theorem wd1165 : (Jvm.Cond.instanceMethod ({ cls := "QuorumGate$Hall", name := "round", desc := "()I" } : Jvm.MethodName)) ∈ lw_g := gwc_5 80 rfl rfl
theorem wd1166 : (Jvm.Cond.selects "QuorumGate$Hall" ({ cls := "QuorumGate$Hall", name := "round", desc := "()I" } : Jvm.MethodName) ({ cls := "QuorumGate$Hall", name := "round", desc := "()I" } : Jvm.MethodName)) ∈ lw_g := gwc_5 81 rfl rfl
theorem wd1167 : (Jvm.Cond.code ({ cls := "QuorumGate$Hall", name := "round", desc := "()I" } : Jvm.MethodName) prog_4_method_30_code (3 : Nat) (Option.some Jvm.ClassFile.FieldType.int)) ∈ lw_g := gwc_5 82 rfl rfl
theorem wd1168 : (Jvm.Cond.methodLink "QuorumGate$Hall" (284 : Nat) ({ cls := "QuorumGate$Hall", name := "awaitedBy", desc := "(I)I" } : Jvm.MethodName)) ∈ lw_g := gwc_5 83 rfl rfl
theorem wd1169 : (Jvm.Cond.instanceMethod ({ cls := "QuorumGate$Hall", name := "awaitedBy", desc := "(I)I" } : Jvm.MethodName)) ∈ lw_g := gwc_5 84 rfl rfl
theorem wd1170 : (Jvm.Cond.selects "QuorumGate$Hall" ({ cls := "QuorumGate$Hall", name := "awaitedBy", desc := "(I)I" } : Jvm.MethodName) ({ cls := "QuorumGate$Hall", name := "awaitedBy", desc := "(I)I" } : Jvm.MethodName)) ∈ lw_g := gwc_5 85 rfl rfl
theorem wd1171 : (Jvm.Cond.code ({ cls := "QuorumGate$Hall", name := "awaitedBy", desc := "(I)I" } : Jvm.MethodName) prog_4_method_29_code (5 : Nat) (Option.some Jvm.ClassFile.FieldType.int)) ∈ lw_g := gwc_5 86 rfl rfl
theorem wd1172 : (Jvm.Cond.methodLink "QuorumGateLaw" (147 : Nat) ({ cls := "QuorumGate", name := "handled", desc := "(I)I" } : Jvm.MethodName)) ∈ lw_g := gwc_5 87 rfl rfl
theorem wd1173 : (Jvm.Cond.instanceMethod ({ cls := "QuorumGate", name := "handled", desc := "(I)I" } : Jvm.MethodName)) ∈ lw_g := gwc_5 88 rfl rfl
theorem wd1174 : (Jvm.Cond.selects "QuorumGate" ({ cls := "QuorumGate", name := "handled", desc := "(I)I" } : Jvm.MethodName) ({ cls := "QuorumGate", name := "handled", desc := "(I)I" } : Jvm.MethodName)) ∈ lw_g := gwc_5 89 rfl rfl
theorem wd1175 : (Jvm.Cond.code ({ cls := "QuorumGate", name := "handled", desc := "(I)I" } : Jvm.MethodName) prog_1_method_34_code (2 : Nat) (Option.some Jvm.ClassFile.FieldType.int)) ∈ lw_g := gwc_5 90 rfl rfl
theorem wd1176 : (Jvm.Cond.methodLink "QuorumGateLaw" (151 : Nat) ({ cls := "QuorumGate", name := "sent", desc := "(I)I" } : Jvm.MethodName)) ∈ lw_g := gwc_5 91 rfl rfl
theorem wd1177 : (Jvm.Cond.instanceMethod ({ cls := "QuorumGate", name := "sent", desc := "(I)I" } : Jvm.MethodName)) ∈ lw_g := gwc_5 92 rfl rfl
theorem wd1178 : (Jvm.Cond.selects "QuorumGate" ({ cls := "QuorumGate", name := "sent", desc := "(I)I" } : Jvm.MethodName) ({ cls := "QuorumGate", name := "sent", desc := "(I)I" } : Jvm.MethodName)) ∈ lw_g := gwc_5 93 rfl rfl
theorem wd1179 : (Jvm.Cond.code ({ cls := "QuorumGate", name := "sent", desc := "(I)I" } : Jvm.MethodName) prog_1_method_35_code (2 : Nat) (Option.some Jvm.ClassFile.FieldType.int)) ∈ lw_g := gwc_5 94 rfl rfl
theorem wd1180 : (Jvm.Cond.methodLink "QuorumGate" (283 : Nat) ({ cls := "QuorumGate$Post", name := "sentInAll", desc := "()I" } : Jvm.MethodName)) ∈ lw_g := gwc_5 95 rfl rfl
theorem wd1181 : (Jvm.Cond.instanceMethod ({ cls := "QuorumGate$Post", name := "sentInAll", desc := "()I" } : Jvm.MethodName)) ∈ lw_g := gwc_5 96 rfl rfl
theorem wd1182 : (Jvm.Cond.selects "QuorumGate$Post" ({ cls := "QuorumGate$Post", name := "sentInAll", desc := "()I" } : Jvm.MethodName) ({ cls := "QuorumGate$Post", name := "sentInAll", desc := "()I" } : Jvm.MethodName)) ∈ lw_g := gwc_5 97 rfl rfl
theorem wd1183 : (Jvm.Cond.code ({ cls := "QuorumGate$Post", name := "sentInAll", desc := "()I" } : Jvm.MethodName) prog_7_method_10_code (3 : Nat) (Option.some Jvm.ClassFile.FieldType.int)) ∈ lw_g := gwc_5 98 rfl rfl
theorem wd1184 : (Jvm.Cond.methodLink "QuorumGateLaw" (155 : Nat) ({ cls := "QuorumGate", name := "book", desc := "(II)I" } : Jvm.MethodName)) ∈ lw_g := gwc_5 99 rfl rfl
theorem wd1185 : (Jvm.Cond.instanceMethod ({ cls := "QuorumGate", name := "book", desc := "(II)I" } : Jvm.MethodName)) ∈ lw_g := gwc_5 100 rfl rfl
theorem wd1186 : (Jvm.Cond.selects "QuorumGate" ({ cls := "QuorumGate", name := "book", desc := "(II)I" } : Jvm.MethodName) ({ cls := "QuorumGate", name := "book", desc := "(II)I" } : Jvm.MethodName)) ∈ lw_g := gwc_5 101 rfl rfl
theorem wd1187 : (Jvm.Cond.code ({ cls := "QuorumGate", name := "book", desc := "(II)I" } : Jvm.MethodName) prog_1_method_36_code (3 : Nat) (Option.some Jvm.ClassFile.FieldType.int)) ∈ lw_g := gwc_5 102 rfl rfl
theorem wd1188 : (Jvm.Cond.methodLink "QuorumGate" (293 : Nat) ({ cls := "QuorumGate$Log", name := "tell", desc := "(II)I" } : Jvm.MethodName)) ∈ lw_g := gwc_5 103 rfl rfl
theorem wd1189 : (Jvm.Cond.instanceMethod ({ cls := "QuorumGate$Log", name := "tell", desc := "(II)I" } : Jvm.MethodName)) ∈ lw_g := gwc_5 104 rfl rfl
theorem wd1190 : (Jvm.Cond.selects "QuorumGate$Log" ({ cls := "QuorumGate$Log", name := "tell", desc := "(II)I" } : Jvm.MethodName) ({ cls := "QuorumGate$Log", name := "tell", desc := "(II)I" } : Jvm.MethodName)) ∈ lw_g := gwc_5 105 rfl rfl
theorem wd1191 : (Jvm.Cond.code ({ cls := "QuorumGate$Log", name := "tell", desc := "(II)I" } : Jvm.MethodName) prog_5_method_4_code (4 : Nat) (Option.some Jvm.ClassFile.FieldType.int)) ∈ lw_g := gwc_5 106 rfl rfl
theorem wd1192 : (Jvm.Cond.methodLink "QuorumGateLaw" (159 : Nat) ({ cls := "QuorumGate", name := "waitsFor", desc := "(I)I" } : Jvm.MethodName)) ∈ lw_g := gwc_5 107 rfl rfl
theorem wd1193 : (Jvm.Cond.instanceMethod ({ cls := "QuorumGate", name := "waitsFor", desc := "(I)I" } : Jvm.MethodName)) ∈ lw_g := gwc_5 108 rfl rfl
theorem wd1194 : (Jvm.Cond.selects "QuorumGate" ({ cls := "QuorumGate", name := "waitsFor", desc := "(I)I" } : Jvm.MethodName) ({ cls := "QuorumGate", name := "waitsFor", desc := "(I)I" } : Jvm.MethodName)) ∈ lw_g := gwc_5 109 rfl rfl
theorem wd1195 : (Jvm.Cond.code ({ cls := "QuorumGate", name := "waitsFor", desc := "(I)I" } : Jvm.MethodName) prog_1_method_37_code (2 : Nat) (Option.some Jvm.ClassFile.FieldType.int)) ∈ lw_g := gwc_5 110 rfl rfl
theorem wd1196 : (Jvm.Cond.methodLink "QuorumGate" (298 : Nat) ({ cls := "QuorumGate$Hall", name := "awaitedBy", desc := "(I)I" } : Jvm.MethodName)) ∈ lw_g := gwc_5 111 rfl rfl
theorem wd1197 : (Jvm.Cond.methodLink "QuorumGateLaw" (163 : Nat) ({ cls := "QuorumGate", name := "unheard", desc := "(I)I" } : Jvm.MethodName)) ∈ lw_g := gwc_5 112 rfl rfl
theorem wd1198 : (Jvm.Cond.instanceMethod ({ cls := "QuorumGate", name := "unheard", desc := "(I)I" } : Jvm.MethodName)) ∈ lw_g := gwc_5 113 rfl rfl
theorem wd1199 : (Jvm.Cond.selects "QuorumGate" ({ cls := "QuorumGate", name := "unheard", desc := "(I)I" } : Jvm.MethodName) ({ cls := "QuorumGate", name := "unheard", desc := "(I)I" } : Jvm.MethodName)) ∈ lw_g := gwc_5 114 rfl rfl
theorem wd1200 : (Jvm.Cond.code ({ cls := "QuorumGate", name := "unheard", desc := "(I)I" } : Jvm.MethodName) prog_1_method_38_code (3 : Nat) (Option.some Jvm.ClassFile.FieldType.int)) ∈ lw_g := gwc_5 115 rfl rfl
theorem wd1201 : (Jvm.Cond.methodLink "QuorumGateLaw" (167 : Nat) ({ cls := "QuorumGate", name := "crowded", desc := "(I)I" } : Jvm.MethodName)) ∈ lw_g := gwc_5 116 rfl rfl
theorem wd1202 : (Jvm.Cond.instanceMethod ({ cls := "QuorumGate", name := "crowded", desc := "(I)I" } : Jvm.MethodName)) ∈ lw_g := gwc_5 117 rfl rfl
theorem wd1203 : (Jvm.Cond.selects "QuorumGate" ({ cls := "QuorumGate", name := "crowded", desc := "(I)I" } : Jvm.MethodName) ({ cls := "QuorumGate", name := "crowded", desc := "(I)I" } : Jvm.MethodName)) ∈ lw_g := gwc_5 118 rfl rfl
theorem wd1204 : (Jvm.Cond.code ({ cls := "QuorumGate", name := "crowded", desc := "(I)I" } : Jvm.MethodName) prog_1_method_39_code (6 : Nat) (Option.some Jvm.ClassFile.FieldType.int)) ∈ lw_g := gwc_5 119 rfl rfl
theorem wd1205 : (Jvm.Cond.methodLink "QuorumGateLaw" (171 : Nat) ({ cls := "QuorumGate", name := "trace", desc := "(II)I" } : Jvm.MethodName)) ∈ lw_g := gwc_5 120 rfl rfl
theorem wd1206 : (Jvm.Cond.instanceMethod ({ cls := "QuorumGate", name := "trace", desc := "(II)I" } : Jvm.MethodName)) ∈ lw_g := gwc_5 121 rfl rfl
theorem wd1207 : (Jvm.Cond.selects "QuorumGate" ({ cls := "QuorumGate", name := "trace", desc := "(II)I" } : Jvm.MethodName) ({ cls := "QuorumGate", name := "trace", desc := "(II)I" } : Jvm.MethodName)) ∈ lw_g := gwc_5 122 rfl rfl
theorem wd1208 : (Jvm.Cond.code ({ cls := "QuorumGate", name := "trace", desc := "(II)I" } : Jvm.MethodName) prog_1_method_40_code (3 : Nat) (Option.some Jvm.ClassFile.FieldType.int)) ∈ lw_g := gwc_5 123 rfl rfl
theorem wd1209 : (Jvm.Cond.methodLink "QuorumGateLaw" (175 : Nat) ({ cls := "QuorumGate", name := "goOn", desc := "(II)I" } : Jvm.MethodName)) ∈ lw_g := gwc_5 124 rfl rfl
theorem wd1210 : (Jvm.Cond.instanceMethod ({ cls := "QuorumGate", name := "goOn", desc := "(II)I" } : Jvm.MethodName)) ∈ lw_g := gwc_5 125 rfl rfl
theorem wd1211 : (Jvm.Cond.selects "QuorumGate" ({ cls := "QuorumGate", name := "goOn", desc := "(II)I" } : Jvm.MethodName) ({ cls := "QuorumGate", name := "goOn", desc := "(II)I" } : Jvm.MethodName)) ∈ lw_g := gwc_5 126 rfl rfl
theorem wd1212 : (Jvm.Cond.code ({ cls := "QuorumGate", name := "goOn", desc := "(II)I" } : Jvm.MethodName) prog_1_method_41_code (4 : Nat) (Option.some Jvm.ClassFile.FieldType.int)) ∈ lw_g := gwc_5 127 rfl rfl
theorem wd1213 : (Jvm.Cond.methodLink "QuorumGate" (308 : Nat) ({ cls := "QuorumGate$Hall", name := "moveByDraw", desc := "()Z" } : Jvm.MethodName)) ∈ lw_g := gwc_5 128 rfl rfl
theorem wd1214 : (Jvm.Cond.instanceMethod ({ cls := "QuorumGate$Hall", name := "moveByDraw", desc := "()Z" } : Jvm.MethodName)) ∈ lw_g := gwc_5 129 rfl rfl
theorem wd1215 : (Jvm.Cond.selects "QuorumGate$Hall" ({ cls := "QuorumGate$Hall", name := "moveByDraw", desc := "()Z" } : Jvm.MethodName) ({ cls := "QuorumGate$Hall", name := "moveByDraw", desc := "()Z" } : Jvm.MethodName)) ∈ lw_g := gwc_5 130 rfl rfl
theorem wd1216 : (Jvm.Cond.code ({ cls := "QuorumGate$Hall", name := "moveByDraw", desc := "()Z" } : Jvm.MethodName) prog_4_method_33_code (2 : Nat) (Option.some Jvm.ClassFile.FieldType.boolean)) ∈ lw_g := gwc_5 131 rfl rfl
theorem wd1217 : (Jvm.Cond.methodLink "QuorumGate$Hall" (299 : Nat) ({ cls := "QuorumGate$Hall", name := "countMoves", desc := "()I" } : Jvm.MethodName)) ∈ lw_g := gwc_5 132 rfl rfl
theorem wd1218 : (Jvm.Cond.constantLong "QuorumGate$Hall" (306 : Nat) (1103515245 : Int64)) ∈ lw_g := gwc_5 133 rfl rfl
theorem wd1219 : (Jvm.Cond.constantLong "QuorumGate$Hall" (308 : Nat) (12345 : Int64)) ∈ lw_g := gwc_5 134 rfl rfl
theorem wd1220 : (Jvm.Cond.constantLong "QuorumGate$Hall" (310 : Nat) (2147483648 : Int64)) ∈ lw_g := gwc_5 135 rfl rfl
theorem wd1221 : (Jvm.Cond.constantLong "QuorumGate$Hall" (312 : Nat) (65536 : Int64)) ∈ lw_g := gwc_5 136 rfl rfl
theorem wd1222 : (Jvm.Cond.methodLink "QuorumGate$Hall" (314 : Nat) ({ cls := "QuorumGate$Hall", name := "makeMove", desc := "(I)V" } : Jvm.MethodName)) ∈ lw_g := gwc_5 137 rfl rfl
theorem wd1223 : (Jvm.Cond.instanceMethod ({ cls := "QuorumGate$Hall", name := "makeMove", desc := "(I)V" } : Jvm.MethodName)) ∈ lw_g := gwc_5 138 rfl rfl
theorem wd1224 : (Jvm.Cond.selects "QuorumGate$Hall" ({ cls := "QuorumGate$Hall", name := "makeMove", desc := "(I)V" } : Jvm.MethodName) ({ cls := "QuorumGate$Hall", name := "makeMove", desc := "(I)V" } : Jvm.MethodName)) ∈ lw_g := gwc_5 139 rfl rfl
theorem wd1225 : (Jvm.Cond.code ({ cls := "QuorumGate$Hall", name := "makeMove", desc := "(I)V" } : Jvm.MethodName) prog_4_method_32_code (5 : Nat) (Option.none : Option Jvm.ClassFile.FieldType)) ∈ lw_g := gwc_5 140 rfl rfl
theorem wd1227 : (Jvm.Cond.static ({ cls := "QuorumGate", name := "memberAt", desc := "(II)I" } : Jvm.MethodName)) ∈ lw_g := gwc_5 142 rfl rfl
theorem wd1228 : (Jvm.Cond.code ({ cls := "QuorumGate", name := "memberAt", desc := "(II)I" } : Jvm.MethodName) prog_1_method_59_code (4 : Nat) (Option.some Jvm.ClassFile.FieldType.int)) ∈ lw_g := gwc_5 143 rfl rfl
theorem wd1229 : (Jvm.Cond.methodLink "QuorumGate$Hall" (293 : Nat) ({ cls := "QuorumGate$Hall", name := "bringFirst", desc := "(II)I" } : Jvm.MethodName)) ∈ lw_g := gwc_5 144 rfl rfl
theorem wd1230 : (Jvm.Cond.methodLink "QuorumGate$Hall" (296 : Nat) ({ cls := "QuorumGate$Hall", name := "finish", desc := "(I)V" } : Jvm.MethodName)) ∈ lw_g := gwc_5 145 rfl rfl
theorem wd1231 : (Jvm.Cond.methodLink "QuorumGateLaw" (179 : Nat) ({ cls := "QuorumGate", name := "entersBy", desc := "(II)I" } : Jvm.MethodName)) ∈ lw_g := gwc_5 146 rfl rfl
theorem wd1232 : (Jvm.Cond.instanceMethod ({ cls := "QuorumGate", name := "entersBy", desc := "(II)I" } : Jvm.MethodName)) ∈ lw_g := gwc_5 147 rfl rfl
theorem wd1233 : (Jvm.Cond.selects "QuorumGate" ({ cls := "QuorumGate", name := "entersBy", desc := "(II)I" } : Jvm.MethodName) ({ cls := "QuorumGate", name := "entersBy", desc := "(II)I" } : Jvm.MethodName)) ∈ lw_g := gwc_5 148 rfl rfl
theorem wd1234 : (Jvm.Cond.code ({ cls := "QuorumGate", name := "entersBy", desc := "(II)I" } : Jvm.MethodName) prog_1_method_42_code (4 : Nat) (Option.some Jvm.ClassFile.FieldType.int)) ∈ lw_g := gwc_5 149 rfl rfl
theorem wd1235 : (Jvm.Cond.methodLink "QuorumGate" (311 : Nat) ({ cls := "QuorumGate$Hall", name := "copyFrom", desc := "(LQuorumGate$Hall;)V" } : Jvm.MethodName)) ∈ lw_g := gwc_5 150 rfl rfl
theorem wd1236 : (Jvm.Cond.instanceMethod ({ cls := "QuorumGate$Hall", name := "copyFrom", desc := "(LQuorumGate$Hall;)V" } : Jvm.MethodName)) ∈ lw_g := gwc_5 151 rfl rfl
theorem wd1237 : (Jvm.Cond.selects "QuorumGate$Hall" ({ cls := "QuorumGate$Hall", name := "copyFrom", desc := "(LQuorumGate$Hall;)V" } : Jvm.MethodName) ({ cls := "QuorumGate$Hall", name := "copyFrom", desc := "(LQuorumGate$Hall;)V" } : Jvm.MethodName)) ∈ lw_g := gwc_5 152 rfl rfl
theorem wd1238 : (Jvm.Cond.code ({ cls := "QuorumGate$Hall", name := "copyFrom", desc := "(LQuorumGate$Hall;)V" } : Jvm.MethodName) prog_4_method_4_code (3 : Nat) (Option.none : Option Jvm.ClassFile.FieldType)) ∈ lw_g := gwc_5 153 rfl rfl
theorem wd1239 : (Jvm.Cond.methodLink "QuorumGate$Hall" (101 : Nat) ({ cls := "QuorumGate$Post", name := "copyFrom", desc := "(LQuorumGate$Post;)V" } : Jvm.MethodName)) ∈ lw_g := gwc_5 154 rfl rfl
theorem wd1240 : (Jvm.Cond.instanceMethod ({ cls := "QuorumGate$Post", name := "copyFrom", desc := "(LQuorumGate$Post;)V" } : Jvm.MethodName)) ∈ lw_g := gwc_5 155 rfl rfl
theorem wd1241 : (Jvm.Cond.selects "QuorumGate$Post" ({ cls := "QuorumGate$Post", name := "copyFrom", desc := "(LQuorumGate$Post;)V" } : Jvm.MethodName) ({ cls := "QuorumGate$Post", name := "copyFrom", desc := "(LQuorumGate$Post;)V" } : Jvm.MethodName)) ∈ lw_g := gwc_5 156 rfl rfl
theorem wd1242 : (Jvm.Cond.code ({ cls := "QuorumGate$Post", name := "copyFrom", desc := "(LQuorumGate$Post;)V" } : Jvm.MethodName) prog_7_method_13_code (2 : Nat) (Option.none : Option Jvm.ClassFile.FieldType)) ∈ lw_g := gwc_5 157 rfl rfl
theorem wd1243 : (Jvm.Cond.methodLink "QuorumGate$Post" (74 : Nat) ({ cls := "java/lang/System", name := "arraycopy", desc := "(Ljava/lang/Object;ILjava/lang/Object;II)V" } : Jvm.MethodName)) ∈ lw_g := gwc_5 158 rfl rfl
theorem wd1244 : (Jvm.Cond.methodLink "QuorumGate$Hall" (105 : Nat) ({ cls := "QuorumGate$Place", name := "copyFrom", desc := "(LQuorumGate$Place;)V" } : Jvm.MethodName)) ∈ lw_g := gwc_5 159 rfl rfl
theorem wd1245 : (Jvm.Cond.instanceMethod ({ cls := "QuorumGate$Place", name := "copyFrom", desc := "(LQuorumGate$Place;)V" } : Jvm.MethodName)) ∈ lw_g := gwc_5 160 rfl rfl
theorem wd1246 : (Jvm.Cond.selects "QuorumGate$Place" ({ cls := "QuorumGate$Place", name := "copyFrom", desc := "(LQuorumGate$Place;)V" } : Jvm.MethodName) ({ cls := "QuorumGate$Place", name := "copyFrom", desc := "(LQuorumGate$Place;)V" } : Jvm.MethodName)) ∈ lw_g := gwc_5 161 rfl rfl
theorem wd1247 : (Jvm.Cond.code ({ cls := "QuorumGate$Place", name := "copyFrom", desc := "(LQuorumGate$Place;)V" } : Jvm.MethodName) prog_6_method_6_code (2 : Nat) (Option.none : Option Jvm.ClassFile.FieldType)) ∈ lw_g := gwc_5 162 rfl rfl
theorem wd1248 : (Jvm.Cond.methodLink "QuorumGate$Place" (71 : Nat) ({ cls := "java/lang/System", name := "arraycopy", desc := "(Ljava/lang/Object;ILjava/lang/Object;II)V" } : Jvm.MethodName)) ∈ lw_g := gwc_5 163 rfl rfl
theorem wd1249 : (Jvm.Cond.methodLink "QuorumGateLaw" (183 : Nat) ({ cls := "QuorumGate", name := "searched", desc := "(II)I" } : Jvm.MethodName)) ∈ lw_g := gwc_5 164 rfl rfl
theorem wd1250 : (Jvm.Cond.instanceMethod ({ cls := "QuorumGate", name := "searched", desc := "(II)I" } : Jvm.MethodName)) ∈ lw_g := gwc_5 165 rfl rfl
theorem wd1251 : (Jvm.Cond.selects "QuorumGate" ({ cls := "QuorumGate", name := "searched", desc := "(II)I" } : Jvm.MethodName) ({ cls := "QuorumGate", name := "searched", desc := "(II)I" } : Jvm.MethodName)) ∈ lw_g := gwc_5 166 rfl rfl
theorem wd1252 : (Jvm.Cond.code ({ cls := "QuorumGate", name := "searched", desc := "(II)I" } : Jvm.MethodName) prog_1_method_43_code (3 : Nat) (Option.some Jvm.ClassFile.FieldType.int)) ∈ lw_g := gwc_5 167 rfl rfl
theorem wd1253 : (Jvm.Cond.methodLink "QuorumGate" (314 : Nat) ({ cls := "QuorumGate$Search", name := "run", desc := "(LQuorumGate$Hall;II)V" } : Jvm.MethodName)) ∈ lw_g := gwc_5 168 rfl rfl
theorem wd1254 : (Jvm.Cond.instanceMethod ({ cls := "QuorumGate$Search", name := "run", desc := "(LQuorumGate$Hall;II)V" } : Jvm.MethodName)) ∈ lw_g := gwc_5 169 rfl rfl
theorem wd1255 : (Jvm.Cond.selects "QuorumGate$Search" ({ cls := "QuorumGate$Search", name := "run", desc := "(LQuorumGate$Hall;II)V" } : Jvm.MethodName) ({ cls := "QuorumGate$Search", name := "run", desc := "(LQuorumGate$Hall;II)V" } : Jvm.MethodName)) ∈ lw_g := gwc_5 170 rfl rfl
theorem wd1256 : (Jvm.Cond.code ({ cls := "QuorumGate$Search", name := "run", desc := "(LQuorumGate$Hall;II)V" } : Jvm.MethodName) prog_8_method_2_code (9 : Nat) (Option.none : Option Jvm.ClassFile.FieldType)) ∈ lw_g := gwc_5 171 rfl rfl
theorem wd1257 : (Jvm.Cond.methodLink "QuorumGate$Search" (31 : Nat) ({ cls := "QuorumGate$Search", name := "begin", desc := "(LQuorumGate$Hall;II)V" } : Jvm.MethodName)) ∈ lw_g := gwc_5 172 rfl rfl
theorem wd1259 : (Jvm.Cond.instanceMethod ({ cls := "QuorumGate$Search", name := "begin", desc := "(LQuorumGate$Hall;II)V" } : Jvm.MethodName)) ∈ lw_g := gwc_5 174 rfl rfl
theorem wd1260 : (Jvm.Cond.code ({ cls := "QuorumGate$Search", name := "begin", desc := "(LQuorumGate$Hall;II)V" } : Jvm.MethodName) prog_8_method_3_code (5 : Nat) (Option.none : Option Jvm.ClassFile.FieldType)) ∈ lw_g := gwc_5 175 rfl rfl
theorem wd1261 : (Jvm.Cond.methodLink "QuorumGate$Search" (75 : Nat) ({ cls := "QuorumGate$Hall", name := "copyFrom", desc := "(LQuorumGate$Hall;)V" } : Jvm.MethodName)) ∈ lw_g := gwc_5 176 rfl rfl
theorem wd1262 : (Jvm.Cond.methodLink "QuorumGate$Search" (91 : Nat) ({ cls := "java/lang/Math", name := "min", desc := "(II)I" } : Jvm.MethodName)) ∈ lw_g := gwc_5 177 rfl rfl
theorem wd1263 : (Jvm.Cond.methodLink "QuorumGate$Search" (35 : Nat) ({ cls := "QuorumGate$Search", name := "meet", desc := "(I)V" } : Jvm.MethodName)) ∈ lw_g := gwc_5 178 rfl rfl
theorem wd1265 : (Jvm.Cond.instanceMethod ({ cls := "QuorumGate$Search", name := "meet", desc := "(I)V" } : Jvm.MethodName)) ∈ lw_g := gwc_5 180 rfl rfl
theorem wd1266 : (Jvm.Cond.code ({ cls := "QuorumGate$Search", name := "meet", desc := "(I)V" } : Jvm.MethodName) prog_8_method_5_code (3 : Nat) (Option.none : Option Jvm.ClassFile.FieldType)) ∈ lw_g := gwc_5 181 rfl rfl
theorem wd1267 : (Jvm.Cond.methodLink "QuorumGate$Search" (128 : Nat) ({ cls := "QuorumGate$Search", name := "save", desc := "()V" } : Jvm.MethodName)) ∈ lw_g := gwc_5 182 rfl rfl
theorem wd1269 : (Jvm.Cond.instanceMethod ({ cls := "QuorumGate$Search", name := "save", desc := "()V" } : Jvm.MethodName)) ∈ lw_g := gwc_5 184 rfl rfl
theorem wd1270 : (Jvm.Cond.code ({ cls := "QuorumGate$Search", name := "save", desc := "()V" } : Jvm.MethodName) prog_8_method_10_code (3 : Nat) (Option.none : Option Jvm.ClassFile.FieldType)) ∈ lw_g := gwc_5 185 rfl rfl
theorem wd1271 : (Jvm.Cond.methodLink "QuorumGate$Search" (159 : Nat) ({ cls := "QuorumGate$Search", name := "push", desc := "(I)V" } : Jvm.MethodName)) ∈ lw_g := gwc_5 186 rfl rfl
theorem wd1273 : (Jvm.Cond.instanceMethod ({ cls := "QuorumGate$Search", name := "push", desc := "(I)V" } : Jvm.MethodName)) ∈ lw_g := gwc_5 188 rfl rfl
theorem wd1274 : (Jvm.Cond.code ({ cls := "QuorumGate$Search", name := "push", desc := "(I)V" } : Jvm.MethodName) prog_8_method_13_code (2 : Nat) (Option.none : Option Jvm.ClassFile.FieldType)) ∈ lw_g := gwc_5 189 rfl rfl
theorem wd1275 : (Jvm.Cond.methodLink "QuorumGate$Search" (215 : Nat) ({ cls := "java/util/Arrays", name := "copyOf", desc := "([II)[I" } : Jvm.MethodName)) ∈ lw_g := gwc_5 190 rfl rfl
theorem wd1276 : (Jvm.Cond.methodLink "QuorumGate$Search" (162 : Nat) ({ cls := "QuorumGate$Search", name := "savePlace", desc := "(LQuorumGate$Place;)V" } : Jvm.MethodName)) ∈ lw_g := gwc_5 191 rfl rfl
theorem wd1278 : (Jvm.Cond.instanceMethod ({ cls := "QuorumGate$Search", name := "savePlace", desc := "(LQuorumGate$Place;)V" } : Jvm.MethodName)) ∈ lw_g := gwc_5 193 rfl rfl
theorem wd1279 : (Jvm.Cond.code ({ cls := "QuorumGate$Search", name := "savePlace", desc := "(LQuorumGate$Place;)V" } : Jvm.MethodName) prog_8_method_11_code (3 : Nat) (Option.none : Option Jvm.ClassFile.FieldType)) ∈ lw_g := gwc_5 194 rfl rfl
theorem wd1281 : (Jvm.Cond.methodLink "QuorumGate$Search" (169 : Nat) ({ cls := "QuorumGate$Search", name := "saveLane", desc := "(LQuorumGate$Post;I)V" } : Jvm.MethodName)) ∈ lw_g := gwc_5 196 rfl rfl
theorem wd1283 : (Jvm.Cond.instanceMethod ({ cls := "QuorumGate$Search", name := "saveLane", desc := "(LQuorumGate$Post;I)V" } : Jvm.MethodName)) ∈ lw_g := gwc_5 198 rfl rfl
theorem wd1284 : (Jvm.Cond.code ({ cls := "QuorumGate$Search", name := "saveLane", desc := "(LQuorumGate$Post;I)V" } : Jvm.MethodName) prog_8_method_12_code (5 : Nat) (Option.none : Option Jvm.ClassFile.FieldType)) ∈ lw_g := gwc_5 199 rfl rfl
theorem wd1285 : (Jvm.Cond.methodLink "QuorumGate$Search" (131 : Nat) ({ cls := "QuorumGate$Search", name := "isKnown", desc := "()Z" } : Jvm.MethodName)) ∈ lw_g := gwc_5 200 rfl rfl
theorem wd1287 : (Jvm.Cond.instanceMethod ({ cls := "QuorumGate$Search", name := "isKnown", desc := "()Z" } : Jvm.MethodName)) ∈ lw_g := gwc_5 202 rfl rfl
theorem wd1288 : (Jvm.Cond.code ({ cls := "QuorumGate$Search", name := "isKnown", desc := "()Z" } : Jvm.MethodName) prog_8_method_6_code (2 : Nat) (Option.some Jvm.ClassFile.FieldType.boolean)) ∈ lw_g := gwc_5 203 rfl rfl
theorem wd1289 : (Jvm.Cond.methodLink "QuorumGate$Search" (156 : Nat) ({ cls := "QuorumGate$Search", name := "isLike", desc := "(I)Z" } : Jvm.MethodName)) ∈ lw_g := gwc_5 204 rfl rfl
theorem wd1291 : (Jvm.Cond.instanceMethod ({ cls := "QuorumGate$Search", name := "isLike", desc := "(I)Z" } : Jvm.MethodName)) ∈ lw_g := gwc_5 206 rfl rfl
theorem wd1292 : (Jvm.Cond.code ({ cls := "QuorumGate$Search", name := "isLike", desc := "(I)Z" } : Jvm.MethodName) prog_8_method_7_code (4 : Nat) (Option.some Jvm.ClassFile.FieldType.boolean)) ∈ lw_g := gwc_5 207 rfl rfl
theorem wd1293 : (Jvm.Cond.methodLink "QuorumGate$Search" (138 : Nat) ({ cls := "java/lang/Math", name := "max", desc := "(II)I" } : Jvm.MethodName)) ∈ lw_g := gwc_5 208 rfl rfl
theorem wd1294 : (Jvm.Cond.methodLink "QuorumGate$Search" (59 : Nat) ({ cls := "java/lang/Integer", name := "bitCount", desc := "(I)I" } : Jvm.MethodName)) ∈ lw_g := gwc_5 209 rfl rfl
theorem wd1295 : (Jvm.Cond.methodLink "QuorumGate$Search" (50 : Nat) ({ cls := "QuorumGate$Hall", name := "countMoves", desc := "()I" } : Jvm.MethodName)) ∈ lw_g := gwc_5 210 rfl rfl
theorem wd1296 : (Jvm.Cond.methodLink "QuorumGate$Search" (56 : Nat) ({ cls := "QuorumGate$Search", name := "asksNow", desc := "()I" } : Jvm.MethodName)) ∈ lw_g := gwc_5 211 rfl rfl
theorem wd1298 : (Jvm.Cond.instanceMethod ({ cls := "QuorumGate$Search", name := "asksNow", desc := "()I" } : Jvm.MethodName)) ∈ lw_g := gwc_5 213 rfl rfl
theorem wd1299 : (Jvm.Cond.code ({ cls := "QuorumGate$Search", name := "asksNow", desc := "()I" } : Jvm.MethodName) prog_8_method_4_code (4 : Nat) (Option.some Jvm.ClassFile.FieldType.int)) ∈ lw_g := gwc_5 214 rfl rfl
theorem wd1300 : (Jvm.Cond.methodLink "QuorumGate$Search" (124 : Nat) ({ cls := "QuorumGate$Hall", name := "mayAsk", desc := "(I)Z" } : Jvm.MethodName)) ∈ lw_g := gwc_5 215 rfl rfl
theorem wd1301 : (Jvm.Cond.methodLink "QuorumGate$Search" (47 : Nat) ({ cls := "QuorumGate$Search", name := "recall", desc := "(I)V" } : Jvm.MethodName)) ∈ lw_g := gwc_5 216 rfl rfl
theorem wd1303 : (Jvm.Cond.instanceMethod ({ cls := "QuorumGate$Search", name := "recall", desc := "(I)V" } : Jvm.MethodName)) ∈ lw_g := gwc_5 218 rfl rfl
theorem wd1304 : (Jvm.Cond.code ({ cls := "QuorumGate$Search", name := "recall", desc := "(I)V" } : Jvm.MethodName) prog_8_method_14_code (5 : Nat) (Option.none : Option Jvm.ClassFile.FieldType)) ∈ lw_g := gwc_5 219 rfl rfl
theorem wd1305 : (Jvm.Cond.methodLink "QuorumGate$Search" (224 : Nat) ({ cls := "QuorumGate$Search", name := "pull", desc := "()I" } : Jvm.MethodName)) ∈ lw_g := gwc_5 220 rfl rfl
theorem wd1307 : (Jvm.Cond.instanceMethod ({ cls := "QuorumGate$Search", name := "pull", desc := "()I" } : Jvm.MethodName)) ∈ lw_g := gwc_5 222 rfl rfl
theorem wd1308 : (Jvm.Cond.code ({ cls := "QuorumGate$Search", name := "pull", desc := "()I" } : Jvm.MethodName) prog_8_method_17_code (2 : Nat) (Option.some Jvm.ClassFile.FieldType.int)) ∈ lw_g := gwc_5 223 rfl rfl
theorem wd1309 : (Jvm.Cond.methodLink "QuorumGate$Search" (227 : Nat) ({ cls := "QuorumGate$Search", name := "recallPlace", desc := "(LQuorumGate$Place;)V" } : Jvm.MethodName)) ∈ lw_g := gwc_5 224 rfl rfl
theorem wd1311 : (Jvm.Cond.instanceMethod ({ cls := "QuorumGate$Search", name := "recallPlace", desc := "(LQuorumGate$Place;)V" } : Jvm.MethodName)) ∈ lw_g := gwc_5 226 rfl rfl
theorem wd1312 : (Jvm.Cond.code ({ cls := "QuorumGate$Search", name := "recallPlace", desc := "(LQuorumGate$Place;)V" } : Jvm.MethodName) prog_8_method_15_code (3 : Nat) (Option.none : Option Jvm.ClassFile.FieldType)) ∈ lw_g := gwc_5 227 rfl rfl
theorem wd1313 : (Jvm.Cond.methodLink "QuorumGate$Search" (230 : Nat) ({ cls := "QuorumGate$Post", name := "clearLanes", desc := "()V" } : Jvm.MethodName)) ∈ lw_g := gwc_5 228 rfl rfl
theorem wd1314 : (Jvm.Cond.methodLink "QuorumGate$Search" (233 : Nat) ({ cls := "QuorumGate$Search", name := "recallLane", desc := "(II)V" } : Jvm.MethodName)) ∈ lw_g := gwc_5 229 rfl rfl
theorem wd1316 : (Jvm.Cond.instanceMethod ({ cls := "QuorumGate$Search", name := "recallLane", desc := "(II)V" } : Jvm.MethodName)) ∈ lw_g := gwc_5 231 rfl rfl
theorem wd1317 : (Jvm.Cond.code ({ cls := "QuorumGate$Search", name := "recallLane", desc := "(II)V" } : Jvm.MethodName) prog_8_method_16_code (5 : Nat) (Option.none : Option Jvm.ClassFile.FieldType)) ∈ lw_g := gwc_5 232 rfl rfl
theorem wd1318 : (Jvm.Cond.methodLink "QuorumGate$Search" (237 : Nat) ({ cls := "QuorumGate$Post", name := "kindOf", desc := "(I)I" } : Jvm.MethodName)) ∈ lw_g := gwc_5 233 rfl rfl
theorem wd1319 : (Jvm.Cond.methodLink "QuorumGate$Search" (240 : Nat) ({ cls := "QuorumGate$Post", name := "stampOf", desc := "(I)I" } : Jvm.MethodName)) ∈ lw_g := gwc_5 234 rfl rfl
theorem wd1320 : (Jvm.Cond.methodLink "QuorumGate$Search" (243 : Nat) ({ cls := "QuorumGate$Post", name := "put", desc := "(IIII)V" } : Jvm.MethodName)) ∈ lw_g := gwc_5 235 rfl rfl
theorem wd1321 : (Jvm.Cond.methodLink "QuorumGate$Search" (65 : Nat) ({ cls := "QuorumGate$Hall", name := "makeMove", desc := "(I)V" } : Jvm.MethodName)) ∈ lw_g := gwc_5 236 rfl rfl
theorem wd1323 : (Jvm.Cond.methodLink "QuorumGate$Search" (72 : Nat) ({ cls := "QuorumGate$Hall", name := "startAsking", desc := "(I)V" } : Jvm.MethodName)) ∈ lw_g := gwc_5 238 rfl rfl
theorem wd1324 : (Jvm.Cond.methodLink "QuorumGate" (318 : Nat) ({ cls := "QuorumGate$Search", name := "tell", desc := "(I)I" } : Jvm.MethodName)) ∈ lw_g := gwc_5 239 rfl rfl
theorem wd1325 : (Jvm.Cond.instanceMethod ({ cls := "QuorumGate$Search", name := "tell", desc := "(I)I" } : Jvm.MethodName)) ∈ lw_g := gwc_6 0 rfl rfl
theorem wd1326 : (Jvm.Cond.selects "QuorumGate$Search" ({ cls := "QuorumGate$Search", name := "tell", desc := "(I)I" } : Jvm.MethodName) ({ cls := "QuorumGate$Search", name := "tell", desc := "(I)I" } : Jvm.MethodName)) ∈ lw_g := gwc_6 1 rfl rfl
theorem wd1327 : (Jvm.Cond.code ({ cls := "QuorumGate$Search", name := "tell", desc := "(I)I" } : Jvm.MethodName) prog_8_method_8_code (2 : Nat) (Option.some Jvm.ClassFile.FieldType.int)) ∈ lw_g := gwc_6 2 rfl rfl
theorem wd1328 : (Jvm.Cond.methodLink "QuorumGateLaw" (187 : Nat) ({ cls := "QuorumGate", name := "searchedBy", desc := "(III)I" } : Jvm.MethodName)) ∈ lw_g := gwc_6 3 rfl rfl
theorem wd1329 : (Jvm.Cond.instanceMethod ({ cls := "QuorumGate", name := "searchedBy", desc := "(III)I" } : Jvm.MethodName)) ∈ lw_g := gwc_6 4 rfl rfl
theorem wd1330 : (Jvm.Cond.selects "QuorumGate" ({ cls := "QuorumGate", name := "searchedBy", desc := "(III)I" } : Jvm.MethodName) ({ cls := "QuorumGate", name := "searchedBy", desc := "(III)I" } : Jvm.MethodName)) ∈ lw_g := gwc_6 5 rfl rfl
theorem wd1331 : (Jvm.Cond.code ({ cls := "QuorumGate", name := "searchedBy", desc := "(III)I" } : Jvm.MethodName) prog_1_method_44_code (4 : Nat) (Option.some Jvm.ClassFile.FieldType.int)) ∈ lw_g := gwc_6 6 rfl rfl
theorem wd1332 : (Jvm.Cond.methodLink "QuorumGateLaw" (191 : Nat) ({ cls := "QuorumGate", name := "delay", desc := "(III)Z" } : Jvm.MethodName)) ∈ lw_g := gwc_6 7 rfl rfl
theorem wd1333 : (Jvm.Cond.instanceMethod ({ cls := "QuorumGate", name := "delay", desc := "(III)Z" } : Jvm.MethodName)) ∈ lw_g := gwc_6 8 rfl rfl
theorem wd1334 : (Jvm.Cond.selects "QuorumGate" ({ cls := "QuorumGate", name := "delay", desc := "(III)Z" } : Jvm.MethodName) ({ cls := "QuorumGate", name := "delay", desc := "(III)Z" } : Jvm.MethodName)) ∈ lw_g := gwc_6 9 rfl rfl
theorem wd1335 : (Jvm.Cond.code ({ cls := "QuorumGate", name := "delay", desc := "(III)Z" } : Jvm.MethodName) prog_1_method_45_code (4 : Nat) (Option.some Jvm.ClassFile.FieldType.boolean)) ∈ lw_g := gwc_6 10 rfl rfl
theorem wd1336 : (Jvm.Cond.methodLink "QuorumGateLaw" (196 : Nat) ({ cls := "QuorumGate", name := "timed", desc := "(III)I" } : Jvm.MethodName)) ∈ lw_g := gwc_6 11 rfl rfl
theorem wd1337 : (Jvm.Cond.instanceMethod ({ cls := "QuorumGate", name := "timed", desc := "(III)I" } : Jvm.MethodName)) ∈ lw_g := gwc_6 12 rfl rfl
theorem wd1338 : (Jvm.Cond.selects "QuorumGate" ({ cls := "QuorumGate", name := "timed", desc := "(III)I" } : Jvm.MethodName) ({ cls := "QuorumGate", name := "timed", desc := "(III)I" } : Jvm.MethodName)) ∈ lw_g := gwc_6 13 rfl rfl
theorem wd1339 : (Jvm.Cond.code ({ cls := "QuorumGate", name := "timed", desc := "(III)I" } : Jvm.MethodName) prog_1_method_46_code (4 : Nat) (Option.some Jvm.ClassFile.FieldType.int)) ∈ lw_g := gwc_6 14 rfl rfl
theorem wd1340 : (Jvm.Cond.methodLink "QuorumGate" (323 : Nat) ({ cls := "QuorumGate$Clockwork", name := "run", desc := "(LQuorumGate$Hall;I)V" } : Jvm.MethodName)) ∈ lw_g := gwc_6 15 rfl rfl
theorem wd1341 : (Jvm.Cond.instanceMethod ({ cls := "QuorumGate$Clockwork", name := "run", desc := "(LQuorumGate$Hall;I)V" } : Jvm.MethodName)) ∈ lw_g := gwc_6 16 rfl rfl
theorem wd1342 : (Jvm.Cond.selects "QuorumGate$Clockwork" ({ cls := "QuorumGate$Clockwork", name := "run", desc := "(LQuorumGate$Hall;I)V" } : Jvm.MethodName) ({ cls := "QuorumGate$Clockwork", name := "run", desc := "(LQuorumGate$Hall;I)V" } : Jvm.MethodName)) ∈ lw_g := gwc_6 17 rfl rfl
theorem wd1343 : (Jvm.Cond.code ({ cls := "QuorumGate$Clockwork", name := "run", desc := "(LQuorumGate$Hall;I)V" } : Jvm.MethodName) prog_2_method_3_code (6 : Nat) (Option.none : Option Jvm.ClassFile.FieldType)) ∈ lw_g := gwc_6 18 rfl rfl
theorem wd1344 : (Jvm.Cond.methodLink "QuorumGate$Clockwork" (45 : Nat) ({ cls := "QuorumGate$Clockwork", name := "leaveWhoCameBy", desc := "(LQuorumGate$Hall;I)V" } : Jvm.MethodName)) ∈ lw_g := gwc_6 19 rfl rfl
theorem wd1346 : (Jvm.Cond.instanceMethod ({ cls := "QuorumGate$Clockwork", name := "leaveWhoCameBy", desc := "(LQuorumGate$Hall;I)V" } : Jvm.MethodName)) ∈ lw_g := gwc_6 21 rfl rfl
theorem wd1347 : (Jvm.Cond.code ({ cls := "QuorumGate$Clockwork", name := "leaveWhoCameBy", desc := "(LQuorumGate$Hall;I)V" } : Jvm.MethodName) prog_2_method_4_code (4 : Nat) (Option.none : Option Jvm.ClassFile.FieldType)) ∈ lw_g := gwc_6 22 rfl rfl
theorem wd1349 : (Jvm.Cond.methodLink "QuorumGate$Clockwork" (87 : Nat) ({ cls := "QuorumGate$Hall", name := "finish", desc := "(I)V" } : Jvm.MethodName)) ∈ lw_g := gwc_6 24 rfl rfl
theorem wd1350 : (Jvm.Cond.methodLink "QuorumGate$Clockwork" (49 : Nat) ({ cls := "java/lang/Math", name := "min", desc := "(II)I" } : Jvm.MethodName)) ∈ lw_g := gwc_6 25 rfl rfl
theorem wd1351 : (Jvm.Cond.methodLink "QuorumGate$Clockwork" (55 : Nat) ({ cls := "QuorumGate$Clockwork", name := "bringDue", desc := "(LQuorumGate$Hall;II)V" } : Jvm.MethodName)) ∈ lw_g := gwc_6 26 rfl rfl
theorem wd1353 : (Jvm.Cond.instanceMethod ({ cls := "QuorumGate$Clockwork", name := "bringDue", desc := "(LQuorumGate$Hall;II)V" } : Jvm.MethodName)) ∈ lw_g := gwc_6 28 rfl rfl
theorem wd1354 : (Jvm.Cond.code ({ cls := "QuorumGate$Clockwork", name := "bringDue", desc := "(LQuorumGate$Hall;II)V" } : Jvm.MethodName) prog_2_method_5_code (8 : Nat) (Option.none : Option Jvm.ClassFile.FieldType)) ∈ lw_g := gwc_6 29 rfl rfl
theorem wd1355 : (Jvm.Cond.methodLink "QuorumGate$Clockwork" (94 : Nat) ({ cls := "QuorumGate$Post", name := "countOn", desc := "(II)I" } : Jvm.MethodName)) ∈ lw_g := gwc_6 30 rfl rfl
theorem wd1356 : (Jvm.Cond.methodLink "QuorumGate$Clockwork" (97 : Nat) ({ cls := "QuorumGate$Post", name := "hasGoneBy", desc := "(III)Z" } : Jvm.MethodName)) ∈ lw_g := gwc_6 31 rfl rfl
theorem wd1357 : (Jvm.Cond.instanceMethod ({ cls := "QuorumGate$Post", name := "hasGoneBy", desc := "(III)Z" } : Jvm.MethodName)) ∈ lw_g := gwc_6 32 rfl rfl
theorem wd1358 : (Jvm.Cond.selects "QuorumGate$Post" ({ cls := "QuorumGate$Post", name := "hasGoneBy", desc := "(III)Z" } : Jvm.MethodName) ({ cls := "QuorumGate$Post", name := "hasGoneBy", desc := "(III)Z" } : Jvm.MethodName)) ∈ lw_g := gwc_6 33 rfl rfl
theorem wd1359 : (Jvm.Cond.code ({ cls := "QuorumGate$Post", name := "hasGoneBy", desc := "(III)Z" } : Jvm.MethodName) prog_7_method_9_code (5 : Nat) (Option.some Jvm.ClassFile.FieldType.boolean)) ∈ lw_g := gwc_6 34 rfl rfl
theorem wd1360 : (Jvm.Cond.methodLink "QuorumGate$Clockwork" (101 : Nat) ({ cls := "QuorumGate$Hall", name := "bringFirst", desc := "(II)I" } : Jvm.MethodName)) ∈ lw_g := gwc_6 35 rfl rfl
theorem wd1361 : (Jvm.Cond.methodLink "QuorumGate" (332 : Nat) ({ cls := "QuorumGate", name := "firstInside", desc := "(I)I" } : Jvm.MethodName)) ∈ lw_g := gwc_6 36 rfl rfl
theorem wd1363 : (Jvm.Cond.instanceMethod ({ cls := "QuorumGate", name := "firstInside", desc := "(I)I" } : Jvm.MethodName)) ∈ lw_g := gwc_6 38 rfl rfl
theorem wd1364 : (Jvm.Cond.code ({ cls := "QuorumGate", name := "firstInside", desc := "(I)I" } : Jvm.MethodName) prog_1_method_53_code (3 : Nat) (Option.some Jvm.ClassFile.FieldType.int)) ∈ lw_g := gwc_6 39 rfl rfl
theorem wd1365 : (Jvm.Cond.methodLink "QuorumGateLaw" (200 : Nat) ({ cls := "QuorumGate", name := "soonest", desc := "(II)I" } : Jvm.MethodName)) ∈ lw_g := gwc_6 40 rfl rfl
theorem wd1366 : (Jvm.Cond.instanceMethod ({ cls := "QuorumGate", name := "soonest", desc := "(II)I" } : Jvm.MethodName)) ∈ lw_g := gwc_6 41 rfl rfl
theorem wd1367 : (Jvm.Cond.selects "QuorumGate" ({ cls := "QuorumGate", name := "soonest", desc := "(II)I" } : Jvm.MethodName) ({ cls := "QuorumGate", name := "soonest", desc := "(II)I" } : Jvm.MethodName)) ∈ lw_g := gwc_6 42 rfl rfl
theorem wd1368 : (Jvm.Cond.code ({ cls := "QuorumGate", name := "soonest", desc := "(II)I" } : Jvm.MethodName) prog_1_method_47_code (3 : Nat) (Option.some Jvm.ClassFile.FieldType.int)) ∈ lw_g := gwc_6 43 rfl rfl
theorem wd1369 : (Jvm.Cond.methodLink "QuorumGate" (338 : Nat) ({ cls := "QuorumGate$Search", name := "soonestInside", desc := "(I)I" } : Jvm.MethodName)) ∈ lw_g := gwc_6 44 rfl rfl
theorem wd1370 : (Jvm.Cond.instanceMethod ({ cls := "QuorumGate$Search", name := "soonestInside", desc := "(I)I" } : Jvm.MethodName)) ∈ lw_g := gwc_6 45 rfl rfl
theorem wd1371 : (Jvm.Cond.selects "QuorumGate$Search" ({ cls := "QuorumGate$Search", name := "soonestInside", desc := "(I)I" } : Jvm.MethodName) ({ cls := "QuorumGate$Search", name := "soonestInside", desc := "(I)I" } : Jvm.MethodName)) ∈ lw_g := gwc_6 46 rfl rfl
theorem wd1372 : (Jvm.Cond.code ({ cls := "QuorumGate$Search", name := "soonestInside", desc := "(I)I" } : Jvm.MethodName) prog_8_method_9_code (3 : Nat) (Option.some Jvm.ClassFile.FieldType.int)) ∈ lw_g := gwc_6 47 rfl rfl
theorem wd1373 : (Jvm.Cond.methodLink "QuorumGateLaw" (204 : Nat) ({ cls := "QuorumGate", name := "crowd", desc := "(III)I" } : Jvm.MethodName)) ∈ lw_g := gwc_6 48 rfl rfl
theorem wd1374 : (Jvm.Cond.instanceMethod ({ cls := "QuorumGate", name := "crowd", desc := "(III)I" } : Jvm.MethodName)) ∈ lw_g := gwc_6 49 rfl rfl
theorem wd1375 : (Jvm.Cond.selects "QuorumGate" ({ cls := "QuorumGate", name := "crowd", desc := "(III)I" } : Jvm.MethodName) ({ cls := "QuorumGate", name := "crowd", desc := "(III)I" } : Jvm.MethodName)) ∈ lw_g := gwc_6 50 rfl rfl
theorem wd1376 : (Jvm.Cond.code ({ cls := "QuorumGate", name := "crowd", desc := "(III)I" } : Jvm.MethodName) prog_1_method_48_code (6 : Nat) (Option.some Jvm.ClassFile.FieldType.int)) ∈ lw_g := gwc_6 51 rfl rfl
theorem wd1377 : (Jvm.Cond.methodLink "QuorumGate" (341 : Nat) ({ cls := "QuorumGate$Hall", name := "letAllAsk", desc := "()V" } : Jvm.MethodName)) ∈ lw_g := gwc_6 52 rfl rfl
theorem wd1378 : (Jvm.Cond.instanceMethod ({ cls := "QuorumGate$Hall", name := "letAllAsk", desc := "()V" } : Jvm.MethodName)) ∈ lw_g := gwc_6 53 rfl rfl
theorem wd1379 : (Jvm.Cond.selects "QuorumGate$Hall" ({ cls := "QuorumGate$Hall", name := "letAllAsk", desc := "()V" } : Jvm.MethodName) ({ cls := "QuorumGate$Hall", name := "letAllAsk", desc := "()V" } : Jvm.MethodName)) ∈ lw_g := gwc_6 54 rfl rfl
theorem wd1380 : (Jvm.Cond.code ({ cls := "QuorumGate$Hall", name := "letAllAsk", desc := "()V" } : Jvm.MethodName) prog_4_method_9_code (2 : Nat) (Option.none : Option Jvm.ClassFile.FieldType)) ∈ lw_g := gwc_6 55 rfl rfl
theorem wd1381 : (Jvm.Cond.methodLink "QuorumGate" (344 : Nat) ({ cls := "QuorumGate", name := "fewestNewEntries", desc := "()I" } : Jvm.MethodName)) ∈ lw_g := gwc_6 56 rfl rfl
theorem wd1383 : (Jvm.Cond.instanceMethod ({ cls := "QuorumGate", name := "fewestNewEntries", desc := "()I" } : Jvm.MethodName)) ∈ lw_g := gwc_6 58 rfl rfl
theorem wd1384 : (Jvm.Cond.code ({ cls := "QuorumGate", name := "fewestNewEntries", desc := "()I" } : Jvm.MethodName) prog_1_method_55_code (3 : Nat) (Option.some Jvm.ClassFile.FieldType.int)) ∈ lw_g := gwc_6 59 rfl rfl
theorem wd1385 : (Jvm.Cond.methodLink "QuorumGate" (374 : Nat) ({ cls := "QuorumGate", name := "newEntries", desc := "(I)I" } : Jvm.MethodName)) ∈ lw_g := gwc_6 60 rfl rfl
theorem wd1387 : (Jvm.Cond.instanceMethod ({ cls := "QuorumGate", name := "newEntries", desc := "(I)I" } : Jvm.MethodName)) ∈ lw_g := gwc_6 62 rfl rfl
theorem wd1388 : (Jvm.Cond.code ({ cls := "QuorumGate", name := "newEntries", desc := "(I)I" } : Jvm.MethodName) prog_1_method_54_code (2 : Nat) (Option.some Jvm.ClassFile.FieldType.int)) ∈ lw_g := gwc_6 63 rfl rfl
theorem wd1389 : (Jvm.Cond.methodLink "QuorumGate" (347 : Nat) ({ cls := "QuorumGate", name := "mostNewEntries", desc := "()I" } : Jvm.MethodName)) ∈ lw_g := gwc_6 64 rfl rfl
theorem wd1391 : (Jvm.Cond.instanceMethod ({ cls := "QuorumGate", name := "mostNewEntries", desc := "()I" } : Jvm.MethodName)) ∈ lw_g := gwc_6 66 rfl rfl
theorem wd1392 : (Jvm.Cond.code ({ cls := "QuorumGate", name := "mostNewEntries", desc := "()I" } : Jvm.MethodName) prog_1_method_56_code (3 : Nat) (Option.some Jvm.ClassFile.FieldType.int)) ∈ lw_g := gwc_6 67 rfl rfl
theorem wd1393 : (Jvm.Cond.methodLink "QuorumGate" (377 : Nat) ({ cls := "java/lang/Math", name := "max", desc := "(II)I" } : Jvm.MethodName)) ∈ lw_g := gwc_6 68 rfl rfl
theorem wd1394 : (Jvm.Cond.methodLink "QuorumGateLaw" (208 : Nat) ({ cls := "QuorumGate", name := "mean", desc := "()I" } : Jvm.MethodName)) ∈ lw_g := gwc_6 69 rfl rfl
theorem wd1395 : (Jvm.Cond.instanceMethod ({ cls := "QuorumGate", name := "mean", desc := "()I" } : Jvm.MethodName)) ∈ lw_g := gwc_6 70 rfl rfl
theorem wd1396 : (Jvm.Cond.selects "QuorumGate" ({ cls := "QuorumGate", name := "mean", desc := "()I" } : Jvm.MethodName) ({ cls := "QuorumGate", name := "mean", desc := "()I" } : Jvm.MethodName)) ∈ lw_g := gwc_6 71 rfl rfl
theorem wd1397 : (Jvm.Cond.code ({ cls := "QuorumGate", name := "mean", desc := "()I" } : Jvm.MethodName) prog_1_method_49_code (1 : Nat) (Option.some Jvm.ClassFile.FieldType.int)) ∈ lw_g := gwc_6 72 rfl rfl
theorem wd1402 : (Jvm.Cond.methodLink "QuorumGateLaw" (212 : Nat) ({ cls := "QuorumGate", name := "byRoot", desc := "()J" } : Jvm.MethodName)) ∈ lw_g := gwc_6 77 rfl rfl
theorem wd1403 : (Jvm.Cond.instanceMethod ({ cls := "QuorumGate", name := "byRoot", desc := "()J" } : Jvm.MethodName)) ∈ lw_g := gwc_6 78 rfl rfl
theorem wd1404 : (Jvm.Cond.selects "QuorumGate" ({ cls := "QuorumGate", name := "byRoot", desc := "()J" } : Jvm.MethodName) ({ cls := "QuorumGate", name := "byRoot", desc := "()J" } : Jvm.MethodName)) ∈ lw_g := gwc_6 79 rfl rfl
theorem wd1405 : (Jvm.Cond.code ({ cls := "QuorumGate", name := "byRoot", desc := "()J" } : Jvm.MethodName) prog_1_method_50_code (3 : Nat) (Option.some Jvm.ClassFile.FieldType.long)) ∈ lw_g := gwc_6 80 rfl rfl
theorem wd1414 : (Jvm.Cond.classLink "QuorumGateLaw" (10 : Nat) "QuorumGateModel") ∈ lw_g := gwc_6 89 rfl rfl
theorem wd1415 : (Jvm.Cond.instantiable "QuorumGateModel" (25 : Nat)) ∈ lw_g := gwc_6 90 rfl rfl
theorem wd1416 : (Jvm.Cond.methodLink "QuorumGateLaw" (12 : Nat) ({ cls := "QuorumGateModel", name := "<init>", desc := "()V" } : Jvm.MethodName)) ∈ lw_g := gwc_6 91 rfl rfl
theorem wd1417 : (Jvm.Cond.instanceMethod ({ cls := "QuorumGateModel", name := "<init>", desc := "()V" } : Jvm.MethodName)) ∈ lw_g := gwc_6 92 rfl rfl
theorem wd1418 : (Jvm.Cond.code ({ cls := "QuorumGateModel", name := "<init>", desc := "()V" } : Jvm.MethodName) prog_12_method_1_code (1 : Nat) (Option.none : Option Jvm.ClassFile.FieldType)) ∈ lw_g := gwc_6 93 rfl rfl
theorem wd1419 : (Jvm.Cond.methodLink "QuorumGateModel" (1 : Nat) ({ cls := "java/lang/Object", name := "<init>", desc := "()V" } : Jvm.MethodName)) ∈ lw_g := gwc_6 94 rfl rfl
theorem wd1420 : (Jvm.Cond.constant "QuorumGateModel" (31 : Nat) (393320 : Int32)) ∈ lw_g := gwc_6 95 rfl rfl
theorem wd1421 : (Jvm.Cond.methodLink "QuorumGateModel" (41 : Nat) ({ cls := "QuorumGateModel", name := "makeGrid", desc := "(I)I" } : Jvm.MethodName)) ∈ lw_g := gwc_6 96 rfl rfl
theorem wd1423 : (Jvm.Cond.instanceMethod ({ cls := "QuorumGateModel", name := "makeGrid", desc := "(I)I" } : Jvm.MethodName)) ∈ lw_g := gwc_6 98 rfl rfl
theorem wd1424 : (Jvm.Cond.code ({ cls := "QuorumGateModel", name := "makeGrid", desc := "(I)I" } : Jvm.MethodName) prog_12_method_15_code (2 : Nat) (Option.some Jvm.ClassFile.FieldType.int)) ∈ lw_g := gwc_6 99 rfl rfl
theorem wd1425 : (Jvm.Cond.methodLink "QuorumGateModel" (57 : Nat) ({ cls := "QuorumGateModel", name := "makeFilled", desc := "(I)I" } : Jvm.MethodName)) ∈ lw_g := gwc_6 100 rfl rfl
theorem wd1427 : (Jvm.Cond.instanceMethod ({ cls := "QuorumGateModel", name := "makeFilled", desc := "(I)I" } : Jvm.MethodName)) ∈ lw_g := gwc_6 102 rfl rfl
theorem wd1428 : (Jvm.Cond.code ({ cls := "QuorumGateModel", name := "makeFilled", desc := "(I)I" } : Jvm.MethodName) prog_12_method_16_code (4 : Nat) (Option.some Jvm.ClassFile.FieldType.int)) ∈ lw_g := gwc_6 103 rfl rfl
theorem wd1429 : (Jvm.Cond.methodLink "QuorumGateModel" (60 : Nat) ({ cls := "QuorumGateModel", name := "begin", desc := "(IZ)V" } : Jvm.MethodName)) ∈ lw_g := gwc_6 104 rfl rfl
theorem wd1431 : (Jvm.Cond.instanceMethod ({ cls := "QuorumGateModel", name := "begin", desc := "(IZ)V" } : Jvm.MethodName)) ∈ lw_g := gwc_6 106 rfl rfl
theorem wd1432 : (Jvm.Cond.code ({ cls := "QuorumGateModel", name := "begin", desc := "(IZ)V" } : Jvm.MethodName) prog_12_method_13_code (4 : Nat) (Option.none : Option Jvm.ClassFile.FieldType)) ∈ lw_g := gwc_6 107 rfl rfl
theorem wd1433 : (Jvm.Cond.methodLink "QuorumGateModel" (53 : Nat) ({ cls := "QuorumGateModel", name := "put", desc := "(III)V" } : Jvm.MethodName)) ∈ lw_g := gwc_6 108 rfl rfl
theorem wd1435 : (Jvm.Cond.instanceMethod ({ cls := "QuorumGateModel", name := "put", desc := "(III)V" } : Jvm.MethodName)) ∈ lw_g := gwc_6 110 rfl rfl
theorem wd1436 : (Jvm.Cond.code ({ cls := "QuorumGateModel", name := "put", desc := "(III)V" } : Jvm.MethodName) prog_12_method_11_code (4 : Nat) (Option.none : Option Jvm.ClassFile.FieldType)) ∈ lw_g := gwc_6 111 rfl rfl
theorem wd1437 : (Jvm.Cond.methodLink "QuorumGateModel" (64 : Nat) ({ cls := "QuorumGateModel", name := "crossOf", desc := "(III)I" } : Jvm.MethodName)) ∈ lw_g := gwc_6 112 rfl rfl
theorem wd1438 : (Jvm.Cond.static ({ cls := "QuorumGateModel", name := "crossOf", desc := "(III)I" } : Jvm.MethodName)) ∈ lw_g := gwc_6 113 rfl rfl
theorem wd1439 : (Jvm.Cond.code ({ cls := "QuorumGateModel", name := "crossOf", desc := "(III)I" } : Jvm.MethodName) prog_12_method_14_code (5 : Nat) (Option.some Jvm.ClassFile.FieldType.int)) ∈ lw_g := gwc_6 114 rfl rfl
theorem wd1440 : (Jvm.Cond.fieldLink "QuorumGateModel" (7 : Nat) "QuorumGateModel" "a" "[I") ∈ lw_g := gwc_6 115 rfl rfl
theorem wd1441 : (Jvm.Cond.fieldLink "QuorumGateModel" (13 : Nat) "QuorumGateModel" "whole" "[I") ∈ lw_g := gwc_6 116 rfl rfl
theorem wd1442 : (Jvm.Cond.fieldLink "QuorumGateModel" (16 : Nat) "QuorumGateModel" "wentAt" "[I") ∈ lw_g := gwc_6 117 rfl rfl
theorem wd1443 : (Jvm.Cond.fieldLink "QuorumGateModel" (143 : Nat) "QuorumGateModel" "time" "I") ∈ lw_g := gwc_6 118 rfl rfl
theorem wd1444 : (Jvm.Cond.fieldLink "QuorumGateModel" (19 : Nat) "QuorumGateModel" "move" "[I") ∈ lw_g := gwc_6 119 rfl rfl
theorem wd1445 : (Jvm.Cond.fieldLink "QuorumGateModel" (22 : Nat) "QuorumGateModel" "stampOfNow" "[I") ∈ lw_g := gwc_6 120 rfl rfl
theorem wd1446 : (Jvm.Cond.fieldLink "QuorumGateModel" (271 : Nat) "QuorumGateModel" "moves" "I") ∈ lw_g := gwc_6 121 rfl rfl
theorem wd1447 : (Jvm.Cond.fieldLink "QuorumGateModel" (274 : Nat) "QuorumGateModel" "askers" "I") ∈ lw_g := gwc_6 122 rfl rfl
theorem wd1448 : (Jvm.Cond.fieldLink "QuorumGateModel" (298 : Nat) "QuorumGateModel" "g" "J") ∈ lw_g := gwc_6 123 rfl rfl
theorem wd1449 : (Jvm.Cond.fieldLink "QuorumGateModel" (25 : Nat) "QuorumGateModel" "now" "[I") ∈ lw_g := gwc_6 124 rfl rfl
theorem wd1450 : (Jvm.Cond.fieldLink "QuorumGateModel" (28 : Nat) "QuorumGateModel" "timesOf" "[I") ∈ lw_g := gwc_6 125 rfl rfl
theorem wd1451 : (Jvm.Cond.fieldLink "QuorumGateModel" (32 : Nat) "QuorumGateModel" "states" "[I") ∈ lw_g := gwc_6 126 rfl rfl
theorem wd1452 : (Jvm.Cond.fieldLink "QuorumGateModel" (35 : Nat) "QuorumGateModel" "deep" "[I") ∈ lw_g := gwc_6 127 rfl rfl
theorem wd1453 : (Jvm.Cond.fieldLink "QuorumGateModel" (335 : Nat) "QuorumGateModel" "met" "I") ∈ lw_g := gwc_6 128 rfl rfl
theorem wd1454 : (Jvm.Cond.fieldLink "QuorumGateModel" (341 : Nat) "QuorumGateModel" "isLeft" "Z") ∈ lw_g := gwc_6 129 rfl rfl
theorem wd1455 : (Jvm.Cond.fieldLink "QuorumGateModel" (348 : Nat) "QuorumGateModel" "twos" "I") ∈ lw_g := gwc_6 130 rfl rfl
theorem wd1456 : (Jvm.Cond.fieldLink "QuorumGateModel" (351 : Nat) "QuorumGateModel" "stucks" "I") ∈ lw_g := gwc_6 131 rfl rfl
theorem wd1457 : (Jvm.Cond.fieldLink "QuorumGateModel" (354 : Nat) "QuorumGateModel" "mostLetters" "I") ∈ lw_g := gwc_6 132 rfl rfl
theorem wd1458 : (Jvm.Cond.fieldLink "QuorumGateModel" (357 : Nat) "QuorumGateModel" "soonestIn" "I") ∈ lw_g := gwc_6 133 rfl rfl
theorem wd1459 : (Jvm.Cond.fieldLink "QuorumGateModel" (38 : Nat) "QuorumGateModel" "insideAt" "[I") ∈ lw_g := gwc_6 134 rfl rfl
theorem wd1460 : (Jvm.Cond.fieldLink "QuorumGateModel" (387 : Nat) "QuorumGateModel" "over" "I") ∈ lw_g := gwc_6 135 rfl rfl
theorem wd1461 : (Jvm.Cond.fieldLink "QuorumGateModel" (393 : Nat) "QuorumGateModel" "came" "I") ∈ lw_g := gwc_6 136 rfl rfl
theorem wd1462 : (Jvm.Cond.fieldLink "QuorumGateModel" (378 : Nat) "QuorumGateModel" "cameLast" "I") ∈ lw_g := gwc_6 137 rfl rfl
theorem wd1463 : (Jvm.Cond.fieldLink "QuorumGateModel" (381 : Nat) "QuorumGateModel" "cameFirst" "I") ∈ lw_g := gwc_6 138 rfl rfl
theorem wd1464 : (Jvm.Cond.fieldLink "QuorumGateModel" (384 : Nat) "QuorumGateModel" "empty" "I") ∈ lw_g := gwc_6 139 rfl rfl
theorem wd1516 : (Jvm.Cond.methodLink "QuorumGateLaw" (17 : Nat) ({ cls := "QuorumGateModel", name := "grid", desc := "(I)I" } : Jvm.MethodName)) ∈ lw_g := gwc_6 191 rfl rfl
theorem wd1517 : (Jvm.Cond.instanceMethod ({ cls := "QuorumGateModel", name := "grid", desc := "(I)I" } : Jvm.MethodName)) ∈ lw_g := gwc_6 192 rfl rfl
theorem wd1518 : (Jvm.Cond.selects "QuorumGateModel" ({ cls := "QuorumGateModel", name := "grid", desc := "(I)I" } : Jvm.MethodName) ({ cls := "QuorumGateModel", name := "grid", desc := "(I)I" } : Jvm.MethodName)) ∈ lw_g := gwc_6 193 rfl rfl
theorem wd1519 : (Jvm.Cond.code ({ cls := "QuorumGateModel", name := "grid", desc := "(I)I" } : Jvm.MethodName) prog_12_method_17_code (2 : Nat) (Option.some Jvm.ClassFile.FieldType.int)) ∈ lw_g := gwc_6 194 rfl rfl
theorem wd1520 : (Jvm.Cond.methodLink "QuorumGateModel" (49 : Nat) ({ cls := "QuorumGateModel", name := "isIn", desc := "(III)Z" } : Jvm.MethodName)) ∈ lw_g := gwc_6 195 rfl rfl
theorem wd1521 : (Jvm.Cond.static ({ cls := "QuorumGateModel", name := "isIn", desc := "(III)Z" } : Jvm.MethodName)) ∈ lw_g := gwc_6 196 rfl rfl
theorem wd1522 : (Jvm.Cond.code ({ cls := "QuorumGateModel", name := "isIn", desc := "(III)Z" } : Jvm.MethodName) prog_12_method_2_code (3 : Nat) (Option.some Jvm.ClassFile.FieldType.boolean)) ∈ lw_g := gwc_6 197 rfl rfl
theorem wd1523 : (Jvm.Cond.methodLink "QuorumGateLaw" (25 : Nat) ({ cls := "QuorumGateModel", name := "filled", desc := "(I)I" } : Jvm.MethodName)) ∈ lw_g := gwc_6 198 rfl rfl
theorem wd1524 : (Jvm.Cond.instanceMethod ({ cls := "QuorumGateModel", name := "filled", desc := "(I)I" } : Jvm.MethodName)) ∈ lw_g := gwc_6 199 rfl rfl
theorem wd1525 : (Jvm.Cond.selects "QuorumGateModel" ({ cls := "QuorumGateModel", name := "filled", desc := "(I)I" } : Jvm.MethodName) ({ cls := "QuorumGateModel", name := "filled", desc := "(I)I" } : Jvm.MethodName)) ∈ lw_g := gwc_6 200 rfl rfl
theorem wd1526 : (Jvm.Cond.code ({ cls := "QuorumGateModel", name := "filled", desc := "(I)I" } : Jvm.MethodName) prog_12_method_18_code (2 : Nat) (Option.some Jvm.ClassFile.FieldType.int)) ∈ lw_g := gwc_6 201 rfl rfl
theorem wd1527 : (Jvm.Cond.methodLink "QuorumGateLaw" (21 : Nat) ({ cls := "QuorumGateModel", name := "plane", desc := "(I)I" } : Jvm.MethodName)) ∈ lw_g := gwc_6 202 rfl rfl
theorem wd1528 : (Jvm.Cond.instanceMethod ({ cls := "QuorumGateModel", name := "plane", desc := "(I)I" } : Jvm.MethodName)) ∈ lw_g := gwc_6 203 rfl rfl
theorem wd1529 : (Jvm.Cond.selects "QuorumGateModel" ({ cls := "QuorumGateModel", name := "plane", desc := "(I)I" } : Jvm.MethodName) ({ cls := "QuorumGateModel", name := "plane", desc := "(I)I" } : Jvm.MethodName)) ∈ lw_g := gwc_6 204 rfl rfl
theorem wd1530 : (Jvm.Cond.code ({ cls := "QuorumGateModel", name := "plane", desc := "(I)I" } : Jvm.MethodName) prog_12_method_19_code (4 : Nat) (Option.some Jvm.ClassFile.FieldType.int)) ∈ lw_g := gwc_6 205 rfl rfl
theorem wd1531 : (Jvm.Cond.methodLink "QuorumGateLaw" (29 : Nat) ({ cls := "QuorumGateModel", name := "majority", desc := "(I)I" } : Jvm.MethodName)) ∈ lw_g := gwc_6 206 rfl rfl
theorem wd1532 : (Jvm.Cond.instanceMethod ({ cls := "QuorumGateModel", name := "majority", desc := "(I)I" } : Jvm.MethodName)) ∈ lw_g := gwc_6 207 rfl rfl
theorem wd1533 : (Jvm.Cond.selects "QuorumGateModel" ({ cls := "QuorumGateModel", name := "majority", desc := "(I)I" } : Jvm.MethodName) ({ cls := "QuorumGateModel", name := "majority", desc := "(I)I" } : Jvm.MethodName)) ∈ lw_g := gwc_6 208 rfl rfl
theorem wd1534 : (Jvm.Cond.code ({ cls := "QuorumGateModel", name := "majority", desc := "(I)I" } : Jvm.MethodName) prog_12_method_20_code (3 : Nat) (Option.some Jvm.ClassFile.FieldType.int)) ∈ lw_g := gwc_6 209 rfl rfl
theorem wd1535 : (Jvm.Cond.methodLink "QuorumGateModel" (68 : Nat) ({ cls := "QuorumGateModel", name := "majorityOf", desc := "(II)I" } : Jvm.MethodName)) ∈ lw_g := gwc_6 210 rfl rfl
theorem wd1536 : (Jvm.Cond.static ({ cls := "QuorumGateModel", name := "majorityOf", desc := "(II)I" } : Jvm.MethodName)) ∈ lw_g := gwc_6 211 rfl rfl
theorem wd1537 : (Jvm.Cond.code ({ cls := "QuorumGateModel", name := "majorityOf", desc := "(II)I" } : Jvm.MethodName) prog_12_method_23_code (4 : Nat) (Option.some Jvm.ClassFile.FieldType.int)) ∈ lw_g := gwc_6 212 rfl rfl
theorem wd1538 : (Jvm.Cond.methodLink "QuorumGateLaw" (33 : Nat) ({ cls := "QuorumGateModel", name := "wheel", desc := "(I)I" } : Jvm.MethodName)) ∈ lw_g := gwc_6 213 rfl rfl
theorem wd1539 : (Jvm.Cond.instanceMethod ({ cls := "QuorumGateModel", name := "wheel", desc := "(I)I" } : Jvm.MethodName)) ∈ lw_g := gwc_6 214 rfl rfl
theorem wd1540 : (Jvm.Cond.selects "QuorumGateModel" ({ cls := "QuorumGateModel", name := "wheel", desc := "(I)I" } : Jvm.MethodName) ({ cls := "QuorumGateModel", name := "wheel", desc := "(I)I" } : Jvm.MethodName)) ∈ lw_g := gwc_6 215 rfl rfl
theorem wd1541 : (Jvm.Cond.code ({ cls := "QuorumGateModel", name := "wheel", desc := "(I)I" } : Jvm.MethodName) prog_12_method_21_code (3 : Nat) (Option.some Jvm.ClassFile.FieldType.int)) ∈ lw_g := gwc_6 216 rfl rfl
theorem wd1542 : (Jvm.Cond.methodLink "QuorumGateModel" (72 : Nat) ({ cls := "QuorumGateModel", name := "all", desc := "()I" } : Jvm.MethodName)) ∈ lw_g := gwc_6 217 rfl rfl
theorem wd1544 : (Jvm.Cond.instanceMethod ({ cls := "QuorumGateModel", name := "all", desc := "()I" } : Jvm.MethodName)) ∈ lw_g := gwc_6 219 rfl rfl
theorem wd1545 : (Jvm.Cond.code ({ cls := "QuorumGateModel", name := "all", desc := "()I" } : Jvm.MethodName) prog_12_method_6_code (1 : Nat) (Option.some Jvm.ClassFile.FieldType.int)) ∈ lw_g := gwc_6 220 rfl rfl
theorem wd1546 : (Jvm.Cond.methodLink "QuorumGateLaw" (37 : Nat) ({ cls := "QuorumGateModel", name := "tree", desc := "(I)I" } : Jvm.MethodName)) ∈ lw_g := gwc_6 221 rfl rfl
theorem wd1547 : (Jvm.Cond.instanceMethod ({ cls := "QuorumGateModel", name := "tree", desc := "(I)I" } : Jvm.MethodName)) ∈ lw_g := gwc_6 222 rfl rfl
theorem wd1548 : (Jvm.Cond.selects "QuorumGateModel" ({ cls := "QuorumGateModel", name := "tree", desc := "(I)I" } : Jvm.MethodName) ({ cls := "QuorumGateModel", name := "tree", desc := "(I)I" } : Jvm.MethodName)) ∈ lw_g := gwc_6 223 rfl rfl
theorem wd1549 : (Jvm.Cond.code ({ cls := "QuorumGateModel", name := "tree", desc := "(I)I" } : Jvm.MethodName) prog_12_method_22_code (5 : Nat) (Option.some Jvm.ClassFile.FieldType.int)) ∈ lw_g := gwc_6 224 rfl rfl
theorem wd1550 : (Jvm.Cond.methodLink "QuorumGateLaw" (42 : Nat) ({ cls := "QuorumGateModel", name := "within", desc := "(II)I" } : Jvm.MethodName)) ∈ lw_g := gwc_6 225 rfl rfl
theorem wd1551 : (Jvm.Cond.instanceMethod ({ cls := "QuorumGateModel", name := "within", desc := "(II)I" } : Jvm.MethodName)) ∈ lw_g := gwc_6 226 rfl rfl
theorem wd1552 : (Jvm.Cond.selects "QuorumGateModel" ({ cls := "QuorumGateModel", name := "within", desc := "(II)I" } : Jvm.MethodName) ({ cls := "QuorumGateModel", name := "within", desc := "(II)I" } : Jvm.MethodName)) ∈ lw_g := gwc_6 227 rfl rfl
theorem wd1553 : (Jvm.Cond.code ({ cls := "QuorumGateModel", name := "within", desc := "(II)I" } : Jvm.MethodName) prog_12_method_24_code (5 : Nat) (Option.some Jvm.ClassFile.FieldType.int)) ∈ lw_g := gwc_6 228 rfl rfl
theorem wd1554 : (Jvm.Cond.methodLink "QuorumGateModel" (76 : Nat) ({ cls := "QuorumGateModel", name := "isNode", desc := "(I)Z" } : Jvm.MethodName)) ∈ lw_g := gwc_6 229 rfl rfl
theorem wd1556 : (Jvm.Cond.instanceMethod ({ cls := "QuorumGateModel", name := "isNode", desc := "(I)Z" } : Jvm.MethodName)) ∈ lw_g := gwc_6 231 rfl rfl
theorem wd1557 : (Jvm.Cond.code ({ cls := "QuorumGateModel", name := "isNode", desc := "(I)Z" } : Jvm.MethodName) prog_12_method_12_code (2 : Nat) (Option.some Jvm.ClassFile.FieldType.boolean)) ∈ lw_g := gwc_6 232 rfl rfl
theorem wd1558 : (Jvm.Cond.methodLink "QuorumGateModel" (80 : Nat) ({ cls := "QuorumGateModel", name := "baseOf", desc := "(I)I" } : Jvm.MethodName)) ∈ lw_g := gwc_6 233 rfl rfl
theorem wd1560 : (Jvm.Cond.instanceMethod ({ cls := "QuorumGateModel", name := "baseOf", desc := "(I)I" } : Jvm.MethodName)) ∈ lw_g := gwc_6 235 rfl rfl
theorem wd1561 : (Jvm.Cond.code ({ cls := "QuorumGateModel", name := "baseOf", desc := "(I)I" } : Jvm.MethodName) prog_12_method_7_code (2 : Nat) (Option.some Jvm.ClassFile.FieldType.int)) ∈ lw_g := gwc_6 236 rfl rfl
theorem wd1562 : (Jvm.Cond.methodLink "QuorumGateModel" (83 : Nat) ({ cls := "QuorumGateModel", name := "placed", desc := "(IIII)I" } : Jvm.MethodName)) ∈ lw_g := gwc_6 237 rfl rfl
theorem wd1563 : (Jvm.Cond.static ({ cls := "QuorumGateModel", name := "placed", desc := "(IIII)I" } : Jvm.MethodName)) ∈ lw_g := gwc_6 238 rfl rfl
theorem wd1564 : (Jvm.Cond.code ({ cls := "QuorumGateModel", name := "placed", desc := "(IIII)I" } : Jvm.MethodName) prog_12_method_25_code (6 : Nat) (Option.some Jvm.ClassFile.FieldType.int)) ∈ lw_g := gwc_6 239 rfl rfl
theorem wd1565 : (Jvm.Cond.methodLink "QuorumGateModel" (45 : Nat) ({ cls := "QuorumGateModel", name := "has", desc := "(II)Z" } : Jvm.MethodName)) ∈ lw_g := gwc_7 0 rfl rfl
theorem wd1566 : (Jvm.Cond.static ({ cls := "QuorumGateModel", name := "has", desc := "(II)Z" } : Jvm.MethodName)) ∈ lw_g := gwc_7 1 rfl rfl
theorem wd1567 : (Jvm.Cond.code ({ cls := "QuorumGateModel", name := "has", desc := "(II)Z" } : Jvm.MethodName) prog_12_method_3_code (2 : Nat) (Option.some Jvm.ClassFile.FieldType.boolean)) ∈ lw_g := gwc_7 2 rfl rfl
theorem wd1568 : (Jvm.Cond.methodLink "QuorumGateLaw" (46 : Nat) ({ cls := "QuorumGateModel", name := "base", desc := "(II)I" } : Jvm.MethodName)) ∈ lw_g := gwc_7 3 rfl rfl
theorem wd1569 : (Jvm.Cond.instanceMethod ({ cls := "QuorumGateModel", name := "base", desc := "(II)I" } : Jvm.MethodName)) ∈ lw_g := gwc_7 4 rfl rfl
theorem wd1570 : (Jvm.Cond.selects "QuorumGateModel" ({ cls := "QuorumGateModel", name := "base", desc := "(II)I" } : Jvm.MethodName) ({ cls := "QuorumGateModel", name := "base", desc := "(II)I" } : Jvm.MethodName)) ∈ lw_g := gwc_7 5 rfl rfl
theorem wd1571 : (Jvm.Cond.code ({ cls := "QuorumGateModel", name := "base", desc := "(II)I" } : Jvm.MethodName) prog_12_method_26_code (3 : Nat) (Option.some Jvm.ClassFile.FieldType.int)) ∈ lw_g := gwc_7 6 rfl rfl
theorem wd1572 : (Jvm.Cond.methodLink "QuorumGateModel" (87 : Nat) ({ cls := "QuorumGateModel", name := "apart", desc := "()I" } : Jvm.MethodName)) ∈ lw_g := gwc_7 7 rfl rfl
theorem wd1573 : (Jvm.Cond.instanceMethod ({ cls := "QuorumGateModel", name := "apart", desc := "()I" } : Jvm.MethodName)) ∈ lw_g := gwc_7 8 rfl rfl
theorem wd1574 : (Jvm.Cond.selects "QuorumGateModel" ({ cls := "QuorumGateModel", name := "apart", desc := "()I" } : Jvm.MethodName) ({ cls := "QuorumGateModel", name := "apart", desc := "()I" } : Jvm.MethodName)) ∈ lw_g := gwc_7 9 rfl rfl
theorem wd1575 : (Jvm.Cond.code ({ cls := "QuorumGateModel", name := "apart", desc := "()I" } : Jvm.MethodName) prog_12_method_33_code (4 : Nat) (Option.some Jvm.ClassFile.FieldType.int)) ∈ lw_g := gwc_7 10 rfl rfl
theorem wd1576 : (Jvm.Cond.methodLink "QuorumGateLaw" (50 : Nat) ({ cls := "QuorumGateModel", name := "quorum", desc := "(II)I" } : Jvm.MethodName)) ∈ lw_g := gwc_7 11 rfl rfl
theorem wd1577 : (Jvm.Cond.instanceMethod ({ cls := "QuorumGateModel", name := "quorum", desc := "(II)I" } : Jvm.MethodName)) ∈ lw_g := gwc_7 12 rfl rfl
theorem wd1578 : (Jvm.Cond.selects "QuorumGateModel" ({ cls := "QuorumGateModel", name := "quorum", desc := "(II)I" } : Jvm.MethodName) ({ cls := "QuorumGateModel", name := "quorum", desc := "(II)I" } : Jvm.MethodName)) ∈ lw_g := gwc_7 13 rfl rfl
theorem wd1579 : (Jvm.Cond.code ({ cls := "QuorumGateModel", name := "quorum", desc := "(II)I" } : Jvm.MethodName) prog_12_method_31_code (3 : Nat) (Option.some Jvm.ClassFile.FieldType.int)) ∈ lw_g := gwc_7 14 rfl rfl
theorem wd1580 : (Jvm.Cond.methodLink "QuorumGateModel" (102 : Nat) ({ cls := "QuorumGateModel", name := "quorumNow", desc := "(I)I" } : Jvm.MethodName)) ∈ lw_g := gwc_7 15 rfl rfl
theorem wd1582 : (Jvm.Cond.instanceMethod ({ cls := "QuorumGateModel", name := "quorumNow", desc := "(I)I" } : Jvm.MethodName)) ∈ lw_g := gwc_7 17 rfl rfl
theorem wd1583 : (Jvm.Cond.code ({ cls := "QuorumGateModel", name := "quorumNow", desc := "(I)I" } : Jvm.MethodName) prog_12_method_30_code (2 : Nat) (Option.some Jvm.ClassFile.FieldType.int)) ∈ lw_g := gwc_7 18 rfl rfl
theorem wd1584 : (Jvm.Cond.methodLink "QuorumGateModel" (96 : Nat) ({ cls := "QuorumGateModel", name := "brokenOnes", desc := "()I" } : Jvm.MethodName)) ∈ lw_g := gwc_7 19 rfl rfl
theorem wd1586 : (Jvm.Cond.instanceMethod ({ cls := "QuorumGateModel", name := "brokenOnes", desc := "()I" } : Jvm.MethodName)) ∈ lw_g := gwc_7 21 rfl rfl
theorem wd1587 : (Jvm.Cond.code ({ cls := "QuorumGateModel", name := "brokenOnes", desc := "()I" } : Jvm.MethodName) prog_12_method_29_code (3 : Nat) (Option.some Jvm.ClassFile.FieldType.int)) ∈ lw_g := gwc_7 22 rfl rfl
theorem wd1588 : (Jvm.Cond.methodLink "QuorumGateModel" (93 : Nat) ({ cls := "QuorumGateModel", name := "get", desc := "(II)I" } : Jvm.MethodName)) ∈ lw_g := gwc_7 23 rfl rfl
theorem wd1590 : (Jvm.Cond.instanceMethod ({ cls := "QuorumGateModel", name := "get", desc := "(II)I" } : Jvm.MethodName)) ∈ lw_g := gwc_7 25 rfl rfl
theorem wd1591 : (Jvm.Cond.code ({ cls := "QuorumGateModel", name := "get", desc := "(II)I" } : Jvm.MethodName) prog_12_method_8_code (3 : Nat) (Option.some Jvm.ClassFile.FieldType.int)) ∈ lw_g := gwc_7 26 rfl rfl
theorem wd1592 : (Jvm.Cond.methodLink "QuorumGateModel" (99 : Nat) ({ cls := "QuorumGateModel", name := "quorumBy", desc := "(II)I" } : Jvm.MethodName)) ∈ lw_g := gwc_7 27 rfl rfl
theorem wd1594 : (Jvm.Cond.instanceMethod ({ cls := "QuorumGateModel", name := "quorumBy", desc := "(II)I" } : Jvm.MethodName)) ∈ lw_g := gwc_7 29 rfl rfl
theorem wd1595 : (Jvm.Cond.code ({ cls := "QuorumGateModel", name := "quorumBy", desc := "(II)I" } : Jvm.MethodName) prog_12_method_28_code (4 : Nat) (Option.some Jvm.ClassFile.FieldType.int)) ∈ lw_g := gwc_7 30 rfl rfl
theorem wd1596 : (Jvm.Cond.methodLink "QuorumGateModel" (90 : Nat) ({ cls := "QuorumGateModel", name := "wholeBy", desc := "(I)I" } : Jvm.MethodName)) ∈ lw_g := gwc_7 31 rfl rfl
theorem wd1598 : (Jvm.Cond.instanceMethod ({ cls := "QuorumGateModel", name := "wholeBy", desc := "(I)I" } : Jvm.MethodName)) ∈ lw_g := gwc_7 33 rfl rfl
theorem wd1599 : (Jvm.Cond.code ({ cls := "QuorumGateModel", name := "wholeBy", desc := "(I)I" } : Jvm.MethodName) prog_12_method_27_code (6 : Nat) (Option.some Jvm.ClassFile.FieldType.int)) ∈ lw_g := gwc_7 34 rfl rfl
theorem wd1600 : (Jvm.Cond.methodLink "QuorumGateLaw" (54 : Nat) ({ cls := "QuorumGateModel", name := "meeting", desc := "(II)I" } : Jvm.MethodName)) ∈ lw_g := gwc_7 35 rfl rfl
theorem wd1601 : (Jvm.Cond.instanceMethod ({ cls := "QuorumGateModel", name := "meeting", desc := "(II)I" } : Jvm.MethodName)) ∈ lw_g := gwc_7 36 rfl rfl
theorem wd1602 : (Jvm.Cond.selects "QuorumGateModel" ({ cls := "QuorumGateModel", name := "meeting", desc := "(II)I" } : Jvm.MethodName) ({ cls := "QuorumGateModel", name := "meeting", desc := "(II)I" } : Jvm.MethodName)) ∈ lw_g := gwc_7 37 rfl rfl
theorem wd1603 : (Jvm.Cond.code ({ cls := "QuorumGateModel", name := "meeting", desc := "(II)I" } : Jvm.MethodName) prog_12_method_32_code (4 : Nat) (Option.some Jvm.ClassFile.FieldType.int)) ∈ lw_g := gwc_7 38 rfl rfl
theorem wd1604 : (Jvm.Cond.methodLink "QuorumGateModel" (105 : Nat) ({ cls := "QuorumGateModel", name := "first", desc := "(I)I" } : Jvm.MethodName)) ∈ lw_g := gwc_7 39 rfl rfl
theorem wd1605 : (Jvm.Cond.static ({ cls := "QuorumGateModel", name := "first", desc := "(I)I" } : Jvm.MethodName)) ∈ lw_g := gwc_7 40 rfl rfl
theorem wd1606 : (Jvm.Cond.code ({ cls := "QuorumGateModel", name := "first", desc := "(I)I" } : Jvm.MethodName) prog_12_method_5_code (2 : Nat) (Option.some Jvm.ClassFile.FieldType.int)) ∈ lw_g := gwc_7 41 rfl rfl
theorem wd1607 : (Jvm.Cond.methodLink "QuorumGateLaw" (59 : Nat) ({ cls := "QuorumGateModel", name := "apart", desc := "()I" } : Jvm.MethodName)) ∈ lw_g := gwc_7 42 rfl rfl
theorem wd1608 : (Jvm.Cond.methodLink "QuorumGateLaw" (63 : Nat) ({ cls := "QuorumGateModel", name := "load", desc := "(I)I" } : Jvm.MethodName)) ∈ lw_g := gwc_7 43 rfl rfl
theorem wd1609 : (Jvm.Cond.instanceMethod ({ cls := "QuorumGateModel", name := "load", desc := "(I)I" } : Jvm.MethodName)) ∈ lw_g := gwc_7 44 rfl rfl
theorem wd1610 : (Jvm.Cond.selects "QuorumGateModel" ({ cls := "QuorumGateModel", name := "load", desc := "(I)I" } : Jvm.MethodName) ({ cls := "QuorumGateModel", name := "load", desc := "(I)I" } : Jvm.MethodName)) ∈ lw_g := gwc_7 45 rfl rfl
theorem wd1611 : (Jvm.Cond.code ({ cls := "QuorumGateModel", name := "load", desc := "(I)I" } : Jvm.MethodName) prog_12_method_34_code (4 : Nat) (Option.some Jvm.ClassFile.FieldType.int)) ∈ lw_g := gwc_7 46 rfl rfl
theorem wd1612 : (Jvm.Cond.methodLink "QuorumGateLaw" (68 : Nat) ({ cls := "QuorumGateModel", name := "stops", desc := "(I)Z" } : Jvm.MethodName)) ∈ lw_g := gwc_7 47 rfl rfl
theorem wd1613 : (Jvm.Cond.instanceMethod ({ cls := "QuorumGateModel", name := "stops", desc := "(I)Z" } : Jvm.MethodName)) ∈ lw_g := gwc_7 48 rfl rfl
theorem wd1614 : (Jvm.Cond.selects "QuorumGateModel" ({ cls := "QuorumGateModel", name := "stops", desc := "(I)Z" } : Jvm.MethodName) ({ cls := "QuorumGateModel", name := "stops", desc := "(I)Z" } : Jvm.MethodName)) ∈ lw_g := gwc_7 49 rfl rfl
theorem wd1615 : (Jvm.Cond.code ({ cls := "QuorumGateModel", name := "stops", desc := "(I)Z" } : Jvm.MethodName) prog_12_method_36_code (2 : Nat) (Option.some Jvm.ClassFile.FieldType.boolean)) ∈ lw_g := gwc_7 50 rfl rfl
theorem wd1616 : (Jvm.Cond.methodLink "QuorumGateModel" (108 : Nat) ({ cls := "QuorumGateModel", name := "stopsBy", desc := "(I)Z" } : Jvm.MethodName)) ∈ lw_g := gwc_7 51 rfl rfl
theorem wd1618 : (Jvm.Cond.instanceMethod ({ cls := "QuorumGateModel", name := "stopsBy", desc := "(I)Z" } : Jvm.MethodName)) ∈ lw_g := gwc_7 53 rfl rfl
theorem wd1619 : (Jvm.Cond.code ({ cls := "QuorumGateModel", name := "stopsBy", desc := "(I)Z" } : Jvm.MethodName) prog_12_method_35_code (3 : Nat) (Option.some Jvm.ClassFile.FieldType.boolean)) ∈ lw_g := gwc_7 54 rfl rfl
theorem wd1620 : (Jvm.Cond.methodLink "QuorumGateLaw" (72 : Nat) ({ cls := "QuorumGateModel", name := "weakest", desc := "(I)I" } : Jvm.MethodName)) ∈ lw_g := gwc_7 55 rfl rfl
theorem wd1621 : (Jvm.Cond.instanceMethod ({ cls := "QuorumGateModel", name := "weakest", desc := "(I)I" } : Jvm.MethodName)) ∈ lw_g := gwc_7 56 rfl rfl
theorem wd1622 : (Jvm.Cond.selects "QuorumGateModel" ({ cls := "QuorumGateModel", name := "weakest", desc := "(I)I" } : Jvm.MethodName) ({ cls := "QuorumGateModel", name := "weakest", desc := "(I)I" } : Jvm.MethodName)) ∈ lw_g := gwc_7 57 rfl rfl
theorem wd1623 : (Jvm.Cond.code ({ cls := "QuorumGateModel", name := "weakest", desc := "(I)I" } : Jvm.MethodName) prog_12_method_37_code (4 : Nat) (Option.some Jvm.ClassFile.FieldType.int)) ∈ lw_g := gwc_7 58 rfl rfl
theorem wd1624 : (Jvm.Cond.methodLink "QuorumGateModel" (111 : Nat) ({ cls := "QuorumGateModel", name := "many", desc := "(I)I" } : Jvm.MethodName)) ∈ lw_g := gwc_7 59 rfl rfl
theorem wd1625 : (Jvm.Cond.static ({ cls := "QuorumGateModel", name := "many", desc := "(I)I" } : Jvm.MethodName)) ∈ lw_g := gwc_7 60 rfl rfl
theorem wd1626 : (Jvm.Cond.code ({ cls := "QuorumGateModel", name := "many", desc := "(I)I" } : Jvm.MethodName) prog_12_method_4_code (3 : Nat) (Option.some Jvm.ClassFile.FieldType.int)) ∈ lw_g := gwc_7 61 rfl rfl
theorem wd1627 : (Jvm.Cond.methodLink "QuorumGateLaw" (76 : Nat) ({ cls := "QuorumGateModel", name := "needless", desc := "()I" } : Jvm.MethodName)) ∈ lw_g := gwc_7 62 rfl rfl
theorem wd1628 : (Jvm.Cond.instanceMethod ({ cls := "QuorumGateModel", name := "needless", desc := "()I" } : Jvm.MethodName)) ∈ lw_g := gwc_7 63 rfl rfl
theorem wd1629 : (Jvm.Cond.selects "QuorumGateModel" ({ cls := "QuorumGateModel", name := "needless", desc := "()I" } : Jvm.MethodName) ({ cls := "QuorumGateModel", name := "needless", desc := "()I" } : Jvm.MethodName)) ∈ lw_g := gwc_7 64 rfl rfl
theorem wd1630 : (Jvm.Cond.code ({ cls := "QuorumGateModel", name := "needless", desc := "()I" } : Jvm.MethodName) prog_12_method_39_code (3 : Nat) (Option.some Jvm.ClassFile.FieldType.int)) ∈ lw_g := gwc_7 65 rfl rfl
theorem wd1631 : (Jvm.Cond.methodLink "QuorumGateModel" (114 : Nat) ({ cls := "QuorumGateModel", name := "isNeedless", desc := "(I)Z" } : Jvm.MethodName)) ∈ lw_g := gwc_7 66 rfl rfl
theorem wd1633 : (Jvm.Cond.instanceMethod ({ cls := "QuorumGateModel", name := "isNeedless", desc := "(I)Z" } : Jvm.MethodName)) ∈ lw_g := gwc_7 68 rfl rfl
theorem wd1634 : (Jvm.Cond.code ({ cls := "QuorumGateModel", name := "isNeedless", desc := "(I)Z" } : Jvm.MethodName) prog_12_method_38_code (3 : Nat) (Option.some Jvm.ClassFile.FieldType.boolean)) ∈ lw_g := gwc_7 69 rfl rfl
theorem wd1635 : (Jvm.Cond.methodLink "QuorumGateLaw" (80 : Nat) ({ cls := "QuorumGateModel", name := "chance", desc := "(I)I" } : Jvm.MethodName)) ∈ lw_g := gwc_7 70 rfl rfl
theorem wd1636 : (Jvm.Cond.instanceMethod ({ cls := "QuorumGateModel", name := "chance", desc := "(I)I" } : Jvm.MethodName)) ∈ lw_g := gwc_7 71 rfl rfl
theorem wd1637 : (Jvm.Cond.selects "QuorumGateModel" ({ cls := "QuorumGateModel", name := "chance", desc := "(I)I" } : Jvm.MethodName) ({ cls := "QuorumGateModel", name := "chance", desc := "(I)I" } : Jvm.MethodName)) ∈ lw_g := gwc_7 72 rfl rfl
theorem wd1638 : (Jvm.Cond.code ({ cls := "QuorumGateModel", name := "chance", desc := "(I)I" } : Jvm.MethodName) prog_12_method_43_code (5 : Nat) (Option.some Jvm.ClassFile.FieldType.int)) ∈ lw_g := gwc_7 73 rfl rfl
theorem wd1639 : (Jvm.Cond.methodLink "QuorumGateModel" (123 : Nat) ({ cls := "QuorumGateModel", name := "oddsOf", desc := "(II)J" } : Jvm.MethodName)) ∈ lw_g := gwc_7 74 rfl rfl
theorem wd1641 : (Jvm.Cond.instanceMethod ({ cls := "QuorumGateModel", name := "oddsOf", desc := "(II)J" } : Jvm.MethodName)) ∈ lw_g := gwc_7 76 rfl rfl
theorem wd1642 : (Jvm.Cond.code ({ cls := "QuorumGateModel", name := "oddsOf", desc := "(II)J" } : Jvm.MethodName) prog_12_method_41_code (3 : Nat) (Option.some Jvm.ClassFile.FieldType.long)) ∈ lw_g := gwc_7 77 rfl rfl
theorem wd1643 : (Jvm.Cond.methodLink "QuorumGateModel" (117 : Nat) ({ cls := "QuorumGateModel", name := "power", desc := "(JI)J" } : Jvm.MethodName)) ∈ lw_g := gwc_7 78 rfl rfl
theorem wd1644 : (Jvm.Cond.static ({ cls := "QuorumGateModel", name := "power", desc := "(JI)J" } : Jvm.MethodName)) ∈ lw_g := gwc_7 79 rfl rfl
theorem wd1645 : (Jvm.Cond.code ({ cls := "QuorumGateModel", name := "power", desc := "(JI)J" } : Jvm.MethodName) prog_12_method_40_code (6 : Nat) (Option.some Jvm.ClassFile.FieldType.long)) ∈ lw_g := gwc_7 80 rfl rfl
theorem wd1646 : (Jvm.Cond.constantLong "QuorumGateModel" (121 : Nat) (10 : Int64)) ∈ lw_g := gwc_7 81 rfl rfl
theorem wd1647 : (Jvm.Cond.methodLink "QuorumGateModel" (127 : Nat) ({ cls := "QuorumGateModel", name := "millionths", desc := "(J)I" } : Jvm.MethodName)) ∈ lw_g := gwc_7 82 rfl rfl
theorem wd1649 : (Jvm.Cond.instanceMethod ({ cls := "QuorumGateModel", name := "millionths", desc := "(J)I" } : Jvm.MethodName)) ∈ lw_g := gwc_7 84 rfl rfl
theorem wd1650 : (Jvm.Cond.code ({ cls := "QuorumGateModel", name := "millionths", desc := "(J)I" } : Jvm.MethodName) prog_12_method_42_code (3 : Nat) (Option.some Jvm.ClassFile.FieldType.int)) ∈ lw_g := gwc_7 85 rfl rfl
theorem wd1651 : (Jvm.Cond.methodLink "QuorumGateLaw" (84 : Nat) ({ cls := "QuorumGateModel", name := "chanceOf", desc := "(II)I" } : Jvm.MethodName)) ∈ lw_g := gwc_7 86 rfl rfl
theorem wd1652 : (Jvm.Cond.instanceMethod ({ cls := "QuorumGateModel", name := "chanceOf", desc := "(II)I" } : Jvm.MethodName)) ∈ lw_g := gwc_7 87 rfl rfl
theorem wd1653 : (Jvm.Cond.selects "QuorumGateModel" ({ cls := "QuorumGateModel", name := "chanceOf", desc := "(II)I" } : Jvm.MethodName) ({ cls := "QuorumGateModel", name := "chanceOf", desc := "(II)I" } : Jvm.MethodName)) ∈ lw_g := gwc_7 88 rfl rfl
theorem wd1654 : (Jvm.Cond.code ({ cls := "QuorumGateModel", name := "chanceOf", desc := "(II)I" } : Jvm.MethodName) prog_12_method_44_code (6 : Nat) (Option.some Jvm.ClassFile.FieldType.int)) ∈ lw_g := gwc_7 89 rfl rfl
theorem wd1655 : (Jvm.Cond.methodLink "QuorumGateLaw" (88 : Nat) ({ cls := "QuorumGateModel", name := "sizes", desc := "(I)I" } : Jvm.MethodName)) ∈ lw_g := gwc_7 90 rfl rfl
theorem wd1656 : (Jvm.Cond.instanceMethod ({ cls := "QuorumGateModel", name := "sizes", desc := "(I)I" } : Jvm.MethodName)) ∈ lw_g := gwc_7 91 rfl rfl
theorem wd1657 : (Jvm.Cond.selects "QuorumGateModel" ({ cls := "QuorumGateModel", name := "sizes", desc := "(I)I" } : Jvm.MethodName) ({ cls := "QuorumGateModel", name := "sizes", desc := "(I)I" } : Jvm.MethodName)) ∈ lw_g := gwc_7 92 rfl rfl
theorem wd1658 : (Jvm.Cond.code ({ cls := "QuorumGateModel", name := "sizes", desc := "(I)I" } : Jvm.MethodName) prog_12_method_45_code (6 : Nat) (Option.some Jvm.ClassFile.FieldType.int)) ∈ lw_g := gwc_7 93 rfl rfl
theorem wd1659 : (Jvm.Cond.methodLink "QuorumGateLaw" (92 : Nat) ({ cls := "QuorumGateModel", name := "pivotal", desc := "(I)I" } : Jvm.MethodName)) ∈ lw_g := gwc_7 94 rfl rfl
theorem wd1660 : (Jvm.Cond.instanceMethod ({ cls := "QuorumGateModel", name := "pivotal", desc := "(I)I" } : Jvm.MethodName)) ∈ lw_g := gwc_7 95 rfl rfl
theorem wd1661 : (Jvm.Cond.selects "QuorumGateModel" ({ cls := "QuorumGateModel", name := "pivotal", desc := "(I)I" } : Jvm.MethodName) ({ cls := "QuorumGateModel", name := "pivotal", desc := "(I)I" } : Jvm.MethodName)) ∈ lw_g := gwc_7 96 rfl rfl
theorem wd1662 : (Jvm.Cond.code ({ cls := "QuorumGateModel", name := "pivotal", desc := "(I)I" } : Jvm.MethodName) prog_12_method_47_code (4 : Nat) (Option.some Jvm.ClassFile.FieldType.int)) ∈ lw_g := gwc_7 97 rfl rfl
theorem wd1663 : (Jvm.Cond.methodLink "QuorumGateModel" (131 : Nat) ({ cls := "QuorumGateModel", name := "isLive", desc := "(I)Z" } : Jvm.MethodName)) ∈ lw_g := gwc_7 98 rfl rfl
theorem wd1665 : (Jvm.Cond.instanceMethod ({ cls := "QuorumGateModel", name := "isLive", desc := "(I)Z" } : Jvm.MethodName)) ∈ lw_g := gwc_7 100 rfl rfl
theorem wd1666 : (Jvm.Cond.code ({ cls := "QuorumGateModel", name := "isLive", desc := "(I)Z" } : Jvm.MethodName) prog_12_method_46_code (3 : Nat) (Option.some Jvm.ClassFile.FieldType.boolean)) ∈ lw_g := gwc_7 101 rfl rfl
theorem wd1667 : (Jvm.Cond.methodLink "QuorumGateLaw" (97 : Nat) ({ cls := "QuorumGateModel", name := "fair", desc := "()Z" } : Jvm.MethodName)) ∈ lw_g := gwc_7 102 rfl rfl
theorem wd1668 : (Jvm.Cond.instanceMethod ({ cls := "QuorumGateModel", name := "fair", desc := "()Z" } : Jvm.MethodName)) ∈ lw_g := gwc_7 103 rfl rfl
theorem wd1669 : (Jvm.Cond.selects "QuorumGateModel" ({ cls := "QuorumGateModel", name := "fair", desc := "()Z" } : Jvm.MethodName) ({ cls := "QuorumGateModel", name := "fair", desc := "()Z" } : Jvm.MethodName)) ∈ lw_g := gwc_7 104 rfl rfl
theorem wd1670 : (Jvm.Cond.code ({ cls := "QuorumGateModel", name := "fair", desc := "()Z" } : Jvm.MethodName) prog_12_method_48_code (2 : Nat) (Option.some Jvm.ClassFile.FieldType.boolean)) ∈ lw_g := gwc_7 105 rfl rfl
theorem wd1671 : (Jvm.Cond.methodLink "QuorumGateModel" (134 : Nat) ({ cls := "QuorumGateModel", name := "load", desc := "(I)I" } : Jvm.MethodName)) ∈ lw_g := gwc_7 106 rfl rfl
theorem wd1672 : (Jvm.Cond.methodLink "QuorumGateLaw" (101 : Nat) ({ cls := "QuorumGateModel", name := "better", desc := "()I" } : Jvm.MethodName)) ∈ lw_g := gwc_7 107 rfl rfl
theorem wd1673 : (Jvm.Cond.instanceMethod ({ cls := "QuorumGateModel", name := "better", desc := "()I" } : Jvm.MethodName)) ∈ lw_g := gwc_7 108 rfl rfl
theorem wd1674 : (Jvm.Cond.selects "QuorumGateModel" ({ cls := "QuorumGateModel", name := "better", desc := "()I" } : Jvm.MethodName) ({ cls := "QuorumGateModel", name := "better", desc := "()I" } : Jvm.MethodName)) ∈ lw_g := gwc_7 109 rfl rfl
theorem wd1675 : (Jvm.Cond.code ({ cls := "QuorumGateModel", name := "better", desc := "()I" } : Jvm.MethodName) prog_12_method_50_code (2 : Nat) (Option.some Jvm.ClassFile.FieldType.int)) ∈ lw_g := gwc_7 110 rfl rfl
theorem wd1676 : (Jvm.Cond.methodLink "QuorumGateModel" (137 : Nat) ({ cls := "QuorumGateModel", name := "isBetter", desc := "(I)Z" } : Jvm.MethodName)) ∈ lw_g := gwc_7 111 rfl rfl
theorem wd1678 : (Jvm.Cond.instanceMethod ({ cls := "QuorumGateModel", name := "isBetter", desc := "(I)Z" } : Jvm.MethodName)) ∈ lw_g := gwc_7 113 rfl rfl
theorem wd1679 : (Jvm.Cond.code ({ cls := "QuorumGateModel", name := "isBetter", desc := "(I)Z" } : Jvm.MethodName) prog_12_method_49_code (3 : Nat) (Option.some Jvm.ClassFile.FieldType.boolean)) ∈ lw_g := gwc_7 114 rfl rfl
theorem wd1680 : (Jvm.Cond.methodLink "QuorumGateLaw" (105 : Nat) ({ cls := "QuorumGateModel", name := "ask", desc := "(I)I" } : Jvm.MethodName)) ∈ lw_g := gwc_7 115 rfl rfl
theorem wd1681 : (Jvm.Cond.instanceMethod ({ cls := "QuorumGateModel", name := "ask", desc := "(I)I" } : Jvm.MethodName)) ∈ lw_g := gwc_7 116 rfl rfl
theorem wd1682 : (Jvm.Cond.selects "QuorumGateModel" ({ cls := "QuorumGateModel", name := "ask", desc := "(I)I" } : Jvm.MethodName) ({ cls := "QuorumGateModel", name := "ask", desc := "(I)I" } : Jvm.MethodName)) ∈ lw_g := gwc_7 117 rfl rfl
theorem wd1683 : (Jvm.Cond.code ({ cls := "QuorumGateModel", name := "ask", desc := "(I)I" } : Jvm.MethodName) prog_12_method_83_code (2 : Nat) (Option.some Jvm.ClassFile.FieldType.int)) ∈ lw_g := gwc_7 118 rfl rfl
theorem wd1684 : (Jvm.Cond.methodLink "QuorumGateModel" (208 : Nat) ({ cls := "QuorumGateModel", name := "canAsk", desc := "(I)Z" } : Jvm.MethodName)) ∈ lw_g := gwc_7 119 rfl rfl
theorem wd1686 : (Jvm.Cond.instanceMethod ({ cls := "QuorumGateModel", name := "canAsk", desc := "(I)Z" } : Jvm.MethodName)) ∈ lw_g := gwc_7 121 rfl rfl
theorem wd1687 : (Jvm.Cond.code ({ cls := "QuorumGateModel", name := "canAsk", desc := "(I)Z" } : Jvm.MethodName) prog_12_method_81_code (2 : Nat) (Option.some Jvm.ClassFile.FieldType.boolean)) ∈ lw_g := gwc_7 122 rfl rfl
theorem wd1688 : (Jvm.Cond.methodLink "QuorumGateModel" (211 : Nat) ({ cls := "QuorumGateModel", name := "askNow", desc := "(I)V" } : Jvm.MethodName)) ∈ lw_g := gwc_7 123 rfl rfl
theorem wd1690 : (Jvm.Cond.instanceMethod ({ cls := "QuorumGateModel", name := "askNow", desc := "(I)V" } : Jvm.MethodName)) ∈ lw_g := gwc_7 125 rfl rfl
theorem wd1691 : (Jvm.Cond.code ({ cls := "QuorumGateModel", name := "askNow", desc := "(I)V" } : Jvm.MethodName) prog_12_method_82_code (2 : Nat) (Option.none : Option Jvm.ClassFile.FieldType)) ∈ lw_g := gwc_7 126 rfl rfl
theorem wd1692 : (Jvm.Cond.methodLink "QuorumGateModel" (187 : Nat) ({ cls := "QuorumGateModel", name := "let", desc := "(III)V" } : Jvm.MethodName)) ∈ lw_g := gwc_7 127 rfl rfl
theorem wd1694 : (Jvm.Cond.instanceMethod ({ cls := "QuorumGateModel", name := "let", desc := "(III)V" } : Jvm.MethodName)) ∈ lw_g := gwc_7 129 rfl rfl
theorem wd1695 : (Jvm.Cond.code ({ cls := "QuorumGateModel", name := "let", desc := "(III)V" } : Jvm.MethodName) prog_12_method_9_code (4 : Nat) (Option.none : Option Jvm.ClassFile.FieldType)) ∈ lw_g := gwc_7 130 rfl rfl
theorem wd1696 : (Jvm.Cond.methodLink "QuorumGateModel" (205 : Nat) ({ cls := "QuorumGateModel", name := "sendAll", desc := "(IIII)V" } : Jvm.MethodName)) ∈ lw_g := gwc_7 131 rfl rfl
theorem wd1698 : (Jvm.Cond.instanceMethod ({ cls := "QuorumGateModel", name := "sendAll", desc := "(IIII)V" } : Jvm.MethodName)) ∈ lw_g := gwc_7 133 rfl rfl
theorem wd1699 : (Jvm.Cond.code ({ cls := "QuorumGateModel", name := "sendAll", desc := "(IIII)V" } : Jvm.MethodName) prog_12_method_57_code (6 : Nat) (Option.none : Option Jvm.ClassFile.FieldType)) ∈ lw_g := gwc_7 134 rfl rfl
theorem wd1700 : (Jvm.Cond.methodLink "QuorumGateModel" (147 : Nat) ({ cls := "QuorumGateModel", name := "send", desc := "(IIII)V" } : Jvm.MethodName)) ∈ lw_g := gwc_7 135 rfl rfl
theorem wd1702 : (Jvm.Cond.instanceMethod ({ cls := "QuorumGateModel", name := "send", desc := "(IIII)V" } : Jvm.MethodName)) ∈ lw_g := gwc_7 137 rfl rfl
theorem wd1703 : (Jvm.Cond.code ({ cls := "QuorumGateModel", name := "send", desc := "(IIII)V" } : Jvm.MethodName) prog_12_method_54_code (7 : Nat) (Option.none : Option Jvm.ClassFile.FieldType)) ∈ lw_g := gwc_7 138 rfl rfl
theorem wd1704 : (Jvm.Cond.methodLink "QuorumGateModel" (140 : Nat) ({ cls := "QuorumGateModel", name := "pairOf", desc := "(I)I" } : Jvm.MethodName)) ∈ lw_g := gwc_7 139 rfl rfl
theorem wd1705 : (Jvm.Cond.static ({ cls := "QuorumGateModel", name := "pairOf", desc := "(I)I" } : Jvm.MethodName)) ∈ lw_g := gwc_7 140 rfl rfl
theorem wd1706 : (Jvm.Cond.code ({ cls := "QuorumGateModel", name := "pairOf", desc := "(I)I" } : Jvm.MethodName) prog_12_method_51_code (1 : Nat) (Option.some Jvm.ClassFile.FieldType.int)) ∈ lw_g := gwc_7 141 rfl rfl
theorem wd1707 : (Jvm.Cond.methodLink "QuorumGateLaw" (109 : Nat) ({ cls := "QuorumGateModel", name := "leave", desc := "(I)Z" } : Jvm.MethodName)) ∈ lw_g := gwc_7 142 rfl rfl
theorem wd1708 : (Jvm.Cond.instanceMethod ({ cls := "QuorumGateModel", name := "leave", desc := "(I)Z" } : Jvm.MethodName)) ∈ lw_g := gwc_7 143 rfl rfl
theorem wd1709 : (Jvm.Cond.selects "QuorumGateModel" ({ cls := "QuorumGateModel", name := "leave", desc := "(I)Z" } : Jvm.MethodName) ({ cls := "QuorumGateModel", name := "leave", desc := "(I)Z" } : Jvm.MethodName)) ∈ lw_g := gwc_7 144 rfl rfl
theorem wd1710 : (Jvm.Cond.code ({ cls := "QuorumGateModel", name := "leave", desc := "(I)Z" } : Jvm.MethodName) prog_12_method_86_code (2 : Nat) (Option.some Jvm.ClassFile.FieldType.boolean)) ∈ lw_g := gwc_7 145 rfl rfl
theorem wd1711 : (Jvm.Cond.methodLink "QuorumGateModel" (217 : Nat) ({ cls := "QuorumGateModel", name := "leaveNow", desc := "(I)V" } : Jvm.MethodName)) ∈ lw_g := gwc_7 146 rfl rfl
theorem wd1713 : (Jvm.Cond.instanceMethod ({ cls := "QuorumGateModel", name := "leaveNow", desc := "(I)V" } : Jvm.MethodName)) ∈ lw_g := gwc_7 148 rfl rfl
theorem wd1714 : (Jvm.Cond.code ({ cls := "QuorumGateModel", name := "leaveNow", desc := "(I)V" } : Jvm.MethodName) prog_12_method_85_code (3 : Nat) (Option.none : Option Jvm.ClassFile.FieldType)) ∈ lw_g := gwc_7 149 rfl rfl
theorem wd1715 : (Jvm.Cond.methodLink "QuorumGateModel" (214 : Nat) ({ cls := "QuorumGateModel", name := "rest", desc := "(I)V" } : Jvm.MethodName)) ∈ lw_g := gwc_7 150 rfl rfl
theorem wd1717 : (Jvm.Cond.instanceMethod ({ cls := "QuorumGateModel", name := "rest", desc := "(I)V" } : Jvm.MethodName)) ∈ lw_g := gwc_7 152 rfl rfl
theorem wd1718 : (Jvm.Cond.code ({ cls := "QuorumGateModel", name := "rest", desc := "(I)V" } : Jvm.MethodName) prog_12_method_84_code (3 : Nat) (Option.none : Option Jvm.ClassFile.FieldType)) ∈ lw_g := gwc_7 153 rfl rfl
theorem wd1719 : (Jvm.Cond.methodLink "QuorumGateLaw" (117 : Nat) ({ cls := "QuorumGateModel", name := "withdraw", desc := "(I)Z" } : Jvm.MethodName)) ∈ lw_g := gwc_7 154 rfl rfl
theorem wd1720 : (Jvm.Cond.instanceMethod ({ cls := "QuorumGateModel", name := "withdraw", desc := "(I)Z" } : Jvm.MethodName)) ∈ lw_g := gwc_7 155 rfl rfl
theorem wd1721 : (Jvm.Cond.selects "QuorumGateModel" ({ cls := "QuorumGateModel", name := "withdraw", desc := "(I)Z" } : Jvm.MethodName) ({ cls := "QuorumGateModel", name := "withdraw", desc := "(I)Z" } : Jvm.MethodName)) ∈ lw_g := gwc_7 156 rfl rfl
theorem wd1722 : (Jvm.Cond.code ({ cls := "QuorumGateModel", name := "withdraw", desc := "(I)Z" } : Jvm.MethodName) prog_12_method_87_code (2 : Nat) (Option.some Jvm.ClassFile.FieldType.boolean)) ∈ lw_g := gwc_7 157 rfl rfl
theorem wd1723 : (Jvm.Cond.methodLink "QuorumGateLaw" (150 : Nat) ({ cls := "QuorumGateModel", name := "handled", desc := "(I)I" } : Jvm.MethodName)) ∈ lw_g := gwc_7 158 rfl rfl
theorem wd1724 : (Jvm.Cond.instanceMethod ({ cls := "QuorumGateModel", name := "handled", desc := "(I)I" } : Jvm.MethodName)) ∈ lw_g := gwc_7 159 rfl rfl
theorem wd1725 : (Jvm.Cond.selects "QuorumGateModel" ({ cls := "QuorumGateModel", name := "handled", desc := "(I)I" } : Jvm.MethodName) ({ cls := "QuorumGateModel", name := "handled", desc := "(I)I" } : Jvm.MethodName)) ∈ lw_g := gwc_7 160 rfl rfl
theorem wd1726 : (Jvm.Cond.code ({ cls := "QuorumGateModel", name := "handled", desc := "(I)I" } : Jvm.MethodName) prog_12_method_88_code (2 : Nat) (Option.some Jvm.ClassFile.FieldType.int)) ∈ lw_g := gwc_7 161 rfl rfl
theorem wd1727 : (Jvm.Cond.methodLink "QuorumGateLaw" (113 : Nat) ({ cls := "QuorumGateModel", name := "bring", desc := "(II)I" } : Jvm.MethodName)) ∈ lw_g := gwc_7 162 rfl rfl
theorem wd1728 : (Jvm.Cond.instanceMethod ({ cls := "QuorumGateModel", name := "bring", desc := "(II)I" } : Jvm.MethodName)) ∈ lw_g := gwc_7 163 rfl rfl
theorem wd1729 : (Jvm.Cond.selects "QuorumGateModel" ({ cls := "QuorumGateModel", name := "bring", desc := "(II)I" } : Jvm.MethodName) ({ cls := "QuorumGateModel", name := "bring", desc := "(II)I" } : Jvm.MethodName)) ∈ lw_g := gwc_7 164 rfl rfl
theorem wd1730 : (Jvm.Cond.code ({ cls := "QuorumGateModel", name := "bring", desc := "(II)I" } : Jvm.MethodName) prog_12_method_92_code (4 : Nat) (Option.some Jvm.ClassFile.FieldType.int)) ∈ lw_g := gwc_7 165 rfl rfl
theorem wd1731 : (Jvm.Cond.methodLink "QuorumGateModel" (253 : Nat) ({ cls := "QuorumGateModel", name := "letterAt", desc := "(II)I" } : Jvm.MethodName)) ∈ lw_g := gwc_7 166 rfl rfl
theorem wd1733 : (Jvm.Cond.instanceMethod ({ cls := "QuorumGateModel", name := "letterAt", desc := "(II)I" } : Jvm.MethodName)) ∈ lw_g := gwc_7 168 rfl rfl
theorem wd1734 : (Jvm.Cond.code ({ cls := "QuorumGateModel", name := "letterAt", desc := "(II)I" } : Jvm.MethodName) prog_12_method_55_code (4 : Nat) (Option.some Jvm.ClassFile.FieldType.int)) ∈ lw_g := gwc_7 169 rfl rfl
theorem wd1735 : (Jvm.Cond.methodLink "QuorumGateModel" (256 : Nat) ({ cls := "QuorumGateModel", name := "bringNow", desc := "(I)I" } : Jvm.MethodName)) ∈ lw_g := gwc_7 170 rfl rfl
theorem wd1737 : (Jvm.Cond.instanceMethod ({ cls := "QuorumGateModel", name := "bringNow", desc := "(I)I" } : Jvm.MethodName)) ∈ lw_g := gwc_7 172 rfl rfl
theorem wd1738 : (Jvm.Cond.code ({ cls := "QuorumGateModel", name := "bringNow", desc := "(I)I" } : Jvm.MethodName) prog_12_method_91_code (5 : Nat) (Option.some Jvm.ClassFile.FieldType.int)) ∈ lw_g := gwc_7 173 rfl rfl
theorem wd1739 : (Jvm.Cond.methodLink "QuorumGateModel" (238 : Nat) ({ cls := "QuorumGateModel", name := "takeLetter", desc := "(I)V" } : Jvm.MethodName)) ∈ lw_g := gwc_7 174 rfl rfl
theorem wd1741 : (Jvm.Cond.instanceMethod ({ cls := "QuorumGateModel", name := "takeLetter", desc := "(I)V" } : Jvm.MethodName)) ∈ lw_g := gwc_7 176 rfl rfl
theorem wd1742 : (Jvm.Cond.code ({ cls := "QuorumGateModel", name := "takeLetter", desc := "(I)V" } : Jvm.MethodName) prog_12_method_56_code (3 : Nat) (Option.none : Option Jvm.ClassFile.FieldType)) ∈ lw_g := gwc_7 177 rfl rfl
theorem wd1743 : (Jvm.Cond.methodLink "QuorumGateModel" (241 : Nat) ({ cls := "QuorumGateModel", name := "kindOf", desc := "(I)I" } : Jvm.MethodName)) ∈ lw_g := gwc_7 178 rfl rfl
theorem wd1744 : (Jvm.Cond.static ({ cls := "QuorumGateModel", name := "kindOf", desc := "(I)I" } : Jvm.MethodName)) ∈ lw_g := gwc_7 179 rfl rfl
theorem wd1745 : (Jvm.Cond.code ({ cls := "QuorumGateModel", name := "kindOf", desc := "(I)I" } : Jvm.MethodName) prog_12_method_52_code (1 : Nat) (Option.some Jvm.ClassFile.FieldType.int)) ∈ lw_g := gwc_7 180 rfl rfl
theorem wd1746 : (Jvm.Cond.methodLink "QuorumGateModel" (244 : Nat) ({ cls := "QuorumGateModel", name := "stampOf", desc := "(I)I" } : Jvm.MethodName)) ∈ lw_g := gwc_7 181 rfl rfl
theorem wd1747 : (Jvm.Cond.static ({ cls := "QuorumGateModel", name := "stampOf", desc := "(I)I" } : Jvm.MethodName)) ∈ lw_g := gwc_7 182 rfl rfl
theorem wd1748 : (Jvm.Cond.code ({ cls := "QuorumGateModel", name := "stampOf", desc := "(I)I" } : Jvm.MethodName) prog_12_method_53_code (1 : Nat) (Option.some Jvm.ClassFile.FieldType.int)) ∈ lw_g := gwc_7 183 rfl rfl
theorem wd1749 : (Jvm.Cond.methodLink "QuorumGateModel" (247 : Nat) ({ cls := "QuorumGateModel", name := "writeTrace", desc := "(IIII)V" } : Jvm.MethodName)) ∈ lw_g := gwc_7 184 rfl rfl
theorem wd1751 : (Jvm.Cond.instanceMethod ({ cls := "QuorumGateModel", name := "writeTrace", desc := "(IIII)V" } : Jvm.MethodName)) ∈ lw_g := gwc_7 186 rfl rfl
theorem wd1752 : (Jvm.Cond.code ({ cls := "QuorumGateModel", name := "writeTrace", desc := "(IIII)V" } : Jvm.MethodName) prog_12_method_89_code (7 : Nat) (Option.none : Option Jvm.ClassFile.FieldType)) ∈ lw_g := gwc_7 187 rfl rfl
theorem wd1753 : (Jvm.Cond.methodLink "QuorumGateModel" (250 : Nat) ({ cls := "QuorumGateModel", name := "read", desc := "(IIII)V" } : Jvm.MethodName)) ∈ lw_g := gwc_7 188 rfl rfl
theorem wd1755 : (Jvm.Cond.instanceMethod ({ cls := "QuorumGateModel", name := "read", desc := "(IIII)V" } : Jvm.MethodName)) ∈ lw_g := gwc_7 190 rfl rfl
theorem wd1756 : (Jvm.Cond.code ({ cls := "QuorumGateModel", name := "read", desc := "(IIII)V" } : Jvm.MethodName) prog_12_method_90_code (6 : Nat) (Option.none : Option Jvm.ClassFile.FieldType)) ∈ lw_g := gwc_7 191 rfl rfl
theorem wd1757 : (Jvm.Cond.methodLink "QuorumGateModel" (220 : Nat) ({ cls := "QuorumGateModel", name := "requested", desc := "(III)V" } : Jvm.MethodName)) ∈ lw_g := gwc_7 192 rfl rfl
theorem wd1759 : (Jvm.Cond.instanceMethod ({ cls := "QuorumGateModel", name := "requested", desc := "(III)V" } : Jvm.MethodName)) ∈ lw_g := gwc_7 194 rfl rfl
theorem wd1760 : (Jvm.Cond.code ({ cls := "QuorumGateModel", name := "requested", desc := "(III)V" } : Jvm.MethodName) prog_12_method_66_code (8 : Nat) (Option.none : Option Jvm.ClassFile.FieldType)) ∈ lw_g := gwc_7 195 rfl rfl
theorem wd1761 : (Jvm.Cond.methodLink "QuorumGateModel" (151 : Nat) ({ cls := "QuorumGateModel", name := "of", desc := "(II)I" } : Jvm.MethodName)) ∈ lw_g := gwc_7 196 rfl rfl
theorem wd1763 : (Jvm.Cond.instanceMethod ({ cls := "QuorumGateModel", name := "of", desc := "(II)I" } : Jvm.MethodName)) ∈ lw_g := gwc_7 198 rfl rfl
theorem wd1764 : (Jvm.Cond.code ({ cls := "QuorumGateModel", name := "of", desc := "(II)I" } : Jvm.MethodName) prog_12_method_10_code (3 : Nat) (Option.some Jvm.ClassFile.FieldType.int)) ∈ lw_g := gwc_7 199 rfl rfl
theorem wd1765 : (Jvm.Cond.methodLink "QuorumGateModel" (161 : Nat) ({ cls := "QuorumGateModel", name := "waitNode", desc := "(II)I" } : Jvm.MethodName)) ∈ lw_g := gwc_7 200 rfl rfl
theorem wd1767 : (Jvm.Cond.instanceMethod ({ cls := "QuorumGateModel", name := "waitNode", desc := "(II)I" } : Jvm.MethodName)) ∈ lw_g := gwc_7 202 rfl rfl
theorem wd1768 : (Jvm.Cond.code ({ cls := "QuorumGateModel", name := "waitNode", desc := "(II)I" } : Jvm.MethodName) prog_12_method_58_code (3 : Nat) (Option.some Jvm.ClassFile.FieldType.int)) ∈ lw_g := gwc_7 203 rfl rfl
theorem wd1769 : (Jvm.Cond.methodLink "QuorumGateModel" (158 : Nat) ({ cls := "QuorumGateModel", name := "waitStamp", desc := "(II)I" } : Jvm.MethodName)) ∈ lw_g := gwc_7 204 rfl rfl
theorem wd1771 : (Jvm.Cond.instanceMethod ({ cls := "QuorumGateModel", name := "waitStamp", desc := "(II)I" } : Jvm.MethodName)) ∈ lw_g := gwc_7 206 rfl rfl
theorem wd1772 : (Jvm.Cond.code ({ cls := "QuorumGateModel", name := "waitStamp", desc := "(II)I" } : Jvm.MethodName) prog_12_method_59_code (3 : Nat) (Option.some Jvm.ClassFile.FieldType.int)) ∈ lw_g := gwc_7 207 rfl rfl
theorem wd1773 : (Jvm.Cond.methodLink "QuorumGateModel" (172 : Nat) ({ cls := "QuorumGateModel", name := "comeWaiting", desc := "(III)V" } : Jvm.MethodName)) ∈ lw_g := gwc_7 208 rfl rfl
theorem wd1775 : (Jvm.Cond.instanceMethod ({ cls := "QuorumGateModel", name := "comeWaiting", desc := "(III)V" } : Jvm.MethodName)) ∈ lw_g := gwc_7 210 rfl rfl
theorem wd1776 : (Jvm.Cond.code ({ cls := "QuorumGateModel", name := "comeWaiting", desc := "(III)V" } : Jvm.MethodName) prog_12_method_62_code (5 : Nat) (Option.none : Option Jvm.ClassFile.FieldType)) ∈ lw_g := gwc_7 211 rfl rfl
theorem wd1777 : (Jvm.Cond.methodLink "QuorumGateModel" (154 : Nat) ({ cls := "QuorumGateModel", name := "isAhead", desc := "(IIII)Z" } : Jvm.MethodName)) ∈ lw_g := gwc_7 212 rfl rfl
theorem wd1778 : (Jvm.Cond.static ({ cls := "QuorumGateModel", name := "isAhead", desc := "(IIII)Z" } : Jvm.MethodName)) ∈ lw_g := gwc_7 213 rfl rfl
theorem wd1779 : (Jvm.Cond.code ({ cls := "QuorumGateModel", name := "isAhead", desc := "(IIII)Z" } : Jvm.MethodName) prog_12_method_60_code (4 : Nat) (Option.some Jvm.ClassFile.FieldType.boolean)) ∈ lw_g := gwc_7 214 rfl rfl
theorem wd1780 : (Jvm.Cond.methodLink "QuorumGateModel" (175 : Nat) ({ cls := "QuorumGateModel", name := "grantFirst", desc := "(I)V" } : Jvm.MethodName)) ∈ lw_g := gwc_7 215 rfl rfl
theorem wd1782 : (Jvm.Cond.instanceMethod ({ cls := "QuorumGateModel", name := "grantFirst", desc := "(I)V" } : Jvm.MethodName)) ∈ lw_g := gwc_7 217 rfl rfl
theorem wd1783 : (Jvm.Cond.code ({ cls := "QuorumGateModel", name := "grantFirst", desc := "(I)V" } : Jvm.MethodName) prog_12_method_65_code (2 : Nat) (Option.none : Option Jvm.ClassFile.FieldType)) ∈ lw_g := gwc_7 218 rfl rfl
theorem wd1784 : (Jvm.Cond.methodLink "QuorumGateModel" (164 : Nat) ({ cls := "QuorumGateModel", name := "nobody", desc := "(I)V" } : Jvm.MethodName)) ∈ lw_g := gwc_7 219 rfl rfl
theorem wd1786 : (Jvm.Cond.instanceMethod ({ cls := "QuorumGateModel", name := "nobody", desc := "(I)V" } : Jvm.MethodName)) ∈ lw_g := gwc_7 221 rfl rfl
theorem wd1787 : (Jvm.Cond.code ({ cls := "QuorumGateModel", name := "nobody", desc := "(I)V" } : Jvm.MethodName) prog_12_method_64_code (2 : Nat) (Option.none : Option Jvm.ClassFile.FieldType)) ∈ lw_g := gwc_7 222 rfl rfl
theorem wd1788 : (Jvm.Cond.methodLink "QuorumGateModel" (168 : Nat) ({ cls := "QuorumGateModel", name := "goWaiting", desc := "(II)V" } : Jvm.MethodName)) ∈ lw_g := gwc_7 223 rfl rfl
theorem wd1790 : (Jvm.Cond.instanceMethod ({ cls := "QuorumGateModel", name := "goWaiting", desc := "(II)V" } : Jvm.MethodName)) ∈ lw_g := gwc_7 225 rfl rfl
theorem wd1791 : (Jvm.Cond.code ({ cls := "QuorumGateModel", name := "goWaiting", desc := "(II)V" } : Jvm.MethodName) prog_12_method_63_code (5 : Nat) (Option.none : Option Jvm.ClassFile.FieldType)) ∈ lw_g := gwc_7 226 rfl rfl
theorem wd1792 : (Jvm.Cond.methodLink "QuorumGateModel" (178 : Nat) ({ cls := "QuorumGateModel", name := "isAheadOfGranted", desc := "(III)Z" } : Jvm.MethodName)) ∈ lw_g := gwc_7 227 rfl rfl
theorem wd1794 : (Jvm.Cond.instanceMethod ({ cls := "QuorumGateModel", name := "isAheadOfGranted", desc := "(III)Z" } : Jvm.MethodName)) ∈ lw_g := gwc_7 229 rfl rfl
theorem wd1795 : (Jvm.Cond.code ({ cls := "QuorumGateModel", name := "isAheadOfGranted", desc := "(III)Z" } : Jvm.MethodName) prog_12_method_61_code (4 : Nat) (Option.some Jvm.ClassFile.FieldType.boolean)) ∈ lw_g := gwc_7 230 rfl rfl
theorem wd1796 : (Jvm.Cond.methodLink "QuorumGateModel" (223 : Nat) ({ cls := "QuorumGateModel", name := "yielded", desc := "(III)V" } : Jvm.MethodName)) ∈ lw_g := gwc_7 231 rfl rfl
theorem wd1798 : (Jvm.Cond.instanceMethod ({ cls := "QuorumGateModel", name := "yielded", desc := "(III)V" } : Jvm.MethodName)) ∈ lw_g := gwc_7 233 rfl rfl
theorem wd1799 : (Jvm.Cond.code ({ cls := "QuorumGateModel", name := "yielded", desc := "(III)V" } : Jvm.MethodName) prog_12_method_68_code (4 : Nat) (Option.none : Option Jvm.ClassFile.FieldType)) ∈ lw_g := gwc_7 234 rfl rfl
theorem wd1800 : (Jvm.Cond.methodLink "QuorumGateModel" (181 : Nat) ({ cls := "QuorumGateModel", name := "isGranted", desc := "(III)Z" } : Jvm.MethodName)) ∈ lw_g := gwc_7 235 rfl rfl
theorem wd1802 : (Jvm.Cond.instanceMethod ({ cls := "QuorumGateModel", name := "isGranted", desc := "(III)Z" } : Jvm.MethodName)) ∈ lw_g := gwc_7 237 rfl rfl
theorem wd1803 : (Jvm.Cond.code ({ cls := "QuorumGateModel", name := "isGranted", desc := "(III)Z" } : Jvm.MethodName) prog_12_method_67_code (4 : Nat) (Option.some Jvm.ClassFile.FieldType.boolean)) ∈ lw_g := gwc_7 238 rfl rfl
theorem wd1804 : (Jvm.Cond.methodLink "QuorumGateModel" (226 : Nat) ({ cls := "QuorumGateModel", name := "released", desc := "(III)V" } : Jvm.MethodName)) ∈ lw_g := gwc_7 239 rfl rfl
theorem wd1806 : (Jvm.Cond.instanceMethod ({ cls := "QuorumGateModel", name := "released", desc := "(III)V" } : Jvm.MethodName)) ∈ lw_g := gwc_8 1 rfl rfl
theorem wd1807 : (Jvm.Cond.code ({ cls := "QuorumGateModel", name := "released", desc := "(III)V" } : Jvm.MethodName) prog_12_method_69_code (5 : Nat) (Option.none : Option Jvm.ClassFile.FieldType)) ∈ lw_g := gwc_8 2 rfl rfl
theorem wd1808 : (Jvm.Cond.methodLink "QuorumGateModel" (229 : Nat) ({ cls := "QuorumGateModel", name := "granted", desc := "(II)V" } : Jvm.MethodName)) ∈ lw_g := gwc_8 3 rfl rfl
theorem wd1810 : (Jvm.Cond.instanceMethod ({ cls := "QuorumGateModel", name := "granted", desc := "(II)V" } : Jvm.MethodName)) ∈ lw_g := gwc_8 5 rfl rfl
theorem wd1811 : (Jvm.Cond.code ({ cls := "QuorumGateModel", name := "granted", desc := "(II)V" } : Jvm.MethodName) prog_12_method_78_code (3 : Nat) (Option.none : Option Jvm.ClassFile.FieldType)) ∈ lw_g := gwc_8 6 rfl rfl
theorem wd1812 : (Jvm.Cond.methodLink "QuorumGateModel" (190 : Nat) ({ cls := "QuorumGateModel", name := "with", desc := "(II)I" } : Jvm.MethodName)) ∈ lw_g := gwc_8 7 rfl rfl
theorem wd1813 : (Jvm.Cond.static ({ cls := "QuorumGateModel", name := "with", desc := "(II)I" } : Jvm.MethodName)) ∈ lw_g := gwc_8 8 rfl rfl
theorem wd1814 : (Jvm.Cond.code ({ cls := "QuorumGateModel", name := "with", desc := "(II)I" } : Jvm.MethodName) prog_12_method_71_code (2 : Nat) (Option.some Jvm.ClassFile.FieldType.int)) ∈ lw_g := gwc_8 9 rfl rfl
theorem wd1815 : (Jvm.Cond.methodLink "QuorumGateModel" (184 : Nat) ({ cls := "QuorumGateModel", name := "without0", desc := "(II)I" } : Jvm.MethodName)) ∈ lw_g := gwc_8 10 rfl rfl
theorem wd1816 : (Jvm.Cond.static ({ cls := "QuorumGateModel", name := "without0", desc := "(II)I" } : Jvm.MethodName)) ∈ lw_g := gwc_8 11 rfl rfl
theorem wd1817 : (Jvm.Cond.code ({ cls := "QuorumGateModel", name := "without0", desc := "(II)I" } : Jvm.MethodName) prog_12_method_72_code (2 : Nat) (Option.some Jvm.ClassFile.FieldType.int)) ∈ lw_g := gwc_8 12 rfl rfl
theorem wd1818 : (Jvm.Cond.methodLink "QuorumGateModel" (199 : Nat) ({ cls := "QuorumGateModel", name := "enter", desc := "(I)V" } : Jvm.MethodName)) ∈ lw_g := gwc_8 13 rfl rfl
theorem wd1820 : (Jvm.Cond.instanceMethod ({ cls := "QuorumGateModel", name := "enter", desc := "(I)V" } : Jvm.MethodName)) ∈ lw_g := gwc_8 15 rfl rfl
theorem wd1821 : (Jvm.Cond.code ({ cls := "QuorumGateModel", name := "enter", desc := "(I)V" } : Jvm.MethodName) prog_12_method_77_code (6 : Nat) (Option.none : Option Jvm.ClassFile.FieldType)) ∈ lw_g := gwc_8 16 rfl rfl
theorem wd1822 : (Jvm.Cond.methodLink "QuorumGateModel" (193 : Nat) ({ cls := "QuorumGateModel", name := "countOf", desc := "(II)I" } : Jvm.MethodName)) ∈ lw_g := gwc_8 17 rfl rfl
theorem wd1824 : (Jvm.Cond.instanceMethod ({ cls := "QuorumGateModel", name := "countOf", desc := "(II)I" } : Jvm.MethodName)) ∈ lw_g := gwc_8 19 rfl rfl
theorem wd1825 : (Jvm.Cond.code ({ cls := "QuorumGateModel", name := "countOf", desc := "(II)I" } : Jvm.MethodName) prog_12_method_76_code (3 : Nat) (Option.some Jvm.ClassFile.FieldType.int)) ∈ lw_g := gwc_8 20 rfl rfl
theorem wd1826 : (Jvm.Cond.methodLink "QuorumGateModel" (196 : Nat) ({ cls := "QuorumGateModel", name := "insides", desc := "()I" } : Jvm.MethodName)) ∈ lw_g := gwc_8 21 rfl rfl
theorem wd1828 : (Jvm.Cond.instanceMethod ({ cls := "QuorumGateModel", name := "insides", desc := "()I" } : Jvm.MethodName)) ∈ lw_g := gwc_8 23 rfl rfl
theorem wd1829 : (Jvm.Cond.code ({ cls := "QuorumGateModel", name := "insides", desc := "()I" } : Jvm.MethodName) prog_12_method_74_code (3 : Nat) (Option.some Jvm.ClassFile.FieldType.int)) ∈ lw_g := gwc_8 24 rfl rfl
theorem wd1830 : (Jvm.Cond.methodLink "QuorumGateModel" (232 : Nat) ({ cls := "QuorumGateModel", name := "failed", desc := "(II)V" } : Jvm.MethodName)) ∈ lw_g := gwc_8 25 rfl rfl
theorem wd1832 : (Jvm.Cond.instanceMethod ({ cls := "QuorumGateModel", name := "failed", desc := "(II)V" } : Jvm.MethodName)) ∈ lw_g := gwc_8 27 rfl rfl
theorem wd1833 : (Jvm.Cond.code ({ cls := "QuorumGateModel", name := "failed", desc := "(II)V" } : Jvm.MethodName) prog_12_method_79_code (5 : Nat) (Option.none : Option Jvm.ClassFile.FieldType)) ∈ lw_g := gwc_8 28 rfl rfl
theorem wd1834 : (Jvm.Cond.methodLink "QuorumGateModel" (202 : Nat) ({ cls := "QuorumGateModel", name := "yieldTo", desc := "(II)V" } : Jvm.MethodName)) ∈ lw_g := gwc_8 29 rfl rfl
theorem wd1836 : (Jvm.Cond.instanceMethod ({ cls := "QuorumGateModel", name := "yieldTo", desc := "(II)V" } : Jvm.MethodName)) ∈ lw_g := gwc_8 31 rfl rfl
theorem wd1837 : (Jvm.Cond.code ({ cls := "QuorumGateModel", name := "yieldTo", desc := "(II)V" } : Jvm.MethodName) prog_12_method_73_code (3 : Nat) (Option.none : Option Jvm.ClassFile.FieldType)) ∈ lw_g := gwc_8 32 rfl rfl
theorem wd1838 : (Jvm.Cond.methodLink "QuorumGateModel" (235 : Nat) ({ cls := "QuorumGateModel", name := "inquired", desc := "(II)V" } : Jvm.MethodName)) ∈ lw_g := gwc_8 33 rfl rfl
theorem wd1840 : (Jvm.Cond.instanceMethod ({ cls := "QuorumGateModel", name := "inquired", desc := "(II)V" } : Jvm.MethodName)) ∈ lw_g := gwc_8 35 rfl rfl
theorem wd1841 : (Jvm.Cond.code ({ cls := "QuorumGateModel", name := "inquired", desc := "(II)V" } : Jvm.MethodName) prog_12_method_80_code (3 : Nat) (Option.none : Option Jvm.ClassFile.FieldType)) ∈ lw_g := gwc_8 36 rfl rfl
theorem wd1842 : (Jvm.Cond.methodLink "QuorumGateLaw" (121 : Nat) ({ cls := "QuorumGateModel", name := "breakDown", desc := "(I)Z" } : Jvm.MethodName)) ∈ lw_g := gwc_8 37 rfl rfl
theorem wd1843 : (Jvm.Cond.instanceMethod ({ cls := "QuorumGateModel", name := "breakDown", desc := "(I)Z" } : Jvm.MethodName)) ∈ lw_g := gwc_8 38 rfl rfl
theorem wd1844 : (Jvm.Cond.selects "QuorumGateModel" ({ cls := "QuorumGateModel", name := "breakDown", desc := "(I)Z" } : Jvm.MethodName) ({ cls := "QuorumGateModel", name := "breakDown", desc := "(I)Z" } : Jvm.MethodName)) ∈ lw_g := gwc_8 39 rfl rfl
theorem wd1845 : (Jvm.Cond.code ({ cls := "QuorumGateModel", name := "breakDown", desc := "(I)Z" } : Jvm.MethodName) prog_12_method_95_code (3 : Nat) (Option.some Jvm.ClassFile.FieldType.boolean)) ∈ lw_g := gwc_8 40 rfl rfl
theorem wd1846 : (Jvm.Cond.methodLink "QuorumGateModel" (259 : Nat) ({ cls := "QuorumGateModel", name := "dropLetters", desc := "(I)V" } : Jvm.MethodName)) ∈ lw_g := gwc_8 41 rfl rfl
theorem wd1848 : (Jvm.Cond.instanceMethod ({ cls := "QuorumGateModel", name := "dropLetters", desc := "(I)V" } : Jvm.MethodName)) ∈ lw_g := gwc_8 43 rfl rfl
theorem wd1849 : (Jvm.Cond.code ({ cls := "QuorumGateModel", name := "dropLetters", desc := "(I)V" } : Jvm.MethodName) prog_12_method_93_code (3 : Nat) (Option.none : Option Jvm.ClassFile.FieldType)) ∈ lw_g := gwc_8 44 rfl rfl
theorem wd1850 : (Jvm.Cond.methodLink "QuorumGateModel" (262 : Nat) ({ cls := "QuorumGateModel", name := "forgotten", desc := "(II)V" } : Jvm.MethodName)) ∈ lw_g := gwc_8 45 rfl rfl
theorem wd1852 : (Jvm.Cond.instanceMethod ({ cls := "QuorumGateModel", name := "forgotten", desc := "(II)V" } : Jvm.MethodName)) ∈ lw_g := gwc_8 47 rfl rfl
theorem wd1853 : (Jvm.Cond.code ({ cls := "QuorumGateModel", name := "forgotten", desc := "(II)V" } : Jvm.MethodName) prog_12_method_70_code (4 : Nat) (Option.none : Option Jvm.ClassFile.FieldType)) ∈ lw_g := gwc_8 48 rfl rfl
theorem wd1854 : (Jvm.Cond.methodLink "QuorumGateModel" (265 : Nat) ({ cls := "QuorumGateModel", name := "goWithout", desc := "(II)V" } : Jvm.MethodName)) ∈ lw_g := gwc_8 49 rfl rfl
theorem wd1856 : (Jvm.Cond.instanceMethod ({ cls := "QuorumGateModel", name := "goWithout", desc := "(II)V" } : Jvm.MethodName)) ∈ lw_g := gwc_8 51 rfl rfl
theorem wd1857 : (Jvm.Cond.code ({ cls := "QuorumGateModel", name := "goWithout", desc := "(II)V" } : Jvm.MethodName) prog_12_method_94_code (5 : Nat) (Option.none : Option Jvm.ClassFile.FieldType)) ∈ lw_g := gwc_8 52 rfl rfl
theorem wd1858 : (Jvm.Cond.methodLink "QuorumGateLaw" (125 : Nat) ({ cls := "QuorumGateModel", name := "mend", desc := "(I)Z" } : Jvm.MethodName)) ∈ lw_g := gwc_8 53 rfl rfl
theorem wd1859 : (Jvm.Cond.instanceMethod ({ cls := "QuorumGateModel", name := "mend", desc := "(I)Z" } : Jvm.MethodName)) ∈ lw_g := gwc_8 54 rfl rfl
theorem wd1860 : (Jvm.Cond.selects "QuorumGateModel" ({ cls := "QuorumGateModel", name := "mend", desc := "(I)Z" } : Jvm.MethodName) ({ cls := "QuorumGateModel", name := "mend", desc := "(I)Z" } : Jvm.MethodName)) ∈ lw_g := gwc_8 55 rfl rfl
theorem wd1861 : (Jvm.Cond.code ({ cls := "QuorumGateModel", name := "mend", desc := "(I)Z" } : Jvm.MethodName) prog_12_method_96_code (2 : Nat) (Option.some Jvm.ClassFile.FieldType.boolean)) ∈ lw_g := gwc_8 56 rfl rfl
theorem wd1862 : (Jvm.Cond.methodLink "QuorumGateModel" (268 : Nat) ({ cls := "QuorumGateModel", name := "askings", desc := "()I" } : Jvm.MethodName)) ∈ lw_g := gwc_8 57 rfl rfl
theorem wd1864 : (Jvm.Cond.instanceMethod ({ cls := "QuorumGateModel", name := "askings", desc := "()I" } : Jvm.MethodName)) ∈ lw_g := gwc_8 59 rfl rfl
theorem wd1865 : (Jvm.Cond.code ({ cls := "QuorumGateModel", name := "askings", desc := "()I" } : Jvm.MethodName) prog_12_method_75_code (3 : Nat) (Option.some Jvm.ClassFile.FieldType.int)) ∈ lw_g := gwc_8 60 rfl rfl
theorem wd1866 : (Jvm.Cond.methodLink "QuorumGateLaw" (129 : Nat) ({ cls := "QuorumGateModel", name := "node", desc := "(II)I" } : Jvm.MethodName)) ∈ lw_g := gwc_8 61 rfl rfl
theorem wd1867 : (Jvm.Cond.instanceMethod ({ cls := "QuorumGateModel", name := "node", desc := "(II)I" } : Jvm.MethodName)) ∈ lw_g := gwc_8 62 rfl rfl
theorem wd1868 : (Jvm.Cond.selects "QuorumGateModel" ({ cls := "QuorumGateModel", name := "node", desc := "(II)I" } : Jvm.MethodName) ({ cls := "QuorumGateModel", name := "node", desc := "(II)I" } : Jvm.MethodName)) ∈ lw_g := gwc_8 63 rfl rfl
theorem wd1869 : (Jvm.Cond.code ({ cls := "QuorumGateModel", name := "node", desc := "(II)I" } : Jvm.MethodName) prog_12_method_97_code (3 : Nat) (Option.some Jvm.ClassFile.FieldType.int)) ∈ lw_g := gwc_8 64 rfl rfl
theorem wd1870 : (Jvm.Cond.methodLink "QuorumGateLaw" (133 : Nat) ({ cls := "QuorumGateModel", name := "arbiter", desc := "(II)I" } : Jvm.MethodName)) ∈ lw_g := gwc_8 65 rfl rfl
theorem wd1871 : (Jvm.Cond.instanceMethod ({ cls := "QuorumGateModel", name := "arbiter", desc := "(II)I" } : Jvm.MethodName)) ∈ lw_g := gwc_8 66 rfl rfl
theorem wd1872 : (Jvm.Cond.selects "QuorumGateModel" ({ cls := "QuorumGateModel", name := "arbiter", desc := "(II)I" } : Jvm.MethodName) ({ cls := "QuorumGateModel", name := "arbiter", desc := "(II)I" } : Jvm.MethodName)) ∈ lw_g := gwc_8 67 rfl rfl
theorem wd1873 : (Jvm.Cond.code ({ cls := "QuorumGateModel", name := "arbiter", desc := "(II)I" } : Jvm.MethodName) prog_12_method_98_code (3 : Nat) (Option.some Jvm.ClassFile.FieldType.int)) ∈ lw_g := gwc_8 68 rfl rfl
theorem wd1874 : (Jvm.Cond.methodLink "QuorumGateLaw" (138 : Nat) ({ cls := "QuorumGateModel", name := "waiting", desc := "(III)I" } : Jvm.MethodName)) ∈ lw_g := gwc_8 69 rfl rfl
theorem wd1875 : (Jvm.Cond.instanceMethod ({ cls := "QuorumGateModel", name := "waiting", desc := "(III)I" } : Jvm.MethodName)) ∈ lw_g := gwc_8 70 rfl rfl
theorem wd1876 : (Jvm.Cond.selects "QuorumGateModel" ({ cls := "QuorumGateModel", name := "waiting", desc := "(III)I" } : Jvm.MethodName) ({ cls := "QuorumGateModel", name := "waiting", desc := "(III)I" } : Jvm.MethodName)) ∈ lw_g := gwc_8 71 rfl rfl
theorem wd1877 : (Jvm.Cond.code ({ cls := "QuorumGateModel", name := "waiting", desc := "(III)I" } : Jvm.MethodName) prog_12_method_99_code (4 : Nat) (Option.some Jvm.ClassFile.FieldType.int)) ∈ lw_g := gwc_8 72 rfl rfl
theorem wd1878 : (Jvm.Cond.methodLink "QuorumGateLaw" (142 : Nat) ({ cls := "QuorumGateModel", name := "way", desc := "(III)I" } : Jvm.MethodName)) ∈ lw_g := gwc_8 73 rfl rfl
theorem wd1879 : (Jvm.Cond.instanceMethod ({ cls := "QuorumGateModel", name := "way", desc := "(III)I" } : Jvm.MethodName)) ∈ lw_g := gwc_8 74 rfl rfl
theorem wd1880 : (Jvm.Cond.selects "QuorumGateModel" ({ cls := "QuorumGateModel", name := "way", desc := "(III)I" } : Jvm.MethodName) ({ cls := "QuorumGateModel", name := "way", desc := "(III)I" } : Jvm.MethodName)) ∈ lw_g := gwc_8 75 rfl rfl
theorem wd1881 : (Jvm.Cond.code ({ cls := "QuorumGateModel", name := "way", desc := "(III)I" } : Jvm.MethodName) prog_12_method_100_code (6 : Nat) (Option.some Jvm.ClassFile.FieldType.int)) ∈ lw_g := gwc_8 76 rfl rfl
theorem wd1882 : (Jvm.Cond.methodLink "QuorumGateLaw" (162 : Nat) ({ cls := "QuorumGateModel", name := "waitsFor", desc := "(I)I" } : Jvm.MethodName)) ∈ lw_g := gwc_8 77 rfl rfl
theorem wd1883 : (Jvm.Cond.instanceMethod ({ cls := "QuorumGateModel", name := "waitsFor", desc := "(I)I" } : Jvm.MethodName)) ∈ lw_g := gwc_8 78 rfl rfl
theorem wd1884 : (Jvm.Cond.selects "QuorumGateModel" ({ cls := "QuorumGateModel", name := "waitsFor", desc := "(I)I" } : Jvm.MethodName) ({ cls := "QuorumGateModel", name := "waitsFor", desc := "(I)I" } : Jvm.MethodName)) ∈ lw_g := gwc_8 79 rfl rfl
theorem wd1885 : (Jvm.Cond.code ({ cls := "QuorumGateModel", name := "waitsFor", desc := "(I)I" } : Jvm.MethodName) prog_12_method_106_code (2 : Nat) (Option.some Jvm.ClassFile.FieldType.int)) ∈ lw_g := gwc_8 80 rfl rfl
theorem wd1886 : (Jvm.Cond.methodLink "QuorumGateModel" (283 : Nat) ({ cls := "QuorumGateModel", name := "waitsNow", desc := "(I)I" } : Jvm.MethodName)) ∈ lw_g := gwc_8 81 rfl rfl
theorem wd1888 : (Jvm.Cond.instanceMethod ({ cls := "QuorumGateModel", name := "waitsNow", desc := "(I)I" } : Jvm.MethodName)) ∈ lw_g := gwc_8 83 rfl rfl
theorem wd1889 : (Jvm.Cond.code ({ cls := "QuorumGateModel", name := "waitsNow", desc := "(I)I" } : Jvm.MethodName) prog_12_method_105_code (5 : Nat) (Option.some Jvm.ClassFile.FieldType.int)) ∈ lw_g := gwc_8 84 rfl rfl
theorem wd1890 : (Jvm.Cond.methodLink "QuorumGateLaw" (166 : Nat) ({ cls := "QuorumGateModel", name := "unheard", desc := "(I)I" } : Jvm.MethodName)) ∈ lw_g := gwc_8 85 rfl rfl
theorem wd1891 : (Jvm.Cond.instanceMethod ({ cls := "QuorumGateModel", name := "unheard", desc := "(I)I" } : Jvm.MethodName)) ∈ lw_g := gwc_8 86 rfl rfl
theorem wd1892 : (Jvm.Cond.selects "QuorumGateModel" ({ cls := "QuorumGateModel", name := "unheard", desc := "(I)I" } : Jvm.MethodName) ({ cls := "QuorumGateModel", name := "unheard", desc := "(I)I" } : Jvm.MethodName)) ∈ lw_g := gwc_8 87 rfl rfl
theorem wd1893 : (Jvm.Cond.code ({ cls := "QuorumGateModel", name := "unheard", desc := "(I)I" } : Jvm.MethodName) prog_12_method_107_code (2 : Nat) (Option.some Jvm.ClassFile.FieldType.int)) ∈ lw_g := gwc_8 88 rfl rfl
theorem wd1894 : (Jvm.Cond.methodLink "QuorumGateLaw" (170 : Nat) ({ cls := "QuorumGateModel", name := "crowded", desc := "(I)I" } : Jvm.MethodName)) ∈ lw_g := gwc_8 89 rfl rfl
theorem wd1895 : (Jvm.Cond.instanceMethod ({ cls := "QuorumGateModel", name := "crowded", desc := "(I)I" } : Jvm.MethodName)) ∈ lw_g := gwc_8 90 rfl rfl
theorem wd1896 : (Jvm.Cond.selects "QuorumGateModel" ({ cls := "QuorumGateModel", name := "crowded", desc := "(I)I" } : Jvm.MethodName) ({ cls := "QuorumGateModel", name := "crowded", desc := "(I)I" } : Jvm.MethodName)) ∈ lw_g := gwc_8 91 rfl rfl
theorem wd1897 : (Jvm.Cond.code ({ cls := "QuorumGateModel", name := "crowded", desc := "(I)I" } : Jvm.MethodName) prog_12_method_108_code (5 : Nat) (Option.some Jvm.ClassFile.FieldType.int)) ∈ lw_g := gwc_8 92 rfl rfl
theorem wd1898 : (Jvm.Cond.methodLink "QuorumGateLaw" (146 : Nat) ({ cls := "QuorumGateModel", name := "is", desc := "(I)I" } : Jvm.MethodName)) ∈ lw_g := gwc_8 93 rfl rfl
theorem wd1899 : (Jvm.Cond.instanceMethod ({ cls := "QuorumGateModel", name := "is", desc := "(I)I" } : Jvm.MethodName)) ∈ lw_g := gwc_8 94 rfl rfl
theorem wd1900 : (Jvm.Cond.selects "QuorumGateModel" ({ cls := "QuorumGateModel", name := "is", desc := "(I)I" } : Jvm.MethodName) ({ cls := "QuorumGateModel", name := "is", desc := "(I)I" } : Jvm.MethodName)) ∈ lw_g := gwc_8 95 rfl rfl
theorem wd1901 : (Jvm.Cond.code ({ cls := "QuorumGateModel", name := "is", desc := "(I)I" } : Jvm.MethodName) prog_12_method_111_code (2 : Nat) (Option.some Jvm.ClassFile.FieldType.int)) ∈ lw_g := gwc_8 96 rfl rfl
theorem wd1902 : (Jvm.Cond.methodLink "QuorumGateModel" (289 : Nat) ({ cls := "QuorumGateModel", name := "movesNow", desc := "()I" } : Jvm.MethodName)) ∈ lw_g := gwc_8 97 rfl rfl
theorem wd1904 : (Jvm.Cond.instanceMethod ({ cls := "QuorumGateModel", name := "movesNow", desc := "()I" } : Jvm.MethodName)) ∈ lw_g := gwc_8 99 rfl rfl
theorem wd1905 : (Jvm.Cond.code ({ cls := "QuorumGateModel", name := "movesNow", desc := "()I" } : Jvm.MethodName) prog_12_method_104_code (1 : Nat) (Option.some Jvm.ClassFile.FieldType.int)) ∈ lw_g := gwc_8 100 rfl rfl
theorem wd1906 : (Jvm.Cond.methodLink "QuorumGateModel" (280 : Nat) ({ cls := "QuorumGateModel", name := "layMoves", desc := "()V" } : Jvm.MethodName)) ∈ lw_g := gwc_8 101 rfl rfl
theorem wd1908 : (Jvm.Cond.instanceMethod ({ cls := "QuorumGateModel", name := "layMoves", desc := "()V" } : Jvm.MethodName)) ∈ lw_g := gwc_8 103 rfl rfl
theorem wd1909 : (Jvm.Cond.code ({ cls := "QuorumGateModel", name := "layMoves", desc := "()V" } : Jvm.MethodName) prog_12_method_101_code (3 : Nat) (Option.none : Option Jvm.ClassFile.FieldType)) ∈ lw_g := gwc_8 104 rfl rfl
theorem wd1910 : (Jvm.Cond.methodLink "QuorumGateModel" (292 : Nat) ({ cls := "QuorumGateModel", name := "roundOnes", desc := "()I" } : Jvm.MethodName)) ∈ lw_g := gwc_8 105 rfl rfl
theorem wd1912 : (Jvm.Cond.instanceMethod ({ cls := "QuorumGateModel", name := "roundOnes", desc := "()I" } : Jvm.MethodName)) ∈ lw_g := gwc_8 107 rfl rfl
theorem wd1913 : (Jvm.Cond.code ({ cls := "QuorumGateModel", name := "roundOnes", desc := "()I" } : Jvm.MethodName) prog_12_method_110_code (3 : Nat) (Option.some Jvm.ClassFile.FieldType.int)) ∈ lw_g := gwc_8 108 rfl rfl
theorem wd1914 : (Jvm.Cond.methodLink "QuorumGateModel" (286 : Nat) ({ cls := "QuorumGateModel", name := "reached", desc := "(I)I" } : Jvm.MethodName)) ∈ lw_g := gwc_8 109 rfl rfl
theorem wd1916 : (Jvm.Cond.instanceMethod ({ cls := "QuorumGateModel", name := "reached", desc := "(I)I" } : Jvm.MethodName)) ∈ lw_g := gwc_8 111 rfl rfl
theorem wd1917 : (Jvm.Cond.code ({ cls := "QuorumGateModel", name := "reached", desc := "(I)I" } : Jvm.MethodName) prog_12_method_109_code (6 : Nat) (Option.some Jvm.ClassFile.FieldType.int)) ∈ lw_g := gwc_8 112 rfl rfl
theorem wd1918 : (Jvm.Cond.methodLink "QuorumGateLaw" (154 : Nat) ({ cls := "QuorumGateModel", name := "sent", desc := "(I)I" } : Jvm.MethodName)) ∈ lw_g := gwc_8 113 rfl rfl
theorem wd1919 : (Jvm.Cond.instanceMethod ({ cls := "QuorumGateModel", name := "sent", desc := "(I)I" } : Jvm.MethodName)) ∈ lw_g := gwc_8 114 rfl rfl
theorem wd1920 : (Jvm.Cond.selects "QuorumGateModel" ({ cls := "QuorumGateModel", name := "sent", desc := "(I)I" } : Jvm.MethodName) ({ cls := "QuorumGateModel", name := "sent", desc := "(I)I" } : Jvm.MethodName)) ∈ lw_g := gwc_8 115 rfl rfl
theorem wd1921 : (Jvm.Cond.code ({ cls := "QuorumGateModel", name := "sent", desc := "(I)I" } : Jvm.MethodName) prog_12_method_113_code (2 : Nat) (Option.some Jvm.ClassFile.FieldType.int)) ∈ lw_g := gwc_8 116 rfl rfl
theorem wd1922 : (Jvm.Cond.methodLink "QuorumGateModel" (295 : Nat) ({ cls := "QuorumGateModel", name := "sentAll", desc := "()I" } : Jvm.MethodName)) ∈ lw_g := gwc_8 117 rfl rfl
theorem wd1924 : (Jvm.Cond.instanceMethod ({ cls := "QuorumGateModel", name := "sentAll", desc := "()I" } : Jvm.MethodName)) ∈ lw_g := gwc_8 119 rfl rfl
theorem wd1925 : (Jvm.Cond.code ({ cls := "QuorumGateModel", name := "sentAll", desc := "()I" } : Jvm.MethodName) prog_12_method_112_code (3 : Nat) (Option.some Jvm.ClassFile.FieldType.int)) ∈ lw_g := gwc_8 120 rfl rfl
theorem wd1926 : (Jvm.Cond.methodLink "QuorumGateLaw" (158 : Nat) ({ cls := "QuorumGateModel", name := "book", desc := "(II)I" } : Jvm.MethodName)) ∈ lw_g := gwc_8 121 rfl rfl
theorem wd1927 : (Jvm.Cond.instanceMethod ({ cls := "QuorumGateModel", name := "book", desc := "(II)I" } : Jvm.MethodName)) ∈ lw_g := gwc_8 122 rfl rfl
theorem wd1928 : (Jvm.Cond.selects "QuorumGateModel" ({ cls := "QuorumGateModel", name := "book", desc := "(II)I" } : Jvm.MethodName) ({ cls := "QuorumGateModel", name := "book", desc := "(II)I" } : Jvm.MethodName)) ∈ lw_g := gwc_8 123 rfl rfl
theorem wd1929 : (Jvm.Cond.code ({ cls := "QuorumGateModel", name := "book", desc := "(II)I" } : Jvm.MethodName) prog_12_method_114_code (3 : Nat) (Option.some Jvm.ClassFile.FieldType.int)) ∈ lw_g := gwc_8 124 rfl rfl
theorem wd1930 : (Jvm.Cond.methodLink "QuorumGateLaw" (174 : Nat) ({ cls := "QuorumGateModel", name := "trace", desc := "(II)I" } : Jvm.MethodName)) ∈ lw_g := gwc_8 125 rfl rfl
theorem wd1931 : (Jvm.Cond.instanceMethod ({ cls := "QuorumGateModel", name := "trace", desc := "(II)I" } : Jvm.MethodName)) ∈ lw_g := gwc_8 126 rfl rfl
theorem wd1932 : (Jvm.Cond.selects "QuorumGateModel" ({ cls := "QuorumGateModel", name := "trace", desc := "(II)I" } : Jvm.MethodName) ({ cls := "QuorumGateModel", name := "trace", desc := "(II)I" } : Jvm.MethodName)) ∈ lw_g := gwc_8 127 rfl rfl
theorem wd1933 : (Jvm.Cond.code ({ cls := "QuorumGateModel", name := "trace", desc := "(II)I" } : Jvm.MethodName) prog_12_method_115_code (3 : Nat) (Option.some Jvm.ClassFile.FieldType.int)) ∈ lw_g := gwc_8 128 rfl rfl
theorem wd1934 : (Jvm.Cond.methodLink "QuorumGateLaw" (178 : Nat) ({ cls := "QuorumGateModel", name := "goOn", desc := "(II)I" } : Jvm.MethodName)) ∈ lw_g := gwc_8 129 rfl rfl
theorem wd1935 : (Jvm.Cond.instanceMethod ({ cls := "QuorumGateModel", name := "goOn", desc := "(II)I" } : Jvm.MethodName)) ∈ lw_g := gwc_8 130 rfl rfl
theorem wd1936 : (Jvm.Cond.selects "QuorumGateModel" ({ cls := "QuorumGateModel", name := "goOn", desc := "(II)I" } : Jvm.MethodName) ({ cls := "QuorumGateModel", name := "goOn", desc := "(II)I" } : Jvm.MethodName)) ∈ lw_g := gwc_8 131 rfl rfl
theorem wd1937 : (Jvm.Cond.code ({ cls := "QuorumGateModel", name := "goOn", desc := "(II)I" } : Jvm.MethodName) prog_12_method_118_code (4 : Nat) (Option.some Jvm.ClassFile.FieldType.int)) ∈ lw_g := gwc_8 132 rfl rfl
theorem wd1938 : (Jvm.Cond.methodLink "QuorumGateModel" (316 : Nat) ({ cls := "QuorumGateModel", name := "goOnce", desc := "()Z" } : Jvm.MethodName)) ∈ lw_g := gwc_8 133 rfl rfl
theorem wd1940 : (Jvm.Cond.instanceMethod ({ cls := "QuorumGateModel", name := "goOnce", desc := "()Z" } : Jvm.MethodName)) ∈ lw_g := gwc_8 135 rfl rfl
theorem wd1941 : (Jvm.Cond.code ({ cls := "QuorumGateModel", name := "goOnce", desc := "()Z" } : Jvm.MethodName) prog_12_method_117_code (1 : Nat) (Option.some Jvm.ClassFile.FieldType.boolean)) ∈ lw_g := gwc_8 136 rfl rfl
theorem wd1942 : (Jvm.Cond.methodLink "QuorumGateModel" (310 : Nat) ({ cls := "QuorumGateModel", name := "draw", desc := "(I)I" } : Jvm.MethodName)) ∈ lw_g := gwc_8 137 rfl rfl
theorem wd1944 : (Jvm.Cond.instanceMethod ({ cls := "QuorumGateModel", name := "draw", desc := "(I)I" } : Jvm.MethodName)) ∈ lw_g := gwc_8 139 rfl rfl
theorem wd1945 : (Jvm.Cond.code ({ cls := "QuorumGateModel", name := "draw", desc := "(I)I" } : Jvm.MethodName) prog_12_method_116_code (2 : Nat) (Option.some Jvm.ClassFile.FieldType.int)) ∈ lw_g := gwc_8 140 rfl rfl
theorem wd1946 : (Jvm.Cond.constantLong "QuorumGateModel" (302 : Nat) (1103515245 : Int64)) ∈ lw_g := gwc_8 141 rfl rfl
theorem wd1947 : (Jvm.Cond.constantLong "QuorumGateModel" (304 : Nat) (12345 : Int64)) ∈ lw_g := gwc_8 142 rfl rfl
theorem wd1948 : (Jvm.Cond.constantLong "QuorumGateModel" (306 : Nat) (2147483648 : Int64)) ∈ lw_g := gwc_8 143 rfl rfl
theorem wd1949 : (Jvm.Cond.constantLong "QuorumGateModel" (308 : Nat) (65536 : Int64)) ∈ lw_g := gwc_8 144 rfl rfl
theorem wd1950 : (Jvm.Cond.methodLink "QuorumGateModel" (313 : Nat) ({ cls := "QuorumGateModel", name := "doMove", desc := "(I)V" } : Jvm.MethodName)) ∈ lw_g := gwc_8 145 rfl rfl
theorem wd1952 : (Jvm.Cond.instanceMethod ({ cls := "QuorumGateModel", name := "doMove", desc := "(I)V" } : Jvm.MethodName)) ∈ lw_g := gwc_8 147 rfl rfl
theorem wd1953 : (Jvm.Cond.code ({ cls := "QuorumGateModel", name := "doMove", desc := "(I)V" } : Jvm.MethodName) prog_12_method_102_code (2 : Nat) (Option.none : Option Jvm.ClassFile.FieldType)) ∈ lw_g := gwc_8 148 rfl rfl
theorem wd1954 : (Jvm.Cond.methodLink "QuorumGateModel" (277 : Nat) ({ cls := "QuorumGateModel", name := "takeFirst", desc := "(I)V" } : Jvm.MethodName)) ∈ lw_g := gwc_8 149 rfl rfl
theorem wd1956 : (Jvm.Cond.instanceMethod ({ cls := "QuorumGateModel", name := "takeFirst", desc := "(I)V" } : Jvm.MethodName)) ∈ lw_g := gwc_8 151 rfl rfl
theorem wd1957 : (Jvm.Cond.code ({ cls := "QuorumGateModel", name := "takeFirst", desc := "(I)V" } : Jvm.MethodName) prog_12_method_103_code (3 : Nat) (Option.none : Option Jvm.ClassFile.FieldType)) ∈ lw_g := gwc_8 152 rfl rfl
theorem wd1958 : (Jvm.Cond.methodLink "QuorumGateLaw" (182 : Nat) ({ cls := "QuorumGateModel", name := "entersBy", desc := "(II)I" } : Jvm.MethodName)) ∈ lw_g := gwc_8 153 rfl rfl
theorem wd1959 : (Jvm.Cond.instanceMethod ({ cls := "QuorumGateModel", name := "entersBy", desc := "(II)I" } : Jvm.MethodName)) ∈ lw_g := gwc_8 154 rfl rfl
theorem wd1960 : (Jvm.Cond.selects "QuorumGateModel" ({ cls := "QuorumGateModel", name := "entersBy", desc := "(II)I" } : Jvm.MethodName) ({ cls := "QuorumGateModel", name := "entersBy", desc := "(II)I" } : Jvm.MethodName)) ∈ lw_g := gwc_8 155 rfl rfl
theorem wd1961 : (Jvm.Cond.code ({ cls := "QuorumGateModel", name := "entersBy", desc := "(II)I" } : Jvm.MethodName) prog_12_method_121_code (5 : Nat) (Option.some Jvm.ClassFile.FieldType.int)) ∈ lw_g := gwc_8 156 rfl rfl
theorem wd1962 : (Jvm.Cond.methodLink "QuorumGateModel" (320 : Nat) ({ cls := "QuorumGateModel", name := "putAside", desc := "()V" } : Jvm.MethodName)) ∈ lw_g := gwc_8 157 rfl rfl
theorem wd1964 : (Jvm.Cond.instanceMethod ({ cls := "QuorumGateModel", name := "putAside", desc := "()V" } : Jvm.MethodName)) ∈ lw_g := gwc_8 159 rfl rfl
theorem wd1965 : (Jvm.Cond.code ({ cls := "QuorumGateModel", name := "putAside", desc := "()V" } : Jvm.MethodName) prog_12_method_119_code (2 : Nat) (Option.none : Option Jvm.ClassFile.FieldType)) ∈ lw_g := gwc_8 160 rfl rfl
theorem wd1966 : (Jvm.Cond.methodLink "QuorumGateModel" (323 : Nat) ({ cls := "QuorumGateModel", name := "bringBack", desc := "()V" } : Jvm.MethodName)) ∈ lw_g := gwc_8 161 rfl rfl
theorem wd1968 : (Jvm.Cond.instanceMethod ({ cls := "QuorumGateModel", name := "bringBack", desc := "()V" } : Jvm.MethodName)) ∈ lw_g := gwc_8 163 rfl rfl
theorem wd1969 : (Jvm.Cond.code ({ cls := "QuorumGateModel", name := "bringBack", desc := "()V" } : Jvm.MethodName) prog_12_method_120_code (2 : Nat) (Option.none : Option Jvm.ClassFile.FieldType)) ∈ lw_g := gwc_8 164 rfl rfl
theorem wd1970 : (Jvm.Cond.methodLink "QuorumGateLaw" (207 : Nat) ({ cls := "QuorumGateModel", name := "crowd", desc := "(III)I" } : Jvm.MethodName)) ∈ lw_g := gwc_8 165 rfl rfl
theorem wd1971 : (Jvm.Cond.instanceMethod ({ cls := "QuorumGateModel", name := "crowd", desc := "(III)I" } : Jvm.MethodName)) ∈ lw_g := gwc_8 166 rfl rfl
theorem wd1972 : (Jvm.Cond.selects "QuorumGateModel" ({ cls := "QuorumGateModel", name := "crowd", desc := "(III)I" } : Jvm.MethodName) ({ cls := "QuorumGateModel", name := "crowd", desc := "(III)I" } : Jvm.MethodName)) ∈ lw_g := gwc_8 167 rfl rfl
theorem wd1973 : (Jvm.Cond.code ({ cls := "QuorumGateModel", name := "crowd", desc := "(III)I" } : Jvm.MethodName) prog_12_method_124_code (9 : Nat) (Option.some Jvm.ClassFile.FieldType.int)) ∈ lw_g := gwc_8 168 rfl rfl
theorem wd1974 : (Jvm.Cond.methodLink "QuorumGateModel" (326 : Nat) ({ cls := "QuorumGateModel", name := "askAll", desc := "()V" } : Jvm.MethodName)) ∈ lw_g := gwc_8 169 rfl rfl
theorem wd1976 : (Jvm.Cond.instanceMethod ({ cls := "QuorumGateModel", name := "askAll", desc := "()V" } : Jvm.MethodName)) ∈ lw_g := gwc_8 171 rfl rfl
theorem wd1977 : (Jvm.Cond.code ({ cls := "QuorumGateModel", name := "askAll", desc := "()V" } : Jvm.MethodName) prog_12_method_122_code (2 : Nat) (Option.none : Option Jvm.ClassFile.FieldType)) ∈ lw_g := gwc_8 172 rfl rfl
theorem wd1978 : (Jvm.Cond.methodLink "QuorumGateModel" (329 : Nat) ({ cls := "QuorumGateModel", name := "crowdTold", desc := "(IIII)I" } : Jvm.MethodName)) ∈ lw_g := gwc_8 173 rfl rfl
theorem wd1980 : (Jvm.Cond.instanceMethod ({ cls := "QuorumGateModel", name := "crowdTold", desc := "(IIII)I" } : Jvm.MethodName)) ∈ lw_g := gwc_8 175 rfl rfl
theorem wd1981 : (Jvm.Cond.code ({ cls := "QuorumGateModel", name := "crowdTold", desc := "(IIII)I" } : Jvm.MethodName) prog_12_method_123_code (9 : Nat) (Option.some Jvm.ClassFile.FieldType.int)) ∈ lw_g := gwc_8 176 rfl rfl
theorem wd1982 : (Jvm.Cond.methodLink "QuorumGateLaw" (186 : Nat) ({ cls := "QuorumGateModel", name := "searched", desc := "(II)I" } : Jvm.MethodName)) ∈ lw_g := gwc_8 177 rfl rfl
theorem wd1983 : (Jvm.Cond.instanceMethod ({ cls := "QuorumGateModel", name := "searched", desc := "(II)I" } : Jvm.MethodName)) ∈ lw_g := gwc_8 178 rfl rfl
theorem wd1984 : (Jvm.Cond.selects "QuorumGateModel" ({ cls := "QuorumGateModel", name := "searched", desc := "(II)I" } : Jvm.MethodName) ({ cls := "QuorumGateModel", name := "searched", desc := "(II)I" } : Jvm.MethodName)) ∈ lw_g := gwc_8 179 rfl rfl
theorem wd1985 : (Jvm.Cond.code ({ cls := "QuorumGateModel", name := "searched", desc := "(II)I" } : Jvm.MethodName) prog_12_method_132_code (3 : Nat) (Option.some Jvm.ClassFile.FieldType.int)) ∈ lw_g := gwc_8 180 rfl rfl
theorem wd1986 : (Jvm.Cond.methodLink "QuorumGateModel" (369 : Nat) ({ cls := "QuorumGateModel", name := "searchedBy", desc := "(III)I" } : Jvm.MethodName)) ∈ lw_g := gwc_8 181 rfl rfl
theorem wd1987 : (Jvm.Cond.instanceMethod ({ cls := "QuorumGateModel", name := "searchedBy", desc := "(III)I" } : Jvm.MethodName)) ∈ lw_g := gwc_8 182 rfl rfl
theorem wd1988 : (Jvm.Cond.selects "QuorumGateModel" ({ cls := "QuorumGateModel", name := "searchedBy", desc := "(III)I" } : Jvm.MethodName) ({ cls := "QuorumGateModel", name := "searchedBy", desc := "(III)I" } : Jvm.MethodName)) ∈ lw_g := gwc_8 183 rfl rfl
theorem wd1989 : (Jvm.Cond.code ({ cls := "QuorumGateModel", name := "searchedBy", desc := "(III)I" } : Jvm.MethodName) prog_12_method_133_code (4 : Nat) (Option.some Jvm.ClassFile.FieldType.int)) ∈ lw_g := gwc_8 184 rfl rfl
theorem wd1990 : (Jvm.Cond.methodLink "QuorumGateModel" (372 : Nat) ({ cls := "QuorumGateModel", name := "search", desc := "(II)V" } : Jvm.MethodName)) ∈ lw_g := gwc_8 185 rfl rfl
theorem wd1992 : (Jvm.Cond.instanceMethod ({ cls := "QuorumGateModel", name := "search", desc := "(II)V" } : Jvm.MethodName)) ∈ lw_g := gwc_8 187 rfl rfl
theorem wd1993 : (Jvm.Cond.code ({ cls := "QuorumGateModel", name := "search", desc := "(II)V" } : Jvm.MethodName) prog_12_method_131_code (6 : Nat) (Option.none : Option Jvm.ClassFile.FieldType)) ∈ lw_g := gwc_8 188 rfl rfl
theorem wd1994 : (Jvm.Cond.methodLink "QuorumGateModel" (360 : Nat) ({ cls := "QuorumGateModel", name := "meet", desc := "(II)V" } : Jvm.MethodName)) ∈ lw_g := gwc_8 189 rfl rfl
theorem wd1996 : (Jvm.Cond.instanceMethod ({ cls := "QuorumGateModel", name := "meet", desc := "(II)V" } : Jvm.MethodName)) ∈ lw_g := gwc_8 191 rfl rfl
theorem wd1997 : (Jvm.Cond.code ({ cls := "QuorumGateModel", name := "meet", desc := "(II)V" } : Jvm.MethodName) prog_12_method_129_code (4 : Nat) (Option.none : Option Jvm.ClassFile.FieldType)) ∈ lw_g := gwc_8 192 rfl rfl
theorem wd1998 : (Jvm.Cond.methodLink "QuorumGateModel" (338 : Nat) ({ cls := "QuorumGateModel", name := "isState", desc := "(I)Z" } : Jvm.MethodName)) ∈ lw_g := gwc_8 193 rfl rfl
theorem wd2000 : (Jvm.Cond.instanceMethod ({ cls := "QuorumGateModel", name := "isState", desc := "(I)Z" } : Jvm.MethodName)) ∈ lw_g := gwc_8 195 rfl rfl
theorem wd2001 : (Jvm.Cond.code ({ cls := "QuorumGateModel", name := "isState", desc := "(I)Z" } : Jvm.MethodName) prog_12_method_128_code (4 : Nat) (Option.some Jvm.ClassFile.FieldType.boolean)) ∈ lw_g := gwc_8 196 rfl rfl
theorem wd2002 : (Jvm.Cond.methodLink "QuorumGateModel" (332 : Nat) ({ cls := "QuorumGateModel", name := "sizeNow", desc := "()I" } : Jvm.MethodName)) ∈ lw_g := gwc_8 197 rfl rfl
theorem wd2004 : (Jvm.Cond.instanceMethod ({ cls := "QuorumGateModel", name := "sizeNow", desc := "()I" } : Jvm.MethodName)) ∈ lw_g := gwc_8 199 rfl rfl
theorem wd2005 : (Jvm.Cond.code ({ cls := "QuorumGateModel", name := "sizeNow", desc := "()I" } : Jvm.MethodName) prog_12_method_125_code (1 : Nat) (Option.some Jvm.ClassFile.FieldType.int)) ∈ lw_g := gwc_8 200 rfl rfl
theorem wd2006 : (Jvm.Cond.methodLink "QuorumGateModel" (345 : Nat) ({ cls := "QuorumGateModel", name := "keepState", desc := "(I)V" } : Jvm.MethodName)) ∈ lw_g := gwc_8 201 rfl rfl
theorem wd2008 : (Jvm.Cond.instanceMethod ({ cls := "QuorumGateModel", name := "keepState", desc := "(I)V" } : Jvm.MethodName)) ∈ lw_g := gwc_8 203 rfl rfl
theorem wd2009 : (Jvm.Cond.code ({ cls := "QuorumGateModel", name := "keepState", desc := "(I)V" } : Jvm.MethodName) prog_12_method_126_code (4 : Nat) (Option.none : Option Jvm.ClassFile.FieldType)) ∈ lw_g := gwc_8 204 rfl rfl
theorem wd2010 : (Jvm.Cond.methodLink "QuorumGateModel" (363 : Nat) ({ cls := "QuorumGateModel", name := "laysState", desc := "(I)V" } : Jvm.MethodName)) ∈ lw_g := gwc_8 205 rfl rfl
theorem wd2012 : (Jvm.Cond.instanceMethod ({ cls := "QuorumGateModel", name := "laysState", desc := "(I)V" } : Jvm.MethodName)) ∈ lw_g := gwc_8 207 rfl rfl
theorem wd2013 : (Jvm.Cond.code ({ cls := "QuorumGateModel", name := "laysState", desc := "(I)V" } : Jvm.MethodName) prog_12_method_127_code (4 : Nat) (Option.none : Option Jvm.ClassFile.FieldType)) ∈ lw_g := gwc_8 208 rfl rfl
theorem wd2014 : (Jvm.Cond.methodLink "QuorumGateModel" (366 : Nat) ({ cls := "QuorumGateModel", name := "look", desc := "(II)V" } : Jvm.MethodName)) ∈ lw_g := gwc_8 209 rfl rfl
theorem wd2016 : (Jvm.Cond.instanceMethod ({ cls := "QuorumGateModel", name := "look", desc := "(II)V" } : Jvm.MethodName)) ∈ lw_g := gwc_8 211 rfl rfl
theorem wd2017 : (Jvm.Cond.code ({ cls := "QuorumGateModel", name := "look", desc := "(II)V" } : Jvm.MethodName) prog_12_method_130_code (3 : Nat) (Option.none : Option Jvm.ClassFile.FieldType)) ∈ lw_g := gwc_8 212 rfl rfl
theorem wd2018 : (Jvm.Cond.methodLink "QuorumGateLaw" (190 : Nat) ({ cls := "QuorumGateModel", name := "searchedBy", desc := "(III)I" } : Jvm.MethodName)) ∈ lw_g := gwc_8 213 rfl rfl
theorem wd2019 : (Jvm.Cond.methodLink "QuorumGateLaw" (203 : Nat) ({ cls := "QuorumGateModel", name := "soonest", desc := "(II)I" } : Jvm.MethodName)) ∈ lw_g := gwc_8 214 rfl rfl
theorem wd2020 : (Jvm.Cond.instanceMethod ({ cls := "QuorumGateModel", name := "soonest", desc := "(II)I" } : Jvm.MethodName)) ∈ lw_g := gwc_8 215 rfl rfl
theorem wd2021 : (Jvm.Cond.selects "QuorumGateModel" ({ cls := "QuorumGateModel", name := "soonest", desc := "(II)I" } : Jvm.MethodName) ({ cls := "QuorumGateModel", name := "soonest", desc := "(II)I" } : Jvm.MethodName)) ∈ lw_g := gwc_8 216 rfl rfl
theorem wd2022 : (Jvm.Cond.code ({ cls := "QuorumGateModel", name := "soonest", desc := "(II)I" } : Jvm.MethodName) prog_12_method_134_code (3 : Nat) (Option.some Jvm.ClassFile.FieldType.int)) ∈ lw_g := gwc_8 217 rfl rfl
theorem wd2023 : (Jvm.Cond.methodLink "QuorumGateLaw" (195 : Nat) ({ cls := "QuorumGateModel", name := "delay", desc := "(III)Z" } : Jvm.MethodName)) ∈ lw_g := gwc_8 218 rfl rfl
theorem wd2024 : (Jvm.Cond.instanceMethod ({ cls := "QuorumGateModel", name := "delay", desc := "(III)Z" } : Jvm.MethodName)) ∈ lw_g := gwc_8 219 rfl rfl
theorem wd2025 : (Jvm.Cond.selects "QuorumGateModel" ({ cls := "QuorumGateModel", name := "delay", desc := "(III)Z" } : Jvm.MethodName) ({ cls := "QuorumGateModel", name := "delay", desc := "(III)Z" } : Jvm.MethodName)) ∈ lw_g := gwc_8 220 rfl rfl
theorem wd2026 : (Jvm.Cond.code ({ cls := "QuorumGateModel", name := "delay", desc := "(III)Z" } : Jvm.MethodName) prog_12_method_135_code (4 : Nat) (Option.some Jvm.ClassFile.FieldType.boolean)) ∈ lw_g := gwc_8 221 rfl rfl
theorem wd2027 : (Jvm.Cond.methodLink "QuorumGateLaw" (199 : Nat) ({ cls := "QuorumGateModel", name := "timed", desc := "(III)I" } : Jvm.MethodName)) ∈ lw_g := gwc_8 222 rfl rfl
theorem wd2028 : (Jvm.Cond.instanceMethod ({ cls := "QuorumGateModel", name := "timed", desc := "(III)I" } : Jvm.MethodName)) ∈ lw_g := gwc_8 223 rfl rfl
theorem wd2029 : (Jvm.Cond.selects "QuorumGateModel" ({ cls := "QuorumGateModel", name := "timed", desc := "(III)I" } : Jvm.MethodName) ({ cls := "QuorumGateModel", name := "timed", desc := "(III)I" } : Jvm.MethodName)) ∈ lw_g := gwc_8 224 rfl rfl
theorem wd2030 : (Jvm.Cond.code ({ cls := "QuorumGateModel", name := "timed", desc := "(III)I" } : Jvm.MethodName) prog_12_method_139_code (4 : Nat) (Option.some Jvm.ClassFile.FieldType.int)) ∈ lw_g := gwc_8 225 rfl rfl
theorem wd2031 : (Jvm.Cond.methodLink "QuorumGateModel" (396 : Nat) ({ cls := "QuorumGateModel", name := "goClock", desc := "(II)V" } : Jvm.MethodName)) ∈ lw_g := gwc_8 226 rfl rfl
theorem wd2033 : (Jvm.Cond.instanceMethod ({ cls := "QuorumGateModel", name := "goClock", desc := "(II)V" } : Jvm.MethodName)) ∈ lw_g := gwc_8 228 rfl rfl
theorem wd2034 : (Jvm.Cond.code ({ cls := "QuorumGateModel", name := "goClock", desc := "(II)V" } : Jvm.MethodName) prog_12_method_138_code (5 : Nat) (Option.none : Option Jvm.ClassFile.FieldType)) ∈ lw_g := gwc_8 229 rfl rfl
theorem wd2035 : (Jvm.Cond.methodLink "QuorumGateModel" (390 : Nat) ({ cls := "QuorumGateModel", name := "goTime", desc := "(II)V" } : Jvm.MethodName)) ∈ lw_g := gwc_8 230 rfl rfl
theorem wd2037 : (Jvm.Cond.instanceMethod ({ cls := "QuorumGateModel", name := "goTime", desc := "(II)V" } : Jvm.MethodName)) ∈ lw_g := gwc_8 232 rfl rfl
theorem wd2038 : (Jvm.Cond.code ({ cls := "QuorumGateModel", name := "goTime", desc := "(II)V" } : Jvm.MethodName) prog_12_method_137_code (7 : Nat) (Option.none : Option Jvm.ClassFile.FieldType)) ∈ lw_g := gwc_8 233 rfl rfl
theorem wd2039 : (Jvm.Cond.methodLink "QuorumGateModel" (375 : Nat) ({ cls := "QuorumGateModel", name := "dueLetter", desc := "()I" } : Jvm.MethodName)) ∈ lw_g := gwc_8 234 rfl rfl
theorem wd2041 : (Jvm.Cond.instanceMethod ({ cls := "QuorumGateModel", name := "dueLetter", desc := "()I" } : Jvm.MethodName)) ∈ lw_g := gwc_8 236 rfl rfl
theorem wd2042 : (Jvm.Cond.code ({ cls := "QuorumGateModel", name := "dueLetter", desc := "()I" } : Jvm.MethodName) prog_12_method_136_code (5 : Nat) (Option.some Jvm.ClassFile.FieldType.int)) ∈ lw_g := gwc_8 237 rfl rfl
theorem wd2043 : (Jvm.Cond.methodLink "QuorumGateLaw" (211 : Nat) ({ cls := "QuorumGateModel", name := "mean", desc := "()I" } : Jvm.MethodName)) ∈ lw_g := gwc_8 238 rfl rfl
theorem wd2044 : (Jvm.Cond.instanceMethod ({ cls := "QuorumGateModel", name := "mean", desc := "()I" } : Jvm.MethodName)) ∈ lw_g := gwc_8 239 rfl rfl
theorem wd2045 : (Jvm.Cond.selects "QuorumGateModel" ({ cls := "QuorumGateModel", name := "mean", desc := "()I" } : Jvm.MethodName) ({ cls := "QuorumGateModel", name := "mean", desc := "()I" } : Jvm.MethodName)) ∈ lw_g := gwc_9 0 rfl rfl
theorem wd2046 : (Jvm.Cond.code ({ cls := "QuorumGateModel", name := "mean", desc := "()I" } : Jvm.MethodName) prog_12_method_140_code (1 : Nat) (Option.some Jvm.ClassFile.FieldType.int)) ∈ lw_g := gwc_9 1 rfl rfl
theorem wd2057 : (Jvm.Cond.methodLink "QuorumGateLaw" (216 : Nat) ({ cls := "QuorumGateModel", name := "byRoot", desc := "()J" } : Jvm.MethodName)) ∈ lw_g := gwc_9 12 rfl rfl
theorem wd2058 : (Jvm.Cond.instanceMethod ({ cls := "QuorumGateModel", name := "byRoot", desc := "()J" } : Jvm.MethodName)) ∈ lw_g := gwc_9 13 rfl rfl
theorem wd2059 : (Jvm.Cond.selects "QuorumGateModel" ({ cls := "QuorumGateModel", name := "byRoot", desc := "()J" } : Jvm.MethodName) ({ cls := "QuorumGateModel", name := "byRoot", desc := "()J" } : Jvm.MethodName)) ∈ lw_g := gwc_9 14 rfl rfl
theorem wd2060 : (Jvm.Cond.code ({ cls := "QuorumGateModel", name := "byRoot", desc := "()J" } : Jvm.MethodName) prog_12_method_141_code (2 : Nat) (Option.some Jvm.ClassFile.FieldType.long)) ∈ lw_g := gwc_9 15 rfl rfl
theorem ns_0 : (Jvm.Cond.methodLinkNest "QuorumGate" (9 : Nat) ({ cls := "QuorumGate$Sets", name := "<init>", desc := "()V" } : Jvm.MethodName) "QuorumGate") ∈ lw_nst := List.mem_of_getElem? (i := 0) rfl
theorem ns_1 : (Jvm.Cond.methodLinkNest "QuorumGate" (18 : Nat) ({ cls := "QuorumGate$Survey", name := "<init>", desc := "()V" } : Jvm.MethodName) "QuorumGate") ∈ lw_nst := List.mem_of_getElem? (i := 1) rfl
theorem ns_2 : (Jvm.Cond.methodLinkNest "QuorumGate$Survey" (11 : Nat) ({ cls := "QuorumGate$Family", name := "<init>", desc := "()V" } : Jvm.MethodName) "QuorumGate") ∈ lw_nst := List.mem_of_getElem? (i := 2) rfl
theorem ns_3 : (Jvm.Cond.methodLinkNest "QuorumGate$Hall" (11 : Nat) ({ cls := "QuorumGate$Post", name := "<init>", desc := "()V" } : Jvm.MethodName) "QuorumGate") ∈ lw_nst := List.mem_of_getElem? (i := 3) rfl
theorem ns_4 : (Jvm.Cond.methodLinkNest "QuorumGate$Hall" (47 : Nat) ({ cls := "QuorumGate$Place", name := "<init>", desc := "()V" } : Jvm.MethodName) "QuorumGate") ∈ lw_nst := List.mem_of_getElem? (i := 4) rfl
theorem ns_5 : (Jvm.Cond.methodLinkNest "QuorumGate" (37 : Nat) ({ cls := "QuorumGate$Clockwork", name := "<init>", desc := "()V" } : Jvm.MethodName) "QuorumGate") ∈ lw_nst := List.mem_of_getElem? (i := 5) rfl
theorem ns_6 : (Jvm.Cond.methodLinkNest "QuorumGate$Sets" (60 : Nat) ({ cls := "QuorumGate", name := "has", desc := "(II)Z" } : Jvm.MethodName) "QuorumGate") ∈ lw_nst := List.mem_of_getElem? (i := 6) rfl
theorem ns_7 : (Jvm.Cond.methodLinkNest "QuorumGate$Family" (46 : Nat) ({ cls := "QuorumGate", name := "lowest", desc := "(J)I" } : Jvm.MethodName) "QuorumGate") ∈ lw_nst := List.mem_of_getElem? (i := 7) rfl
theorem ns_8 : (Jvm.Cond.methodLinkNest "QuorumGate$Hall" (108 : Nat) ({ cls := "QuorumGate", name := "has", desc := "(II)Z" } : Jvm.MethodName) "QuorumGate") ∈ lw_nst := List.mem_of_getElem? (i := 8) rfl
theorem ns_9 : (Jvm.Cond.methodLinkNest "QuorumGate$Place" (77 : Nat) ({ cls := "QuorumGate", name := "has", desc := "(II)Z" } : Jvm.MethodName) "QuorumGate") ∈ lw_nst := List.mem_of_getElem? (i := 9) rfl
theorem ns_10 : (Jvm.Cond.methodLinkNest "QuorumGate$Place" (81 : Nat) ({ cls := "QuorumGate", name := "isAhead", desc := "(IIII)Z" } : Jvm.MethodName) "QuorumGate") ∈ lw_nst := List.mem_of_getElem? (i := 10) rfl
theorem ns_11 : (Jvm.Cond.methodLinkNest "QuorumGate$Hall" (280 : Nat) ({ cls := "QuorumGate", name := "isAhead", desc := "(IIII)Z" } : Jvm.MethodName) "QuorumGate") ∈ lw_nst := List.mem_of_getElem? (i := 11) rfl
theorem ns_12 : (Jvm.Cond.methodLinkNest "QuorumGate$Hall" (290 : Nat) ({ cls := "QuorumGate", name := "memberAt", desc := "(II)I" } : Jvm.MethodName) "QuorumGate") ∈ lw_nst := List.mem_of_getElem? (i := 12) rfl
theorem ns_13 : (Jvm.Cond.methodLinkNest "QuorumGate$Search" (120 : Nat) ({ cls := "QuorumGate", name := "has", desc := "(II)Z" } : Jvm.MethodName) "QuorumGate") ∈ lw_nst := List.mem_of_getElem? (i := 13) rfl
theorem ns_14 : (Jvm.Cond.methodLinkNest "QuorumGate$Search" (68 : Nat) ({ cls := "QuorumGate", name := "memberAt", desc := "(II)I" } : Jvm.MethodName) "QuorumGate") ∈ lw_nst := List.mem_of_getElem? (i := 14) rfl
theorem ns_15 : (Jvm.Cond.methodLinkNest "QuorumGate$Clockwork" (74 : Nat) ({ cls := "QuorumGate", name := "has", desc := "(II)Z" } : Jvm.MethodName) "QuorumGate") ∈ lw_nst := List.mem_of_getElem? (i := 15) rfl
