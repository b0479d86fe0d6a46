section
/-- a private method of a class that the tables say can be made, by its rows of tables_1 -/
def lw_okq (q : MethodName × Nat) : Prop := (q.1.cls ≠ "java/lang/invoke/MethodHandle" ∧ q.1.cls ≠ "java/lang/invoke/VarHandle") ∧ Cond.instantiable q.1.cls q.2 ∈ tables_1 ∧ Cond.privateMethod q.1 ∈ tables_1 ∧ Cond.instanceMethod q.1 ∈ tables_1
theorem lw_p0 : lw_okq (⟨"SensorHub$Hub", "clientRoom", "(I)LSensorHub$Client;"⟩, 11) := ⟨⟨by decide +kernel, by decide +kernel⟩, List.mem_of_getElem? (i := 25) (by decide +kernel), List.mem_of_getElem? (i := 211) (by decide +kernel), List.mem_of_getElem? (i := 212) (by decide +kernel)⟩
theorem lw_p1 : lw_okq (⟨"SensorHub$Hub", "sensorRoom", "(I)LSensorHub$Sensor;"⟩, 11) := ⟨⟨by decide +kernel, by decide +kernel⟩, List.mem_of_getElem? (i := 25) (by decide +kernel), List.mem_of_getElem? (i := 360) (by decide +kernel), List.mem_of_getElem? (i := 361) (by decide +kernel)⟩
theorem lw_p2 : lw_okq (⟨"SensorHub$Hub", "settlePeriods", "()V"⟩, 11) := ⟨⟨by decide +kernel, by decide +kernel⟩, List.mem_of_getElem? (i := 25) (by decide +kernel), List.mem_of_getElem? (i := 467) (by decide +kernel), List.mem_of_getElem? (i := 468) (by decide +kernel)⟩
theorem lw_p3 : lw_okq (⟨"SensorHub$Hub", "setDemands", "()V"⟩, 11) := ⟨⟨by decide +kernel, by decide +kernel⟩, List.mem_of_getElem? (i := 25) (by decide +kernel), List.mem_of_getElem? (i := 471) (by decide +kernel), List.mem_of_getElem? (i := 472) (by decide +kernel)⟩
theorem lw_p4 : lw_okq (⟨"SensorHub$Hub", "demandAtMost", "(II)V"⟩, 11) := ⟨⟨by decide +kernel, by decide +kernel⟩, List.mem_of_getElem? (i := 25) (by decide +kernel), List.mem_of_getElem? (i := 475) (by decide +kernel), List.mem_of_getElem? (i := 476) (by decide +kernel)⟩
theorem lw_p5 : lw_okq (⟨"SensorHub$Hub", "setPeriods", "()Z"⟩, 11) := ⟨⟨by decide +kernel, by decide +kernel⟩, List.mem_of_getElem? (i := 25) (by decide +kernel), List.mem_of_getElem? (i := 483) (by decide +kernel), List.mem_of_getElem? (i := 484) (by decide +kernel)⟩
theorem lw_p6 : lw_okq (⟨"SensorHub$Hub", "periodFor", "(LSensorHub$Sensor;)I"⟩, 11) := ⟨⟨by decide +kernel, by decide +kernel⟩, List.mem_of_getElem? (i := 25) (by decide +kernel), List.mem_of_getElem? (i := 487) (by decide +kernel), List.mem_of_getElem? (i := 488) (by decide +kernel)⟩
theorem lw_p7 : lw_okq (⟨"SensorHub$Hub", "restartAll", "()V"⟩, 11) := ⟨⟨by decide +kernel, by decide +kernel⟩, List.mem_of_getElem? (i := 25) (by decide +kernel), List.mem_of_getElem? (i := 495) (by decide +kernel), List.mem_of_getElem? (i := 496) (by decide +kernel)⟩
theorem lw_p8 : lw_okq (⟨"SensorHub$Text", "nextToken", "()V"⟩, 6) := ⟨⟨by decide +kernel, by decide +kernel⟩, List.mem_of_getElem? (i := 282) (by decide +kernel), List.mem_of_getElem? (i := 549) (by decide +kernel), List.mem_of_getElem? (i := 550) (by decide +kernel)⟩
theorem lw_p9 : lw_okq (⟨"SensorHub$Text", "readItem", "(LSensorHub$Hub;)V"⟩, 6) := ⟨⟨by decide +kernel, by decide +kernel⟩, List.mem_of_getElem? (i := 282) (by decide +kernel), List.mem_of_getElem? (i := 560) (by decide +kernel), List.mem_of_getElem? (i := 561) (by decide +kernel)⟩
theorem lw_p10 : lw_okq (⟨"SensorHub$Text", "isWord", "(Ljava/lang/String;)Z"⟩, 6) := ⟨⟨by decide +kernel, by decide +kernel⟩, List.mem_of_getElem? (i := 282) (by decide +kernel), List.mem_of_getElem? (i := 565) (by decide +kernel), List.mem_of_getElem? (i := 566) (by decide +kernel)⟩
theorem lw_p11 : lw_okq (⟨"SensorHub$Text", "readPhysical", "(LSensorHub$Hub;)V"⟩, 6) := ⟨⟨by decide +kernel, by decide +kernel⟩, List.mem_of_getElem? (i := 282) (by decide +kernel), List.mem_of_getElem? (i := 617) (by decide +kernel), List.mem_of_getElem? (i := 618) (by decide +kernel)⟩
theorem lw_p12 : lw_okq (⟨"SensorHub$Text", "readNumber", "(II)I"⟩, 6) := ⟨⟨by decide +kernel, by decide +kernel⟩, List.mem_of_getElem? (i := 282) (by decide +kernel), List.mem_of_getElem? (i := 622) (by decide +kernel), List.mem_of_getElem? (i := 623) (by decide +kernel)⟩
theorem lw_p13 : lw_okq (⟨"SensorHub$Text", "numberOfToken", "()I"⟩, 6) := ⟨⟨by decide +kernel, by decide +kernel⟩, List.mem_of_getElem? (i := 282) (by decide +kernel), List.mem_of_getElem? (i := 626) (by decide +kernel), List.mem_of_getElem? (i := 627) (by decide +kernel)⟩
theorem lw_p14 : lw_okq (⟨"SensorHub$Text", "readEndOfItem", "()V"⟩, 6) := ⟨⟨by decide +kernel, by decide +kernel⟩, List.mem_of_getElem? (i := 282) (by decide +kernel), List.mem_of_getElem? (i := 631) (by decide +kernel), List.mem_of_getElem? (i := 632) (by decide +kernel)⟩
theorem lw_p15 : lw_okq (⟨"SensorHub$Text", "readComputed", "(LSensorHub$Hub;I)V"⟩, 6) := ⟨⟨by decide +kernel, by decide +kernel⟩, List.mem_of_getElem? (i := 282) (by decide +kernel), List.mem_of_getElem? (i := 637) (by decide +kernel), List.mem_of_getElem? (i := 638) (by decide +kernel)⟩
def lw_privs_1 : List (MethodName × Nat) := [(⟨"SensorHub$Hub", "clientRoom", "(I)LSensorHub$Client;"⟩, 11), (⟨"SensorHub$Hub", "sensorRoom", "(I)LSensorHub$Sensor;"⟩, 11), (⟨"SensorHub$Hub", "settlePeriods", "()V"⟩, 11), (⟨"SensorHub$Hub", "setDemands", "()V"⟩, 11), (⟨"SensorHub$Hub", "demandAtMost", "(II)V"⟩, 11), (⟨"SensorHub$Hub", "setPeriods", "()Z"⟩, 11), (⟨"SensorHub$Hub", "periodFor", "(LSensorHub$Sensor;)I"⟩, 11), (⟨"SensorHub$Hub", "restartAll", "()V"⟩, 11), (⟨"SensorHub$Text", "nextToken", "()V"⟩, 6), (⟨"SensorHub$Text", "readItem", "(LSensorHub$Hub;)V"⟩, 6), (⟨"SensorHub$Text", "isWord", "(Ljava/lang/String;)Z"⟩, 6), (⟨"SensorHub$Text", "readPhysical", "(LSensorHub$Hub;)V"⟩, 6), (⟨"SensorHub$Text", "readNumber", "(II)I"⟩, 6), (⟨"SensorHub$Text", "numberOfToken", "()I"⟩, 6), (⟨"SensorHub$Text", "readEndOfItem", "()V"⟩, 6), (⟨"SensorHub$Text", "readComputed", "(LSensorHub$Hub;I)V"⟩, 6)]
theorem lw_r1 : ∀ q ∈ lw_privs_1, lw_okq q := List.forall_mem_cons.mpr ⟨lw_p0, List.forall_mem_cons.mpr ⟨lw_p1, List.forall_mem_cons.mpr ⟨lw_p2, List.forall_mem_cons.mpr ⟨lw_p3, List.forall_mem_cons.mpr ⟨lw_p4, List.forall_mem_cons.mpr ⟨lw_p5, List.forall_mem_cons.mpr ⟨lw_p6, List.forall_mem_cons.mpr ⟨lw_p7, List.forall_mem_cons.mpr ⟨lw_p8, List.forall_mem_cons.mpr ⟨lw_p9, List.forall_mem_cons.mpr ⟨lw_p10, List.forall_mem_cons.mpr ⟨lw_p11, List.forall_mem_cons.mpr ⟨lw_p12, List.forall_mem_cons.mpr ⟨lw_p13, List.forall_mem_cons.mpr ⟨lw_p14, List.forall_mem_cons.mpr ⟨lw_p15, fun _ h => absurd h List.not_mem_nil⟩⟩⟩⟩⟩⟩⟩⟩⟩⟩⟩⟩⟩⟩⟩⟩
theorem lw_p16 : lw_okq (⟨"SensorHub$Text", "readOutage", "(LSensorHub$Hub;)V"⟩, 6) := ⟨⟨by decide +kernel, by decide +kernel⟩, List.mem_of_getElem? (i := 282) (by decide +kernel), List.mem_of_getElem? (i := 646) (by decide +kernel), List.mem_of_getElem? (i := 647) (by decide +kernel)⟩
theorem lw_p17 : lw_okq (⟨"SensorHub$Hub", "receiveSamples", "()V"⟩, 11) := ⟨⟨by decide +kernel, by decide +kernel⟩, List.mem_of_getElem? (i := 25) (by decide +kernel), List.mem_of_getElem? (i := 667) (by decide +kernel), List.mem_of_getElem? (i := 668) (by decide +kernel)⟩
theorem lw_p18 : lw_okq (⟨"SensorHub$Hub", "receiveSample", "(ILSensorHub$Sensor;)V"⟩, 11) := ⟨⟨by decide +kernel, by decide +kernel⟩, List.mem_of_getElem? (i := 25) (by decide +kernel), List.mem_of_getElem? (i := 671) (by decide +kernel), List.mem_of_getElem? (i := 672) (by decide +kernel)⟩
theorem lw_p19 : lw_okq (⟨"SensorHub$Hub", "measure", "(ILSensorHub$Sensor;)V"⟩, 11) := ⟨⟨by decide +kernel, by decide +kernel⟩, List.mem_of_getElem? (i := 25) (by decide +kernel), List.mem_of_getElem? (i := 675) (by decide +kernel), List.mem_of_getElem? (i := 676) (by decide +kernel)⟩
theorem lw_p20 : lw_okq (⟨"SensorHub$Hub", "computedValue", "(LSensorHub$Sensor;LSensorHub$Sensor;)I"⟩, 11) := ⟨⟨by decide +kernel, by decide +kernel⟩, List.mem_of_getElem? (i := 25) (by decide +kernel), List.mem_of_getElem? (i := 701) (by decide +kernel), List.mem_of_getElem? (i := 702) (by decide +kernel)⟩
theorem lw_p21 : lw_okq (⟨"SensorHub$Hub", "storeEntries", "()V"⟩, 11) := ⟨⟨by decide +kernel, by decide +kernel⟩, List.mem_of_getElem? (i := 25) (by decide +kernel), List.mem_of_getElem? (i := 711) (by decide +kernel), List.mem_of_getElem? (i := 712) (by decide +kernel)⟩
theorem lw_p22 : lw_okq (⟨"SensorHub$Hub", "storeEntry", "(ILSensorHub$Sensor;)V"⟩, 11) := ⟨⟨by decide +kernel, by decide +kernel⟩, List.mem_of_getElem? (i := 25) (by decide +kernel), List.mem_of_getElem? (i := 720) (by decide +kernel), List.mem_of_getElem? (i := 721) (by decide +kernel)⟩
theorem lw_p23 : lw_okq (⟨"SensorHub$Hub", "wakeIfDue", "()V"⟩, 11) := ⟨⟨by decide +kernel, by decide +kernel⟩, List.mem_of_getElem? (i := 25) (by decide +kernel), List.mem_of_getElem? (i := 729) (by decide +kernel), List.mem_of_getElem? (i := 730) (by decide +kernel)⟩
theorem lw_p24 : lw_okq (⟨"SensorHub$Hub", "deadlineOf", "(I)I"⟩, 11) := ⟨⟨by decide +kernel, by decide +kernel⟩, List.mem_of_getElem? (i := 25) (by decide +kernel), List.mem_of_getElem? (i := 733) (by decide +kernel), List.mem_of_getElem? (i := 734) (by decide +kernel)⟩
theorem lw_p25 : lw_okq (⟨"SensorHubModel", "empty", "()V"⟩, 16) := ⟨⟨by decide +kernel, by decide +kernel⟩, List.mem_of_getElem? (i := 814) (by decide +kernel), List.mem_of_getElem? (i := 820) (by decide +kernel), List.mem_of_getElem? (i := 821) (by decide +kernel)⟩
theorem lw_p26 : lw_okq (⟨"SensorHubModel", "keep", "()V"⟩, 16) := ⟨⟨by decide +kernel, by decide +kernel⟩, List.mem_of_getElem? (i := 814) (by decide +kernel), List.mem_of_getElem? (i := 881) (by decide +kernel), List.mem_of_getElem? (i := 882) (by decide +kernel)⟩
theorem lw_p27 : lw_okq (⟨"SensorHubModel", "addPhysical", "(IIIIII)I"⟩, 16) := ⟨⟨by decide +kernel, by decide +kernel⟩, List.mem_of_getElem? (i := 814) (by decide +kernel), List.mem_of_getElem? (i := 885) (by decide +kernel), List.mem_of_getElem? (i := 886) (by decide +kernel)⟩
theorem lw_p28 : lw_okq (⟨"SensorHubModel", "addGiven", "(IIIII)I"⟩, 16) := ⟨⟨by decide +kernel, by decide +kernel⟩, List.mem_of_getElem? (i := 814) (by decide +kernel), List.mem_of_getElem? (i := 889) (by decide +kernel), List.mem_of_getElem? (i := 890) (by decide +kernel)⟩
theorem lw_p29 : lw_okq (⟨"SensorHubModel", "isSensor", "(I)Z"⟩, 16) := ⟨⟨by decide +kernel, by decide +kernel⟩, List.mem_of_getElem? (i := 814) (by decide +kernel), List.mem_of_getElem? (i := 897) (by decide +kernel), List.mem_of_getElem? (i := 898) (by decide +kernel)⟩
theorem lw_p30 : lw_okq (⟨"SensorHubModel", "isPhysical", "(I)Z"⟩, 16) := ⟨⟨by decide +kernel, by decide +kernel⟩, List.mem_of_getElem? (i := 814) (by decide +kernel), List.mem_of_getElem? (i := 905) (by decide +kernel), List.mem_of_getElem? (i := 906) (by decide +kernel)⟩
theorem lw_p31 : lw_okq (⟨"SensorHubModel", "sensor0", "(II)I"⟩, 16) := ⟨⟨by decide +kernel, by decide +kernel⟩, List.mem_of_getElem? (i := 814) (by decide +kernel), List.mem_of_getElem? (i := 909) (by decide +kernel), List.mem_of_getElem? (i := 910) (by decide +kernel)⟩
def lw_privs_2 : List (MethodName × Nat) := [(⟨"SensorHub$Text", "readOutage", "(LSensorHub$Hub;)V"⟩, 6), (⟨"SensorHub$Hub", "receiveSamples", "()V"⟩, 11), (⟨"SensorHub$Hub", "receiveSample", "(ILSensorHub$Sensor;)V"⟩, 11), (⟨"SensorHub$Hub", "measure", "(ILSensorHub$Sensor;)V"⟩, 11), (⟨"SensorHub$Hub", "computedValue", "(LSensorHub$Sensor;LSensorHub$Sensor;)I"⟩, 11), (⟨"SensorHub$Hub", "storeEntries", "()V"⟩, 11), (⟨"SensorHub$Hub", "storeEntry", "(ILSensorHub$Sensor;)V"⟩, 11), (⟨"SensorHub$Hub", "wakeIfDue", "()V"⟩, 11), (⟨"SensorHub$Hub", "deadlineOf", "(I)I"⟩, 11), (⟨"SensorHubModel", "empty", "()V"⟩, 16), (⟨"SensorHubModel", "keep", "()V"⟩, 16), (⟨"SensorHubModel", "addPhysical", "(IIIIII)I"⟩, 16), (⟨"SensorHubModel", "addGiven", "(IIIII)I"⟩, 16), (⟨"SensorHubModel", "isSensor", "(I)Z"⟩, 16), (⟨"SensorHubModel", "isPhysical", "(I)Z"⟩, 16), (⟨"SensorHubModel", "sensor0", "(II)I"⟩, 16)]
theorem lw_r2 : ∀ q ∈ lw_privs_2, lw_okq q := List.forall_mem_cons.mpr ⟨lw_p16, List.forall_mem_cons.mpr ⟨lw_p17, List.forall_mem_cons.mpr ⟨lw_p18, List.forall_mem_cons.mpr ⟨lw_p19, List.forall_mem_cons.mpr ⟨lw_p20, List.forall_mem_cons.mpr ⟨lw_p21, List.forall_mem_cons.mpr ⟨lw_p22, List.forall_mem_cons.mpr ⟨lw_p23, List.forall_mem_cons.mpr ⟨lw_p24, List.forall_mem_cons.mpr ⟨lw_p25, List.forall_mem_cons.mpr ⟨lw_p26, List.forall_mem_cons.mpr ⟨lw_p27, List.forall_mem_cons.mpr ⟨lw_p28, List.forall_mem_cons.mpr ⟨lw_p29, List.forall_mem_cons.mpr ⟨lw_p30, List.forall_mem_cons.mpr ⟨lw_p31, fun _ h => absurd h List.not_mem_nil⟩⟩⟩⟩⟩⟩⟩⟩⟩⟩⟩⟩⟩⟩⟩⟩
theorem lw_p32 : lw_okq (⟨"SensorHubModel", "addGap", "(III)I"⟩, 16) := ⟨⟨by decide +kernel, by decide +kernel⟩, List.mem_of_getElem? (i := 814) (by decide +kernel), List.mem_of_getElem? (i := 913) (by decide +kernel), List.mem_of_getElem? (i := 914) (by decide +kernel)⟩
theorem lw_p33 : lw_okq (⟨"SensorHubModel", "canMeet", "(II)Z"⟩, 16) := ⟨⟨by decide +kernel, by decide +kernel⟩, List.mem_of_getElem? (i := 814) (by decide +kernel), List.mem_of_getElem? (i := 921) (by decide +kernel), List.mem_of_getElem? (i := 922) (by decide +kernel)⟩
theorem lw_p34 : lw_okq (⟨"SensorHubModel", "freeClient", "()I"⟩, 16) := ⟨⟨by decide +kernel, by decide +kernel⟩, List.mem_of_getElem? (i := 814) (by decide +kernel), List.mem_of_getElem? (i := 925) (by decide +kernel), List.mem_of_getElem? (i := 926) (by decide +kernel)⟩
theorem lw_p35 : lw_okq (⟨"SensorHubModel", "client0", "(II)I"⟩, 16) := ⟨⟨by decide +kernel, by decide +kernel⟩, List.mem_of_getElem? (i := 814) (by decide +kernel), List.mem_of_getElem? (i := 929) (by decide +kernel), List.mem_of_getElem? (i := 930) (by decide +kernel)⟩
theorem lw_p36 : lw_okq (⟨"SensorHubModel", "wake", "(I)I"⟩, 16) := ⟨⟨by decide +kernel, by decide +kernel⟩, List.mem_of_getElem? (i := 814) (by decide +kernel), List.mem_of_getElem? (i := 933) (by decide +kernel), List.mem_of_getElem? (i := 934) (by decide +kernel)⟩
theorem lw_p37 : lw_okq (⟨"SensorHubModel", "deliver", "(I)V"⟩, 16) := ⟨⟨by decide +kernel, by decide +kernel⟩, List.mem_of_getElem? (i := 814) (by decide +kernel), List.mem_of_getElem? (i := 937) (by decide +kernel), List.mem_of_getElem? (i := 938) (by decide +kernel)⟩
theorem lw_p38 : lw_okq (⟨"SensorHubModel", "entryPart", "(II)I"⟩, 16) := ⟨⟨by decide +kernel, by decide +kernel⟩, List.mem_of_getElem? (i := 814) (by decide +kernel), List.mem_of_getElem? (i := 941) (by decide +kernel), List.mem_of_getElem? (i := 942) (by decide +kernel)⟩
theorem lw_p39 : lw_okq (⟨"SensorHubModel", "keepPeriods", "()V"⟩, 16) := ⟨⟨by decide +kernel, by decide +kernel⟩, List.mem_of_getElem? (i := 814) (by decide +kernel), List.mem_of_getElem? (i := 945) (by decide +kernel), List.mem_of_getElem? (i := 946) (by decide +kernel)⟩
theorem lw_p40 : lw_okq (⟨"SensorHubModel", "find", "()Z"⟩, 16) := ⟨⟨by decide +kernel, by decide +kernel⟩, List.mem_of_getElem? (i := 814) (by decide +kernel), List.mem_of_getElem? (i := 949) (by decide +kernel), List.mem_of_getElem? (i := 950) (by decide +kernel)⟩
theorem lw_p41 : lw_okq (⟨"SensorHubModel", "asked", "(I)I"⟩, 16) := ⟨⟨by decide +kernel, by decide +kernel⟩, List.mem_of_getElem? (i := 814) (by decide +kernel), List.mem_of_getElem? (i := 953) (by decide +kernel), List.mem_of_getElem? (i := 954) (by decide +kernel)⟩
theorem lw_p42 : lw_okq (⟨"SensorHubModel", "source", "(I)I"⟩, 16) := ⟨⟨by decide +kernel, by decide +kernel⟩, List.mem_of_getElem? (i := 814) (by decide +kernel), List.mem_of_getElem? (i := 960) (by decide +kernel), List.mem_of_getElem? (i := 961) (by decide +kernel)⟩
theorem lw_p43 : lw_okq (⟨"SensorHubModel", "supported", "(II)I"⟩, 16) := ⟨⟨by decide +kernel, by decide +kernel⟩, List.mem_of_getElem? (i := 814) (by decide +kernel), List.mem_of_getElem? (i := 964) (by decide +kernel), List.mem_of_getElem? (i := 965) (by decide +kernel)⟩
theorem lw_p44 : lw_okq (⟨"SensorHubModel", "restartIfChanged", "()V"⟩, 16) := ⟨⟨by decide +kernel, by decide +kernel⟩, List.mem_of_getElem? (i := 814) (by decide +kernel), List.mem_of_getElem? (i := 968) (by decide +kernel), List.mem_of_getElem? (i := 969) (by decide +kernel)⟩
theorem lw_p45 : lw_okq (⟨"SensorHubModel", "isClient", "(I)Z"⟩, 16) := ⟨⟨by decide +kernel, by decide +kernel⟩, List.mem_of_getElem? (i := 814) (by decide +kernel), List.mem_of_getElem? (i := 976) (by decide +kernel), List.mem_of_getElem? (i := 977) (by decide +kernel)⟩
theorem lw_p46 : lw_okq (⟨"SensorHubModel", "hold", "()V"⟩, 16) := ⟨⟨by decide +kernel, by decide +kernel⟩, List.mem_of_getElem? (i := 814) (by decide +kernel), List.mem_of_getElem? (i := 996) (by decide +kernel), List.mem_of_getElem? (i := 997) (by decide +kernel)⟩
theorem lw_p47 : lw_okq (⟨"SensorHubModel", "read", "()V"⟩, 16) := ⟨⟨by decide +kernel, by decide +kernel⟩, List.mem_of_getElem? (i := 814) (by decide +kernel), List.mem_of_getElem? (i := 1000) (by decide +kernel), List.mem_of_getElem? (i := 1001) (by decide +kernel)⟩
def lw_privs_3 : List (MethodName × Nat) := [(⟨"SensorHubModel", "addGap", "(III)I"⟩, 16), (⟨"SensorHubModel", "canMeet", "(II)Z"⟩, 16), (⟨"SensorHubModel", "freeClient", "()I"⟩, 16), (⟨"SensorHubModel", "client0", "(II)I"⟩, 16), (⟨"SensorHubModel", "wake", "(I)I"⟩, 16), (⟨"SensorHubModel", "deliver", "(I)V"⟩, 16), (⟨"SensorHubModel", "entryPart", "(II)I"⟩, 16), (⟨"SensorHubModel", "keepPeriods", "()V"⟩, 16), (⟨"SensorHubModel", "find", "()Z"⟩, 16), (⟨"SensorHubModel", "asked", "(I)I"⟩, 16), (⟨"SensorHubModel", "source", "(I)I"⟩, 16), (⟨"SensorHubModel", "supported", "(II)I"⟩, 16), (⟨"SensorHubModel", "restartIfChanged", "()V"⟩, 16), (⟨"SensorHubModel", "isClient", "(I)Z"⟩, 16), (⟨"SensorHubModel", "hold", "()V"⟩, 16), (⟨"SensorHubModel", "read", "()V"⟩, 16)]
theorem lw_r3 : ∀ q ∈ lw_privs_3, lw_okq q := List.forall_mem_cons.mpr ⟨lw_p32, List.forall_mem_cons.mpr ⟨lw_p33, List.forall_mem_cons.mpr ⟨lw_p34, List.forall_mem_cons.mpr ⟨lw_p35, List.forall_mem_cons.mpr ⟨lw_p36, List.forall_mem_cons.mpr ⟨lw_p37, List.forall_mem_cons.mpr ⟨lw_p38, List.forall_mem_cons.mpr ⟨lw_p39, List.forall_mem_cons.mpr ⟨lw_p40, List.forall_mem_cons.mpr ⟨lw_p41, List.forall_mem_cons.mpr ⟨lw_p42, List.forall_mem_cons.mpr ⟨lw_p43, List.forall_mem_cons.mpr ⟨lw_p44, List.forall_mem_cons.mpr ⟨lw_p45, List.forall_mem_cons.mpr ⟨lw_p46, List.forall_mem_cons.mpr ⟨lw_p47, fun _ h => absurd h List.not_mem_nil⟩⟩⟩⟩⟩⟩⟩⟩⟩⟩⟩⟩⟩⟩⟩⟩
theorem lw_p48 : lw_okq (⟨"SensorHubModel", "here", "()I"⟩, 16) := ⟨⟨by decide +kernel, by decide +kernel⟩, List.mem_of_getElem? (i := 814) (by decide +kernel), List.mem_of_getElem? (i := 1004) (by decide +kernel), List.mem_of_getElem? (i := 1005) (by decide +kernel)⟩
theorem lw_p49 : lw_okq (⟨"SensorHubModel", "readItem", "()V"⟩, 16) := ⟨⟨by decide +kernel, by decide +kernel⟩, List.mem_of_getElem? (i := 814) (by decide +kernel), List.mem_of_getElem? (i := 1008) (by decide +kernel), List.mem_of_getElem? (i := 1009) (by decide +kernel)⟩
theorem lw_p50 : lw_okq (⟨"SensorHubModel", "isLong", "(IIIIII)Z"⟩, 16) := ⟨⟨by decide +kernel, by decide +kernel⟩, List.mem_of_getElem? (i := 814) (by decide +kernel), List.mem_of_getElem? (i := 1012) (by decide +kernel), List.mem_of_getElem? (i := 1013) (by decide +kernel)⟩
theorem lw_p51 : lw_okq (⟨"SensorHubModel", "readSensor", "()V"⟩, 16) := ⟨⟨by decide +kernel, by decide +kernel⟩, List.mem_of_getElem? (i := 814) (by decide +kernel), List.mem_of_getElem? (i := 1016) (by decide +kernel), List.mem_of_getElem? (i := 1017) (by decide +kernel)⟩
theorem lw_p52 : lw_okq (⟨"SensorHubModel", "take", "(Z)V"⟩, 16) := ⟨⟨by decide +kernel, by decide +kernel⟩, List.mem_of_getElem? (i := 814) (by decide +kernel), List.mem_of_getElem? (i := 1020) (by decide +kernel), List.mem_of_getElem? (i := 1021) (by decide +kernel)⟩
theorem lw_p53 : lw_okq (⟨"SensorHubModel", "take", "(II)I"⟩, 16) := ⟨⟨by decide +kernel, by decide +kernel⟩, List.mem_of_getElem? (i := 814) (by decide +kernel), List.mem_of_getElem? (i := 1024) (by decide +kernel), List.mem_of_getElem? (i := 1025) (by decide +kernel)⟩
theorem lw_p54 : lw_okq (⟨"SensorHubModel", "isWord", "(III)Z"⟩, 16) := ⟨⟨by decide +kernel, by decide +kernel⟩, List.mem_of_getElem? (i := 814) (by decide +kernel), List.mem_of_getElem? (i := 1028) (by decide +kernel), List.mem_of_getElem? (i := 1029) (by decide +kernel)⟩
theorem lw_p55 : lw_okq (⟨"SensorHubModel", "readDerived", "(I)V"⟩, 16) := ⟨⟨by decide +kernel, by decide +kernel⟩, List.mem_of_getElem? (i := 814) (by decide +kernel), List.mem_of_getElem? (i := 1032) (by decide +kernel), List.mem_of_getElem? (i := 1033) (by decide +kernel)⟩
theorem lw_p56 : lw_okq (⟨"SensorHubModel", "readOutage", "()V"⟩, 16) := ⟨⟨by decide +kernel, by decide +kernel⟩, List.mem_of_getElem? (i := 814) (by decide +kernel), List.mem_of_getElem? (i := 1036) (by decide +kernel), List.mem_of_getElem? (i := 1037) (by decide +kernel)⟩
theorem lw_p57 : lw_okq (⟨"SensorHubModel", "release", "()V"⟩, 16) := ⟨⟨by decide +kernel, by decide +kernel⟩, List.mem_of_getElem? (i := 814) (by decide +kernel), List.mem_of_getElem? (i := 1040) (by decide +kernel), List.mem_of_getElem? (i := 1041) (by decide +kernel)⟩
theorem lw_p58 : lw_okq (⟨"SensorHubModel", "allWakes", "()I"⟩, 16) := ⟨⟨by decide +kernel, by decide +kernel⟩, List.mem_of_getElem? (i := 814) (by decide +kernel), List.mem_of_getElem? (i := 1048) (by decide +kernel), List.mem_of_getElem? (i := 1049) (by decide +kernel)⟩
theorem lw_p59 : lw_okq (⟨"SensorHubModel", "pass", "(I)V"⟩, 16) := ⟨⟨by decide +kernel, by decide +kernel⟩, List.mem_of_getElem? (i := 814) (by decide +kernel), List.mem_of_getElem? (i := 1052) (by decide +kernel), List.mem_of_getElem? (i := 1053) (by decide +kernel)⟩
theorem lw_p60 : lw_okq (⟨"SensorHubModel", "tick", "()V"⟩, 16) := ⟨⟨by decide +kernel, by decide +kernel⟩, List.mem_of_getElem? (i := 814) (by decide +kernel), List.mem_of_getElem? (i := 1056) (by decide +kernel), List.mem_of_getElem? (i := 1057) (by decide +kernel)⟩
theorem lw_p61 : lw_okq (⟨"SensorHubModel", "tickPhysical", "(I)V"⟩, 16) := ⟨⟨by decide +kernel, by decide +kernel⟩, List.mem_of_getElem? (i := 814) (by decide +kernel), List.mem_of_getElem? (i := 1060) (by decide +kernel), List.mem_of_getElem? (i := 1061) (by decide +kernel)⟩
theorem lw_p62 : lw_okq (⟨"SensorHubModel", "isOut", "(II)Z"⟩, 16) := ⟨⟨by decide +kernel, by decide +kernel⟩, List.mem_of_getElem? (i := 814) (by decide +kernel), List.mem_of_getElem? (i := 1067) (by decide +kernel), List.mem_of_getElem? (i := 1068) (by decide +kernel)⟩
theorem lw_p63 : lw_okq (⟨"SensorHubModel", "receive", "(III)V"⟩, 16) := ⟨⟨by decide +kernel, by decide +kernel⟩, List.mem_of_getElem? (i := 814) (by decide +kernel), List.mem_of_getElem? (i := 1071) (by decide +kernel), List.mem_of_getElem? (i := 1072) (by decide +kernel)⟩
def lw_privs_4 : List (MethodName × Nat) := [(⟨"SensorHubModel", "here", "()I"⟩, 16), (⟨"SensorHubModel", "readItem", "()V"⟩, 16), (⟨"SensorHubModel", "isLong", "(IIIIII)Z"⟩, 16), (⟨"SensorHubModel", "readSensor", "()V"⟩, 16), (⟨"SensorHubModel", "take", "(Z)V"⟩, 16), (⟨"SensorHubModel", "take", "(II)I"⟩, 16), (⟨"SensorHubModel", "isWord", "(III)Z"⟩, 16), (⟨"SensorHubModel", "readDerived", "(I)V"⟩, 16), (⟨"SensorHubModel", "readOutage", "()V"⟩, 16), (⟨"SensorHubModel", "release", "()V"⟩, 16), (⟨"SensorHubModel", "allWakes", "()I"⟩, 16), (⟨"SensorHubModel", "pass", "(I)V"⟩, 16), (⟨"SensorHubModel", "tick", "()V"⟩, 16), (⟨"SensorHubModel", "tickPhysical", "(I)V"⟩, 16), (⟨"SensorHubModel", "isOut", "(II)Z"⟩, 16), (⟨"SensorHubModel", "receive", "(III)V"⟩, 16)]
theorem lw_r4 : ∀ q ∈ lw_privs_4, lw_okq q := List.forall_mem_cons.mpr ⟨lw_p48, List.forall_mem_cons.mpr ⟨lw_p49, List.forall_mem_cons.mpr ⟨lw_p50, List.forall_mem_cons.mpr ⟨lw_p51, List.forall_mem_cons.mpr ⟨lw_p52, List.forall_mem_cons.mpr ⟨lw_p53, List.forall_mem_cons.mpr ⟨lw_p54, List.forall_mem_cons.mpr ⟨lw_p55, List.forall_mem_cons.mpr ⟨lw_p56, List.forall_mem_cons.mpr ⟨lw_p57, List.forall_mem_cons.mpr ⟨lw_p58, List.forall_mem_cons.mpr ⟨lw_p59, List.forall_mem_cons.mpr ⟨lw_p60, List.forall_mem_cons.mpr ⟨lw_p61, List.forall_mem_cons.mpr ⟨lw_p62, List.forall_mem_cons.mpr ⟨lw_p63, fun _ h => absurd h List.not_mem_nil⟩⟩⟩⟩⟩⟩⟩⟩⟩⟩⟩⟩⟩⟩⟩⟩
theorem lw_p64 : lw_okq (⟨"SensorHubModel", "tickDerived", "(I)V"⟩, 16) := ⟨⟨by decide +kernel, by decide +kernel⟩, List.mem_of_getElem? (i := 814) (by decide +kernel), List.mem_of_getElem? (i := 1075) (by decide +kernel), List.mem_of_getElem? (i := 1076) (by decide +kernel)⟩
theorem lw_p65 : lw_okq (⟨"SensorHubModel", "mean", "(II)I"⟩, 16) := ⟨⟨by decide +kernel, by decide +kernel⟩, List.mem_of_getElem? (i := 814) (by decide +kernel), List.mem_of_getElem? (i := 1079) (by decide +kernel), List.mem_of_getElem? (i := 1080) (by decide +kernel)⟩
theorem lw_p66 : lw_okq (⟨"SensorHubModel", "store", "(I)V"⟩, 16) := ⟨⟨by decide +kernel, by decide +kernel⟩, List.mem_of_getElem? (i := 814) (by decide +kernel), List.mem_of_getElem? (i := 1083) (by decide +kernel), List.mem_of_getElem? (i := 1084) (by decide +kernel)⟩
theorem lw_p67 : lw_okq (⟨"SensorHubModel", "clientMany", "()I"⟩, 16) := ⟨⟨by decide +kernel, by decide +kernel⟩, List.mem_of_getElem? (i := 814) (by decide +kernel), List.mem_of_getElem? (i := 1099) (by decide +kernel), List.mem_of_getElem? (i := 1100) (by decide +kernel)⟩
theorem lw_p68 : lw_okq (⟨"SensorHubModel", "stored", "(I)I"⟩, 16) := ⟨⟨by decide +kernel, by decide +kernel⟩, List.mem_of_getElem? (i := 814) (by decide +kernel), List.mem_of_getElem? (i := 1115) (by decide +kernel), List.mem_of_getElem? (i := 1116) (by decide +kernel)⟩
def lw_privs_5 : List (MethodName × Nat) := [(⟨"SensorHubModel", "tickDerived", "(I)V"⟩, 16), (⟨"SensorHubModel", "mean", "(II)I"⟩, 16), (⟨"SensorHubModel", "store", "(I)V"⟩, 16), (⟨"SensorHubModel", "clientMany", "()I"⟩, 16), (⟨"SensorHubModel", "stored", "(I)I"⟩, 16)]
theorem lw_r5 : ∀ q ∈ lw_privs_5, lw_okq q := List.forall_mem_cons.mpr ⟨lw_p64, List.forall_mem_cons.mpr ⟨lw_p65, List.forall_mem_cons.mpr ⟨lw_p66, List.forall_mem_cons.mpr ⟨lw_p67, List.forall_mem_cons.mpr ⟨lw_p68, fun _ h => absurd h List.not_mem_nil⟩⟩⟩⟩⟩
def lw_privs : List (MethodName × Nat) := lw_privs_1 ++ (lw_privs_2 ++ (lw_privs_3 ++ (lw_privs_4 ++ (lw_privs_5))))
def lw_tbl : List Cond := k2_sels lw_privs ++ tables_1
theorem lw_privs_ok : ∀ q ∈ lw_privs, lw_okq q := by
  show ∀ q ∈ lw_privs_1 ++ (lw_privs_2 ++ (lw_privs_3 ++ (lw_privs_4 ++ (lw_privs_5)))), lw_okq q
  exact List.forall_mem_append.mpr ⟨lw_r1, List.forall_mem_append.mpr ⟨lw_r2, List.forall_mem_append.mpr ⟨lw_r3, List.forall_mem_append.mpr ⟨lw_r4, lw_r5⟩⟩⟩⟩

/-- the words that a callee may lean on: those of the tables that stay true along a walk -/
def gw : List Cond := lw_tbl.filter goodWord
theorem gw_I {w : Cond} (i : Nat) (h : lw_tbl[i]? = some w) (hg : goodWord w = true) : w ∈ gw := List.mem_filter.mpr ⟨List.mem_of_getElem? h, hg⟩
theorem gw_ok : ∀ w ∈ gw, goodWord w = true := fun w h => (List.mem_filter.mp h).2
theorem gw_L {ws : List Cond} (ps : List Nat) (h : ws = ps.filterMap (fun i => lw_tbl[i]?)) (hg : ws.all goodWord = true) : ∀ w ∈ ws, w ∈ gw := by
  intro w hw
  have h1 := List.all_eq_true.mp hg w hw
  rw [h] at hw
  obtain ⟨i, -, hi⟩ := List.mem_filterMap.mp hw
  exact gw_I i hi h1
end
section
def T_0 : u_T := fun k => match k with
  | 0 => ("SensorHub$Client", "present", "Z", false)
  | 1 => ("SensorHub$Client", "sensor", "I", false)
  | 2 => ("SensorHub$Client", "period", "I", false)
  | 3 => ("SensorHub$Client", "delay", "I", false)
  | 4 => ("SensorHub$Client", "stride", "I", false)
  | 5 => ("SensorHub$Client", "offered", "I", false)
  | 6 => ("SensorHub$Client", "delivered", "I", false)
  | 7 => ("SensorHub$Client", "missing", "I", false)
  | 8 => ("SensorHub$Client", "greatestAge", "I", false)
  | 9 => ("SensorHub$Client", "blamed", "I", false)
  | _ => ("SensorHub$Client", "latest", "[I", true)
def ty_0 : Nat → FieldType := fun k => match k with
  | 0 => .boolean
  | 1 => .int
  | 2 => .int
  | 3 => .int
  | 4 => .int
  | 5 => .int
  | 6 => .int
  | 7 => .int
  | 8 => .int
  | 9 => .int
  | _ => .array .int
theorem nm_0 : ∀ a, a < 11 → ∀ b, b < 11 → a ≠ b → (T_0 a).2.1 ≠ (T_0 b).2.1 := by decide +kernel
theorem tyok_0 : ∀ k, k < 11 → parseFieldDescriptor (T_0 k).2.2.1 = some (ty_0 k) := by decide +kernel
theorem clw_0 : ∀ w ∈ u_ws "SensorHub$Client" T_0 11, w ∈ gw := gw_L [252, 254, 256, 258, 260, 262, 264, 266, 268, 270, 272] (by decide +kernel) (by decide +kernel)
def T_1 : u_T := fun k => match k with
  | 0 => ("SensorHub$History", "size", "I", false)
  | 1 => ("SensorHub$History", "next", "I", false)
  | _ => ("SensorHub$History", "states", "[LSensorHub$Hub;", true)
def ty_1 : Nat → FieldType := fun k => match k with
  | 0 => .int
  | 1 => .int
  | _ => .array (.object "SensorHub$Hub")
theorem nm_1 : ∀ a, a < 3 → ∀ b, b < 3 → a ≠ b → (T_1 a).2.1 ≠ (T_1 b).2.1 := by decide +kernel
theorem tyok_1 : ∀ k, k < 3 → parseFieldDescriptor (T_1 k).2.2.1 = some (ty_1 k) := by decide +kernel
theorem clw_1 : ∀ w ∈ u_ws "SensorHub$History" T_1 3, w ∈ gw := gw_L [343, 345, 347] (by decide +kernel) (by decide +kernel)
def T_2 : u_T := fun k => match k with
  | 0 => ("SensorHub$Hub", "now", "I", false)
  | 1 => ("SensorHub$Hub", "restart", "I", false)
  | 2 => ("SensorHub$Hub", "energy", "I", false)
  | 3 => ("SensorHub$Hub", "capacity", "I", false)
  | 4 => ("SensorHub$Hub", "sensorCount", "I", false)
  | 5 => ("SensorHub$Hub", "mostEntries", "I", false)
  | 6 => ("SensorHub$Hub", "wakeCounts", "[I", true)
  | 7 => ("SensorHub$Hub", "sensors", "[LSensorHub$Sensor;", true)
  | 8 => ("SensorHub$Hub", "clients", "[LSensorHub$Client;", true)
  | 9 => ("SensorHub$Hub", "outages", "LSensorHub$Outages;", true)
  | _ => ("SensorHub$Hub", "store", "LSensorHub$Store;", true)
def ty_2 : Nat → FieldType := fun k => match k with
  | 0 => .int
  | 1 => .int
  | 2 => .int
  | 3 => .int
  | 4 => .int
  | 5 => .int
  | 6 => .array .int
  | 7 => .array (.object "SensorHub$Sensor")
  | 8 => .array (.object "SensorHub$Client")
  | 9 => .object "SensorHub$Outages"
  | _ => .object "SensorHub$Store"
theorem nm_2 : ∀ a, a < 11 → ∀ b, b < 11 → a ≠ b → (T_2 a).2.1 ≠ (T_2 b).2.1 := by decide +kernel
theorem tyok_2 : ∀ k, k < 11 → parseFieldDescriptor (T_2 k).2.2.1 = some (ty_2 k) := by decide +kernel
theorem clw_2 : ∀ w ∈ u_ws "SensorHub$Hub" T_2 11, w ∈ gw := gw_L [307, 309, 311, 313, 315, 317, 319, 321, 323, 325, 327] (by decide +kernel) (by decide +kernel)
def T_3 : u_T := fun k => match k with
  | 0 => ("SensorHub$Outages", "size", "I", false)
  | 1 => ("SensorHub$Outages", "sensors", "[I", true)
  | 2 => ("SensorHub$Outages", "firsts", "[I", true)
  | _ => ("SensorHub$Outages", "lasts", "[I", true)
def ty_3 : Nat → FieldType := fun k => match k with
  | 0 => .int
  | 1 => .array .int
  | 2 => .array .int
  | _ => .array .int
theorem nm_3 : ∀ a, a < 4 → ∀ b, b < 4 → a ≠ b → (T_3 a).2.1 ≠ (T_3 b).2.1 := by decide +kernel
theorem tyok_3 : ∀ k, k < 4 → parseFieldDescriptor (T_3 k).2.2.1 = some (ty_3 k) := by decide +kernel
theorem clw_3 : ∀ w ∈ u_ws "SensorHub$Outages" T_3 4, w ∈ gw := gw_L [115, 117, 119, 121] (by decide +kernel) (by decide +kernel)
def T_4 : u_T := fun k => match k with
  | 0 => ("SensorHub$Sensor", "kind", "I", false)
  | 1 => ("SensorHub$Sensor", "least", "I", false)
  | 2 => ("SensorHub$Sensor", "steps", "I", false)
  | 3 => ("SensorHub$Sensor", "slope", "I", false)
  | 4 => ("SensorHub$Sensor", "offset", "I", false)
  | 5 => ("SensorHub$Sensor", "jitter", "I", false)
  | 6 => ("SensorHub$Sensor", "cost", "I", false)
  | 7 => ("SensorHub$Sensor", "first", "I", false)
  | 8 => ("SensorHub$Sensor", "second", "I", false)
  | 9 => ("SensorHub$Sensor", "source", "I", false)
  | 10 => ("SensorHub$Sensor", "demand", "I", false)
  | 11 => ("SensorHub$Sensor", "period", "I", false)
  | 12 => ("SensorHub$Sensor", "samples", "I", false)
  | 13 => ("SensorHub$Sensor", "fresh", "Z", false)
  | 14 => ("SensorHub$Sensor", "stamp", "I", false)
  | 15 => ("SensorHub$Sensor", "value", "I", false)
  | 16 => ("SensorHub$Sensor", "valued", "I", false)
  | _ => ("SensorHub$Sensor", "recent", "[I", true)
def ty_4 : Nat → FieldType := fun k => match k with
  | 0 => .int
  | 1 => .int
  | 2 => .int
  | 3 => .int
  | 4 => .int
  | 5 => .int
  | 6 => .int
  | 7 => .int
  | 8 => .int
  | 9 => .int
  | 10 => .int
  | 11 => .int
  | 12 => .int
  | 13 => .boolean
  | 14 => .int
  | 15 => .int
  | 16 => .int
  | _ => .array .int
theorem nm_4 : ∀ a, a < 18 → ∀ b, b < 18 → a ≠ b → (T_4 a).2.1 ≠ (T_4 b).2.1 := by decide +kernel
theorem tyok_4 : ∀ k, k < 18 → parseFieldDescriptor (T_4 k).2.2.1 = some (ty_4 k) := by decide +kernel
theorem clw_4 : ∀ w ∈ u_ws "SensorHub$Sensor" T_4 18, w ∈ gw := gw_L [184, 186, 188, 190, 192, 194, 196, 198, 200, 202, 204, 206, 208, 210, 212, 214, 216, 218] (by decide +kernel) (by decide +kernel)
def T_5 : u_T := fun k => match k with
  | 0 => ("SensorHub$Store", "size", "I", false)
  | _ => ("SensorHub$Store", "entries", "[I", true)
def ty_5 : Nat → FieldType := fun k => match k with
  | 0 => .int
  | _ => .array .int
theorem nm_5 : ∀ a, a < 2 → ∀ b, b < 2 → a ≠ b → (T_5 a).2.1 ≠ (T_5 b).2.1 := by decide +kernel
theorem tyok_5 : ∀ k, k < 2 → parseFieldDescriptor (T_5 k).2.2.1 = some (ty_5 k) := by decide +kernel
theorem clw_5 : ∀ w ∈ u_ws "SensorHub$Store" T_5 2, w ∈ gw := gw_L [135, 137] (by decide +kernel) (by decide +kernel)
def T_6 : u_T := fun k => match k with
  | 0 => ("SensorHub$Text", "size", "I", false)
  | 1 => ("SensorHub$Text", "codes", "[I", true)
  | 2 => ("SensorHub$Text", "failed", "Z", false)
  | 3 => ("SensorHub$Text", "type", "I", false)
  | 4 => ("SensorHub$Text", "start", "I", false)
  | _ => ("SensorHub$Text", "behind", "I", false)
def ty_6 : Nat → FieldType := fun k => match k with
  | 0 => .int
  | 1 => .array .int
  | 2 => .boolean
  | 3 => .int
  | 4 => .int
  | _ => .int
theorem nm_6 : ∀ a, a < 6 → ∀ b, b < 6 → a ≠ b → (T_6 a).2.1 ≠ (T_6 b).2.1 := by decide +kernel
theorem tyok_6 : ∀ k, k < 6 → parseFieldDescriptor (T_6 k).2.2.1 = some (ty_6 k) := by decide +kernel
theorem clw_6 : ∀ w ∈ u_ws "SensorHub$Text" T_6 6, w ∈ gw := gw_L [363, 365, 367, 369, 371, 373] (by decide +kernel) (by decide +kernel)
def T_7 : u_T := fun k => match k with
  | 0 => ("SensorHub", "hub", "LSensorHub$Hub;", true)
  | 1 => ("SensorHub", "trial", "LSensorHub$Hub;", true)
  | 2 => ("SensorHub", "history", "LSensorHub$History;", true)
  | _ => ("SensorHub", "text", "LSensorHub$Text;", true)
def ty_7 : Nat → FieldType := fun k => match k with
  | 0 => .object "SensorHub$Hub"
  | 1 => .object "SensorHub$Hub"
  | 2 => .object "SensorHub$History"
  | _ => .object "SensorHub$Text"
theorem nm_7 : ∀ a, a < 4 → ∀ b, b < 4 → a ≠ b → (T_7 a).2.1 ≠ (T_7 b).2.1 := by decide +kernel
theorem tyok_7 : ∀ k, k < 4 → parseFieldDescriptor (T_7 k).2.2.1 = some (ty_7 k) := by decide +kernel
theorem clw_7 : ∀ w ∈ u_ws "SensorHub" T_7 4, w ∈ gw := gw_L [380, 382, 384, 386] (by decide +kernel) (by decide +kernel)
def T_8 : u_T := fun k => match k with
  | 0 => ("SensorHubModel", "thrown", "I", false)
  | 1 => ("SensorHubModel", "s", "[I", true)
  | 2 => ("SensorHubModel", "saved", "[I", true)
  | 3 => ("SensorHubModel", "savedMany", "I", false)
  | 4 => ("SensorHubModel", "text", "[I", true)
  | 5 => ("SensorHubModel", "length", "I", false)
  | 6 => ("SensorHubModel", "aside", "[I", true)
  | 7 => ("SensorHubModel", "demands", "[I", true)
  | 8 => ("SensorHubModel", "periods", "[I", true)
  | 9 => ("SensorHubModel", "oldPeriods", "[I", true)
  | 10 => ("SensorHubModel", "isFresh", "[Z", true)
  | 11 => ("SensorHubModel", "next", "I", false)
  | 12 => ("SensorHubModel", "start", "I", false)
  | 13 => ("SensorHubModel", "token", "I", false)
  | 14 => ("SensorHubModel", "number", "I", false)
  | _ => ("SensorHubModel", "isWrong", "Z", false)
def ty_8 : Nat → FieldType := fun k => match k with
  | 0 => .int
  | 1 => .array .int
  | 2 => .array .int
  | 3 => .int
  | 4 => .array .int
  | 5 => .int
  | 6 => .array .int
  | 7 => .array .int
  | 8 => .array .int
  | 9 => .array .int
  | 10 => .array .boolean
  | 11 => .int
  | 12 => .int
  | 13 => .int
  | 14 => .int
  | _ => .boolean
theorem nm_8 : ∀ a, a < 16 → ∀ b, b < 16 → a ≠ b → (T_8 a).2.1 ≠ (T_8 b).2.1 := by decide +kernel
theorem tyok_8 : ∀ k, k < 16 → parseFieldDescriptor (T_8 k).2.2.1 = some (ty_8 k) := by decide +kernel
theorem clw_8 : ∀ w ∈ u_ws "SensorHubModel" T_8 16, w ∈ gw := gw_L [908, 910, 912, 914, 916, 918, 920, 922, 924, 926, 928, 930, 932, 934, 936, 938] (by decide +kernel) (by decide +kernel)
abbrev classes : List vw_C := [("SensorHub$Client", T_0, 11), ("SensorHub$History", T_1, 3), ("SensorHub$Hub", T_2, 11), ("SensorHub$Outages", T_3, 4), ("SensorHub$Sensor", T_4, 18), ("SensorHub$Store", T_5, 2), ("SensorHub$Text", T_6, 6), ("SensorHub", T_7, 4), ("SensorHubModel", T_8, 16)]
/-- which fields are numbers (none), which are references, and to which cell behind the object's own -/
def spc0 : Nat → List (Option Nat) := fun κ => match κ with
  | 1 => [none, none, none, none, none, none, none, none, none, none, some 1]
  | 2 => [none, none, some 1]
  | 3 => [none, none, none, none, none, none, some 1, some 2, some 3, some 4, some 8]
  | 4 => [none, some 1, some 2, some 3]
  | 5 => [none, none, none, none, none, none, none, none, none, none, none, none, none, none, none, none, none, some 1]
  | 6 => [none, some 1]
  | 7 => [none, some 1, none, none, none, none]
  | 8 => [some 1, some 43, some 85, some 297]
  | 9 => [none, some 1, some 2, none, some 3, none, some 4, some 5, some 6, some 7, some 8, none, none, none, none, none]
  | _ => []
/-- of an object under construction: its first j references are set -/
def spp : List (Option Nat) → Nat → List (Option Nat)
  | [], _ => []
  | none :: r, j => none :: spp r j
  | some _ :: r, 0 => some 0 :: spp r 0
  | some d :: r, j + 1 => some d :: spp r j
def spc (κ : Nat) : List (Option Nat) := if 100 ≤ κ then spp (spc0 ((κ - 100) / 10 + 1)) ((κ - 100) % 10) else spc0 κ
def cix (κ : Nat) : Nat := if 100 ≤ κ then (κ - 100) / 10 else κ - 1
theorem cls_in : ∀ (ci : Nat) (C : String) (T : u_T) (N : Nat), classes[ci]? = some (C, T, N) → ∀ w ∈ u_ws C T N, w ∈ gw := by
  intro ci C T N h
  match ci, h with
  | 0, h => cases h; exact clw_0
  | 1, h => cases h; exact clw_1
  | 2, h => cases h; exact clw_2
  | 3, h => cases h; exact clw_3
  | 4, h => cases h; exact clw_4
  | 5, h => cases h; exact clw_5
  | 6, h => cases h; exact clw_6
  | 7, h => cases h; exact clw_7
  | 8, h => cases h; exact clw_8
  | k + 9, h => simp [classes] at h
theorem cls_ty : ∀ (ci : Nat) (C : String) (T : u_T) (N : Nat), classes[ci]? = some (C, T, N) → ∃ ty0 : Nat → FieldType, (∀ k, k < N → parseFieldDescriptor (T k).2.2.1 = some (ty0 k)) ∧ ∀ a, a < N → ∀ b, b < N → a ≠ b → (T a).2.1 ≠ (T b).2.1 := by
  intro ci C T N h
  match ci, h with
  | 0, h => cases h; exact ⟨ty_0, tyok_0, nm_0⟩
  | 1, h => cases h; exact ⟨ty_1, tyok_1, nm_1⟩
  | 2, h => cases h; exact ⟨ty_2, tyok_2, nm_2⟩
  | 3, h => cases h; exact ⟨ty_3, tyok_3, nm_3⟩
  | 4, h => cases h; exact ⟨ty_4, tyok_4, nm_4⟩
  | 5, h => cases h; exact ⟨ty_5, tyok_5, nm_5⟩
  | 6, h => cases h; exact ⟨ty_6, tyok_6, nm_6⟩
  | 7, h => cases h; exact ⟨ty_7, tyok_7, nm_7⟩
  | 8, h => cases h; exact ⟨ty_8, tyok_8, nm_8⟩
  | k + 9, h => simp [classes] at h
end
section
/-! the memory of the whole world: a cell's number, a place in it; only whole numbers ever change; references are set once by the constructors -/
abbrev Mem : Type := Nat → Nat → Int32
def wr (σ : Mem) (v k : Nat) (x : Int32) : Mem := fun b j => if b = v ∧ j = k then x else σ b j
abbrev CX : Type := va_G × (Nat → Nat) × (Nat → Nat) × (Nat → ClassId) × (Nat → Prop) × (Nat → Nat) × (Nat → Prop)
abbrev xD (X : CX) : va_G := X.1
abbrev xa (X : CX) : Nat → Nat := X.2.1
abbrev xs (X : CX) : Nat → Nat := X.2.2.1
abbrev xc (X : CX) : Nat → ClassId := X.2.2.2.1
abbrev xA (X : CX) : Nat → Prop := X.2.2.2.2.1
abbrev xk (X : CX) : Nat → Nat := X.2.2.2.2.2.1
abbrev xz (X : CX) : Nat → Prop := X.2.2.2.2.2.2
/-- an object's fields, by its list: none is a number, some d is the cell d places on -/
def fl (a : Nat → Nat) (f : Nat → Int32) (v : Nat) : List (Option Nat) → Nat → List Value
  | [], _ => []
  | none :: r, k => .int (f k) :: fl a f v r (k + 1)
  | some d :: r, k => (if d = 0 then .null else .ref (a (v + d))) :: fl a f v r (k + 1)
theorem fl_int {a : Nat → Nat} {f : Nat → Int32} {v : Nat} : ∀ (sp : List (Option Nat)) (k0 k : Nat), sp[k]? = some none → (fl a f v sp k0)[k]? = some (.int (f (k0 + k)))
  | [], _, _, h => by simp at h
  | x :: r, k0, 0, h => by
    simp at h
    subst h
    simp [fl]
  | x :: r, k0, k + 1, h => by
    have ih := fl_int (a := a) (f := f) (v := v) r (k0 + 1) k (by simpa using h)
    have e : k0 + (k + 1) = k0 + 1 + k := by omega
    rw [e]
    cases x <;> simpa [fl] using ih
theorem fl_ref {a : Nat → Nat} {f : Nat → Int32} {v d : Nat} (hd : d ≠ 0) : ∀ (sp : List (Option Nat)) (k0 k : Nat), sp[k]? = some (some d) → (fl a f v sp k0)[k]? = some (.ref (a (v + d)))
  | [], _, _, h => by simp at h
  | x :: r, k0, 0, h => by
    simp at h
    subst h
    simp [fl, hd]
  | x :: r, k0, k + 1, h => by
    have ih := fl_ref hd (a := a) (f := f) (v := v) r (k0 + 1) k (by simpa using h)
    cases x <;> simpa [fl] using ih
theorem fl_len {a : Nat → Nat} {f : Nat → Int32} {v : Nat} : ∀ (sp : List (Option Nat)) (k0 : Nat), (fl a f v sp k0).length = sp.length
  | [], _ => rfl
  | none :: r, k0 => by simp [fl, fl_len r (k0 + 1)]
  | some d :: r, k0 => by simp [fl, fl_len r (k0 + 1)]
theorem fl_ext {a : Nat → Nat} {f g : Nat → Int32} {v : Nat} : ∀ (sp : List (Option Nat)) (k0 : Nat), (∀ k, k0 ≤ k → f k = g k) → fl a f v sp k0 = fl a g v sp k0
  | [], _, _ => rfl
  | none :: r, k0, h => by simp only [fl]; rw [h k0 (Nat.le_refl _), fl_ext r (k0 + 1) (fun k hk => h k (by omega))]
  | some d :: r, k0, h => by simp only [fl]; rw [fl_ext r (k0 + 1) (fun k hk => h k (by omega))]
theorem fl_set {a : Nat → Nat} {f : Nat → Int32} {v : Nat} {x : Int32} : ∀ (sp : List (Option Nat)) (k0 k : Nat), sp[k]? = some none → (fl a f v sp k0).set k (.int x) = fl a (upd f (k0 + k) x) v sp k0
  | [], _, _, h => by simp at h
  | y :: r, k0, 0, h => by
    simp at h
    subst h
    simp only [fl, List.set_cons_zero]
    rw [fl_ext r (k0 + 1) (f := f) (g := upd f (k0 + 0) x) (fun k hk => by simp [upd]; omega)]
    simp [upd]
  | y :: r, k0, k + 1, h => by
    have ih := fl_set (a := a) (f := f) (v := v) (x := x) r (k0 + 1) k (by simpa using h)
    have e : k0 + (k + 1) = k0 + 1 + k := by omega
    rw [e]
    cases y with
    | none =>
      simp only [fl, List.set_cons_succ]
      rw [ih]
      have : ¬ k0 = k0 + 1 + k := by omega
      simp [upd, this]
    | some d => simp only [fl, List.set_cons_succ]; rw [ih]
/-- what stands at a cell of a kind: 1000 + n an int array of n places, 20 the boolean array, 21 to 23 the arrays of objects, 1 to 9 an object; 100 to 199 an object under construction, 200 and on an array of objects under construction -/
def ce (a : Nat → Nat) (cA : Nat → ClassId) (f : Nat → Int32) (κ v : Nat) : va_E :=
  if 1000 ≤ κ then .inl (cA 0, κ - 1000, .inl f) else
  if κ = 20 then .inl (cA 1, 8, .inl f) else
  if κ = 21 then .inl (cA 2, 8, .inr (.inr (.inr (.inr (fun j => some (a (v + (8 + 2 * j)))))))) else
  if κ = 22 then .inl (cA 3, 8, .inr (.inr (.inr (.inr (fun j => some (a (v + (23 + 2 * j)))))))) else
  if κ = 23 then .inl (cA 4, 5, .inr (.inr (.inr (.inr (fun j => some (a (v + (1 + 42 * j)))))))) else
  if 240 ≤ κ then .inl (cA 4, 5, .inr (.inr (.inr (.inr (fun j => if j < κ - 240 then some (a (v + (1 + 42 * j))) else none))))) else
  if 220 ≤ κ then .inl (cA 3, 8, .inr (.inr (.inr (.inr (fun j => if j < κ - 220 then some (a (v + (23 + 2 * j))) else none))))) else
  if 200 ≤ κ then .inl (cA 2, 8, .inr (.inr (.inr (.inr (fun j => if j < κ - 200 then some (a (v + (8 + 2 * j))) else none))))) else
  .inr (cix κ, fl a f v (spc κ) 0)
def Rep (X : CX) (σ : Mem) (H : Heap) : Prop := (∀ v, xs X v ≠ 0 → va_at (xD X) classes (xa X v, ce (xa X) (xc X) (σ v) (xs X v) v) H) ∧ xz X H.size
def tys (X : CX) : List (ClassId × FieldType) := [(xc X 0, .int), (xc X 1, .boolean), (xc X 2, .object "SensorHub$Sensor"), (xc X 3, .object "SensorHub$Client"), (xc X 4, .object "SensorHub$Hub")]
/-- links to a nest mate's private members -/
def nestL : List (String × Nat × MethodName × String) := [("SensorHub$Hub", 29, ⟨"SensorHub$Outages", "<init>", "()V"⟩, "SensorHub"), ("SensorHub$Hub", 36, ⟨"SensorHub$Store", "<init>", "()V"⟩, "SensorHub"), ("SensorHub$Hub", 41, ⟨"SensorHub$Sensor", "<init>", "()V"⟩, "SensorHub"), ("SensorHub$Hub", 42, ⟨"SensorHub$Client", "<init>", "()V"⟩, "SensorHub"), ("SensorHub$Hub", 97, ⟨"SensorHub", "isWithin", "(III)Z"⟩, "SensorHub"), ("SensorHub", 28, ⟨"SensorHub$Text", "<init>", "()V"⟩, "SensorHub"), ("SensorHub$Outages", 25, ⟨"SensorHub", "isWithin", "(III)Z"⟩, "SensorHub"), ("SensorHub$Store", 19, ⟨"SensorHub", "isWithin", "(III)Z"⟩, "SensorHub"), ("SensorHub$Hub", 156, ⟨"SensorHub", "quotient", "(II)I"⟩, "SensorHub"), ("SensorHub$Text", 19, ⟨"SensorHub", "isWithin", "(III)Z"⟩, "SensorHub"), ("SensorHub$Text", 79, ⟨"SensorHub", "greatestJitter", "(I)I"⟩, "SensorHub"), ("SensorHub$Hub", 230, ⟨"SensorHub", "remainder", "(II)I"⟩, "SensorHub"), ("SensorHub$Client", 47, ⟨"SensorHub", "remainder", "(II)I"⟩, "SensorHub"), ("SensorHub$Client", 59, ⟨"SensorHub", "isWithin", "(III)Z"⟩, "SensorHub")]
def Nests (U : State) : Prop := ∀ q ∈ nestL, va_Nw (.methodLinkNest q.1 q.2.1 q.2.2.1 q.2.2.2) U
/-- the String constants: length, bytes, place in the pool, text -/
def lenS : List Nat := [6, 3, 4, 3, 4, 6]
def bytS : List (List Int32) := [[115, 101, 110, 115, 111, 114], [115, 117, 109], [100, 105, 102, 102], [109, 97, 120], [109, 101, 97, 110], [111, 117, 116, 97, 103, 101]]
def ixS : List Nat := [43, 52, 58, 60, 62, 64]
def txS : List String := ["sensor", "sum", "diff", "max", "mean", "outage"]
def St (X : CX) (U : State) : Prop := vk_S 6 lenS bytS (xk X) (fun i => xk X (i + 6)) (xA X) U U.heap ∧ (∀ i, i < 6 → vk_R "SensorHub$Text" (ixS.getD i 0) (txS.getD i "") (xk X i) U) ∧ va_Z "java/lang/String" "COMPACT_STRINGS" "Z" (.int 1) (xA X) U U.heap ∧ va_Zq "jdk/internal/util/Preconditions" "SIOOBE_FORMATTER" "Ljava/util/function/BiFunction;" (xA X) U U.heap
/-- what the tables say of the classes; the cells are apart -/
def Cx (X : CX) (U : State) : Prop := va_K (xD X) classes (tys X) U ∧ (∀ v w, xs X v ≠ 0 → xs X w ≠ 0 → xa X v = xa X w → v = w) ∧ (∀ v, xs X v ≠ 0 → xA X (xa X v)) ∧ Nests U ∧ St X U
theorem Cx.same {X : CX} {u U : State} (hvm : u.vm = U.vm) (hh : U.heap = u.heap) (h : Cx X u) : Cx X U := by
  obtain ⟨h1, h2, h3, h4, s1, s2, s3, s4⟩ := h
  have ha : u.vm.Alike U.vm := by rw [hvm]; exact Vm.Alike.refl _
  exact ⟨va_K.moved ha h1, h2, h3, fun q hq => va_Nw.same rfl hvm (h4 q hq), by rw [hh]; exact vk_S.moved ha s1, fun i hi => vk_R.same hvm.symm (s2 i hi), by rw [hh]; exact va_Z.moved ha s3, by rw [hh]; exact va_Zq.moved ha s4⟩
theorem Cx.warm {X : CX} {s U : State} (hW : s.WarmedH U.vm) (hk : ∀ a : Nat, a < s.heap.size → ¬ xA X a → U.heap[a]? = s.heap[a]?) (h : Cx X s) : Cx X U := by
  obtain ⟨h1, h2, h3, h4, s1, s2, s3, s4⟩ := h
  exact ⟨va_K.moved hW.alike h1, h2, h3, fun q hq => va_Nw.warmM hW (h4 q hq), (vk_S.moved hW.alike s1).kept hk, fun i hi => vk_R.warm hW (s2 i hi), (va_Z.moved hW.alike s3).kept hk, (va_Zq.moved hW.alike s4).kept hk⟩
def FR (p : Program) (s : State) (m : MethodId) (args : Array Value) (c : Code) (cc : ByteArray) (nL : Nat) (own : String) (X : CX) : Prop :=
  p.tables.exec = Jvm.exec ∧ c.code = cc ∧ c.maxLocals = nL ∧ s.vm.findClass own = some m.cls ∧ (∀ w ∈ gw, w.before args s = true) ∧ Cx X s
def G {ρ : Type} (X : CX) (p : Program) (l : Launch) (e : Env) (R : Room) (s : State) (m : MethodId) (args : Array Value) (below : List Frame) (meth : Method) (c : Code) (nL ck sk : Nat) (Qf : ρ → Mem → State → Prop) (pc : Nat) (ls : List (Nat × Value)) (st : List Value) (σ : Mem) (o : Option (ρ × Mem)) : Prop :=
  ∀ r σ', o = some (r, σ') → ∀ (H : Heap) (locs : List Loc) (la : Array Slot), Rep X σ H → va_S (xA X) s.heap H locs → lv_has la nL ls → W p l e R s m args below meth c H locs ck sk (Qf r σ') (F0 m pc la st)
abbrev ib (i : Int32) (n : Nat) : Prop := 0 ≤ i.toInt ∧ i.toInt < (n : Int)
def bd {α β : Type} (o : Option (α × Mem)) (k : α → Mem → Option β) : Option β := match o with
  | none => none
  | some w => k w.1 w.2
def oe {β : Type} (o : Option Nat) (a : β) (b : Nat → β) : β := match o with
  | none => a
  | some v => b v
def QC (X : CX) (rv : Option Value) (σ' : Mem) : Array Value → State → Outcome → State → Prop := fun _ st oc t => oc = .returned rv ∧ Rep X σ' t.heap ∧ va_F (xA X) st t
def rmD (d : Nat) : Room := { frames := d, cells := 0, slots := 0, locals := 35 * d }
/-- a method's contract: from the memory σ it comes to the answer and the memory that o says, if o says one -/
def CT {ρ : Type} (X : CX) (l : Launch) (y : MethodName) (bytes : ByteArray) (maxL : Nat) (ret : Option FieldType) (d : Nat) (vl : ρ → Option Value) (av : List Value) (σ : Mem) (o : Option (ρ × Mem)) : Prop :=
  ∀ r σ', o = some (r, σ') → Met l y (.code y bytes maxL ret :: gw) (rmD d) (va_Pc av (fun U => Rep X σ U.heap ∧ Cx X U)) (QC X (vl r) σ') 0 0 (xA X)
def vI (r : Int32) : Option Value := some (.int r)
def vU (_ : Unit) : Option Value := none
def vQ (X : CX) (r : Option Nat) : Option Value := some (va_rf (r.map (xa X)))
/-- a field of a number or a reference, as an instruction of own links it -/
def FS (own : String) (index ci k : Nat) : Prop := ∃ C T N, classes[ci]? = some (C, T, N) ∧ k < N ∧ (T k).1 = C ∧ Cond.fieldLink own index C (T k).2.1 (T k).2.2.1 ∈ gw
def FW (own : String) (index ci k : Nat) (ty : FieldType) : Prop := ∃ C T N, classes[ci]? = some (C, T, N) ∧ k < N ∧ (T k).1 = C ∧ Cond.fieldLink own index C (T k).2.1 (T k).2.2.1 ∈ gw ∧ (T k).2.2.2 = false ∧ parseFieldDescriptor (T k).2.2.1 = some ty
section ROWS
variable {ρ : Type} {X : CX} {p : Program} {l : Launch} {e : Env} {R : Room} {s : State} {m : MethodId} {args : Array Value} {below : List Frame} {meth : Method} {c : Code} {cc : ByteArray} {own : String} {nL ck sk : Nat} {Qf : ρ → Mem → State → Prop} {pc : Nat} {ls : List (Nat × Value)} {rest : List Value} {σ : Mem} {o o1 o2 : Option (ρ × Mem)}
theorem g_no {st : List Value} : G X p l e R s m args below meth c nL ck sk Qf pc ls st σ none := fun _ _ h => by cases h
theorem g_if {q : Prop} [Decidable q] {st : List Value} (h1 : q → G X p l e R s m args below meth c nL ck sk Qf pc ls st σ o1) (h2 : ¬ q → G X p l e R s m args below meth c nL ck sk Qf pc ls st σ o2) : G X p l e R s m args below meth c nL ck sk Qf pc ls st σ (if q then o1 else o2) := by
  by_cases hq : q
  · rw [if_pos hq]; exact h1 hq
  · rw [if_neg hq]; exact h2 hq
theorem g_gd {q : Prop} [Decidable q] {st : List Value} (h1 : q → G X p l e R s m args below meth c nL ck sk Qf pc ls st σ o1) : G X p l e R s m args below meth c nL ck sk Qf pc ls st σ (if q then o1 else none) := g_if h1 (fun _ => g_no)
theorem g_iconst (F : FR p s m args c cc nL own X) {n : Int} {v : Int32} (d : decode cc pc = .ok (.iconst n, 1)) (hv : Int32.ofInt n = v)
    (k : G X p l e R s m args below meth c nL ck sk Qf (pc + 1) ls (.int v :: rest) σ o) : G X p l e R s m args below meth c nL ck sk Qf pc ls rest σ o :=
  fun r σ' ho H locs la hR hS hl => lv_iconst F.1 F.2.1 d hv (k r σ' ho H locs la hR hS hl)
theorem g_bipush (F : FR p s m args c cc nL own X) {n : Int} {v : Int32} (d : decode cc pc = .ok (.bipush n, 2)) (hv : (Int8.ofInt n).toInt32 = v)
    (k : G X p l e R s m args below meth c nL ck sk Qf (pc + 2) ls (.int v :: rest) σ o) : G X p l e R s m args below meth c nL ck sk Qf pc ls rest σ o :=
  fun r σ' ho H locs la hR hS hl => lv_bipush F.1 F.2.1 d hv (k r σ' ho H locs la hR hS hl)
theorem g_sipush (F : FR p s m args c cc nL own X) {n : Int} {v : Int32} (d : decode cc pc = .ok (.sipush n, 3)) (hv : (Int16.ofInt n).toInt32 = v)
    (k : G X p l e R s m args below meth c nL ck sk Qf (pc + 3) ls (.int v :: rest) σ o) : G X p l e R s m args below meth c nL ck sk Qf pc ls rest σ o :=
  fun r σ' ho H locs la hR hS hl => lv_sipush F.1 F.2.1 d hv (k r σ' ho H locs la hR hS hl)
theorem g_iload_n (F : FR p s m args c cc nL own X) {i : Fin 4} {x : Int32} (d : decode cc pc = .ok (.iload_n i, 1)) (n : Nat) (hk : ls[n]? = some ((i : Nat), .int x))
    (k : G X p l e R s m args below meth c nL ck sk Qf (pc + 1) ls (.int x :: rest) σ o) : G X p l e R s m args below meth c nL ck sk Qf pc ls rest σ o :=
  fun r σ' ho H locs la hR hS hl => lv_iload_n F.1 F.2.1 d rfl (lv_at hl n hk) (k r σ' ho H locs la hR hS hl)
theorem g_iload (F : FR p s m args c cc nL own X) {i : Nat} {x : Int32} (d : decode cc pc = .ok (.iload i, 2)) (n : Nat) (hk : ls[n]? = some (i, .int x))
    (k : G X p l e R s m args below meth c nL ck sk Qf (pc + 2) ls (.int x :: rest) σ o) : G X p l e R s m args below meth c nL ck sk Qf pc ls rest σ o :=
  fun r σ' ho H locs la hR hS hl => lv_iload F.1 F.2.1 d (lv_at hl n hk) (k r σ' ho H locs la hR hS hl)
theorem g_aload_n (F : FR p s m args c cc nL own X) {i : Fin 4} {x : Nat} (d : decode cc pc = .ok (.aload_n i, 1)) (n : Nat) (hk : ls[n]? = some ((i : Nat), .ref x))
    (k : G X p l e R s m args below meth c nL ck sk Qf (pc + 1) ls (.ref x :: rest) σ o) : G X p l e R s m args below meth c nL ck sk Qf pc ls rest σ o :=
  fun r σ' ho H locs la hR hS hl => lv_aload_n F.1 F.2.1 d rfl (lv_at hl n hk) (k r σ' ho H locs la hR hS hl)
theorem g_aload (F : FR p s m args c cc nL own X) {i : Nat} {x : Nat} (d : decode cc pc = .ok (.aload i, 2)) (n : Nat) (hk : ls[n]? = some (i, .ref x))
    (k : G X p l e R s m args below meth c nL ck sk Qf (pc + 2) ls (.ref x :: rest) σ o) : G X p l e R s m args below meth c nL ck sk Qf pc ls rest σ o :=
  fun r σ' ho H locs la hR hS hl => lv_aload F.1 F.2.1 d (lv_at hl n hk) (k r σ' ho H locs la hR hS hl)
theorem g_aload_nN (F : FR p s m args c cc nL own X) {i : Fin 4} (d : decode cc pc = .ok (.aload_n i, 1)) (n : Nat) (hk : ls[n]? = some ((i : Nat), .null))
    (k : G X p l e R s m args below meth c nL ck sk Qf (pc + 1) ls (.null :: rest) σ o) : G X p l e R s m args below meth c nL ck sk Qf pc ls rest σ o :=
  fun r σ' ho H locs la hR hS hl => lv_aload_nN F.1 F.2.1 d rfl (lv_at hl n hk) (k r σ' ho H locs la hR hS hl)
theorem g_aloadN (F : FR p s m args c cc nL own X) {i : Nat} (d : decode cc pc = .ok (.aload i, 2)) (n : Nat) (hk : ls[n]? = some (i, .null))
    (k : G X p l e R s m args below meth c nL ck sk Qf (pc + 2) ls (.null :: rest) σ o) : G X p l e R s m args below meth c nL ck sk Qf pc ls rest σ o :=
  fun r σ' ho H locs la hR hS hl => lv_aloadN F.1 F.2.1 d (lv_at hl n hk) (k r σ' ho H locs la hR hS hl)
theorem g_iadd (F : FR p s m args c cc nL own X) {x y : Int32} (d : decode cc pc = .ok (.iadd, 1))
    (k : G X p l e R s m args below meth c nL ck sk Qf (pc + 1) ls (.int (x + y) :: rest) σ o) : G X p l e R s m args below meth c nL ck sk Qf pc ls (.int y :: .int x :: rest) σ o :=
  fun r σ' ho H locs la hR hS hl => lv_iadd F.1 F.2.1 d (k r σ' ho H locs la hR hS hl)
theorem g_isub (F : FR p s m args c cc nL own X) {x y : Int32} (d : decode cc pc = .ok (.isub, 1))
    (k : G X p l e R s m args below meth c nL ck sk Qf (pc + 1) ls (.int (x - y) :: rest) σ o) : G X p l e R s m args below meth c nL ck sk Qf pc ls (.int y :: .int x :: rest) σ o :=
  fun r σ' ho H locs la hR hS hl => lv_isub F.1 F.2.1 d (k r σ' ho H locs la hR hS hl)
theorem g_imul (F : FR p s m args c cc nL own X) {x y : Int32} (d : decode cc pc = .ok (.imul, 1))
    (k : G X p l e R s m args below meth c nL ck sk Qf (pc + 1) ls (.int (x * y) :: rest) σ o) : G X p l e R s m args below meth c nL ck sk Qf pc ls (.int y :: .int x :: rest) σ o :=
  fun r σ' ho H locs la hR hS hl => lv_imul F.1 F.2.1 d (k r σ' ho H locs la hR hS hl)
theorem g_iand (F : FR p s m args c cc nL own X) {x y : Int32} (d : decode cc pc = .ok (.iand, 1))
    (k : G X p l e R s m args below meth c nL ck sk Qf (pc + 1) ls (.int (x &&& y) :: rest) σ o) : G X p l e R s m args below meth c nL ck sk Qf pc ls (.int y :: .int x :: rest) σ o :=
  fun r σ' ho H locs la hR hS hl => lv_iand F.1 F.2.1 d (k r σ' ho H locs la hR hS hl)
theorem g_ior (F : FR p s m args c cc nL own X) {x y : Int32} (d : decode cc pc = .ok (.ior, 1))
    (k : G X p l e R s m args below meth c nL ck sk Qf (pc + 1) ls (.int (x ||| y) :: rest) σ o) : G X p l e R s m args below meth c nL ck sk Qf pc ls (.int y :: .int x :: rest) σ o :=
  fun r σ' ho H locs la hR hS hl => lv_ior F.1 F.2.1 d (k r σ' ho H locs la hR hS hl)
theorem g_ixor (F : FR p s m args c cc nL own X) {x y : Int32} (d : decode cc pc = .ok (.ixor, 1))
    (k : G X p l e R s m args below meth c nL ck sk Qf (pc + 1) ls (.int (x ^^^ y) :: rest) σ o) : G X p l e R s m args below meth c nL ck sk Qf pc ls (.int y :: .int x :: rest) σ o :=
  fun r σ' ho H locs la hR hS hl => lv_ixor F.1 F.2.1 d (k r σ' ho H locs la hR hS hl)
theorem g_ishl (F : FR p s m args c cc nL own X) {x y : Int32} (d : decode cc pc = .ok (.ishl, 1))
    (k : G X p l e R s m args below meth c nL ck sk Qf (pc + 1) ls (.int (x <<< (y &&& 31)) :: rest) σ o) : G X p l e R s m args below meth c nL ck sk Qf pc ls (.int y :: .int x :: rest) σ o :=
  fun r σ' ho H locs la hR hS hl => lv_ishl F.1 F.2.1 d (k r σ' ho H locs la hR hS hl)
theorem g_ishr (F : FR p s m args c cc nL own X) {x y : Int32} (d : decode cc pc = .ok (.ishr, 1))
    (k : G X p l e R s m args below meth c nL ck sk Qf (pc + 1) ls (.int (x >>> (y &&& 31)) :: rest) σ o) : G X p l e R s m args below meth c nL ck sk Qf pc ls (.int y :: .int x :: rest) σ o :=
  fun r σ' ho H locs la hR hS hl => lv_ishr F.1 F.2.1 d (k r σ' ho H locs la hR hS hl)
theorem g_ineg (F : FR p s m args c cc nL own X) {x : Int32} (d : decode cc pc = .ok (.ineg, 1))
    (k : G X p l e R s m args below meth c nL ck sk Qf (pc + 1) ls (.int (-x) :: rest) σ o) : G X p l e R s m args below meth c nL ck sk Qf pc ls (.int x :: rest) σ o :=
  fun r σ' ho H locs la hR hS hl => lv_ineg F.1 F.2.1 d (k r σ' ho H locs la hR hS hl)
theorem g_dup (F : FR p s m args c cc nL own X) {v : Value} (d : decode cc pc = .ok (.dup, 1)) (hv : v.category = 1)
    (k : G X p l e R s m args below meth c nL ck sk Qf (pc + 1) ls (v :: v :: rest) σ o) : G X p l e R s m args below meth c nL ck sk Qf pc ls (v :: rest) σ o :=
  fun r σ' ho H locs la hR hS hl => lv_dup F.1 F.2.1 d hv (k r σ' ho H locs la hR hS hl)
theorem g_pop (F : FR p s m args c cc nL own X) {v : Value} (d : decode cc pc = .ok (.pop, 1)) (hv : v.category = 1)
    (k : G X p l e R s m args below meth c nL ck sk Qf (pc + 1) ls rest σ o) : G X p l e R s m args below meth c nL ck sk Qf pc ls (v :: rest) σ o :=
  fun r σ' ho H locs la hR hS hl => lv_pop F.1 F.2.1 d hv (k r σ' ho H locs la hR hS hl)
theorem g_dup2 (F : FR p s m args c cc nL own X) {v w : Value} (d : decode cc pc = .ok (.dup2, 1)) (hv : v.category = 1) (hw : w.category = 1)
    (k : G X p l e R s m args below meth c nL ck sk Qf (pc + 1) ls (v :: w :: v :: w :: rest) σ o) : G X p l e R s m args below meth c nL ck sk Qf pc ls (v :: w :: rest) σ o :=
  fun r σ' ho H locs la hR hS hl => lv_dup2_11 F.1 F.2.1 d hv hw (k r σ' ho H locs la hR hS hl)
theorem g_null (F : FR p s m args c cc nL own X) (d : decode cc pc = .ok (.aconst_null, 1))
    (k : G X p l e R s m args below meth c nL ck sk Qf (pc + 1) ls (.null :: rest) σ o) : G X p l e R s m args below meth c nL ck sk Qf pc ls rest σ o :=
  fun r σ' ho H locs la hR hS hl => lv_null F.1 F.2.1 d (k r σ' ho H locs la hR hS hl)
theorem g_goto (F : FR p s m args c cc nL own X) {off : Int} {tgt : Nat} (d : decode cc pc = .ok (.goto off, 3)) (ht : (pc : Int) + off = (tgt : Int))
    (k : G X p l e R s m args below meth c nL ck sk Qf tgt ls rest σ o) : G X p l e R s m args below meth c nL ck sk Qf pc ls rest σ o :=
  fun r σ' ho H locs la hR hS hl => lv_goto F.1 F.2.1 d ht (k r σ' ho H locs la hR hS hl)
theorem g_ifnull (F : FR p s m args c cc nL own X) {x : Nat} {off : Int} (d : decode cc pc = .ok (.ifnull off, 3))
    (k : G X p l e R s m args below meth c nL ck sk Qf (pc + 3) ls rest σ o) : G X p l e R s m args below meth c nL ck sk Qf pc ls (.ref x :: rest) σ o :=
  fun r σ' ho H locs la hR hS hl => lv_ifnull F.1 F.2.1 d (k r σ' ho H locs la hR hS hl)
theorem g_ifnullN (F : FR p s m args c cc nL own X) {off : Int} {tgt : Nat} (d : decode cc pc = .ok (.ifnull off, 3)) (ht : (pc : Int) + off = (tgt : Int))
    (k : G X p l e R s m args below meth c nL ck sk Qf tgt ls rest σ o) : G X p l e R s m args below meth c nL ck sk Qf pc ls (.null :: rest) σ o :=
  fun r σ' ho H locs la hR hS hl => lv_ifnullN F.1 F.2.1 d ht (k r σ' ho H locs la hR hS hl)
theorem g_ifnonnull (F : FR p s m args c cc nL own X) {x : Nat} {off : Int} {tgt : Nat} (d : decode cc pc = .ok (.ifnonnull off, 3)) (ht : (pc : Int) + off = (tgt : Int))
    (k : G X p l e R s m args below meth c nL ck sk Qf tgt ls rest σ o) : G X p l e R s m args below meth c nL ck sk Qf pc ls (.ref x :: rest) σ o :=
  fun r σ' ho H locs la hR hS hl => lv_ifnonnull F.1 F.2.1 d ht (k r σ' ho H locs la hR hS hl)
theorem g_ifnonnullN (F : FR p s m args c cc nL own X) {off : Int} (d : decode cc pc = .ok (.ifnonnull off, 3))
    (k : G X p l e R s m args below meth c nL ck sk Qf (pc + 3) ls rest σ o) : G X p l e R s m args below meth c nL ck sk Qf pc ls (.null :: rest) σ o :=
  fun r σ' ho H locs la hR hS hl => lv_ifnonnullN F.1 F.2.1 d (k r σ' ho H locs la hR hS hl)
theorem g_if_eq (F : FR p s m args c cc nL own X) {x : Int32} {off : Int} {tgt : Nat} (d : decode cc pc = .ok (.ifCond .eq off, 3)) (ht : (pc : Int) + off = (tgt : Int))
    (k1 : x = 0 → G X p l e R s m args below meth c nL ck sk Qf tgt ls rest σ o1) (k2 : ¬ x = 0 → G X p l e R s m args below meth c nL ck sk Qf (pc + 3) ls rest σ o2) : G X p l e R s m args below meth c nL ck sk Qf pc ls (.int x :: rest) σ (if x = 0 then o1 else o2) :=
  g_if (fun q r σ' ho H locs la hR hS hl => lv_if_eq F.1 F.2.1 d ht (fun z => k1 z r σ' ho H locs la hR hS hl) (fun z => absurd q z)) (fun q r σ' ho H locs la hR hS hl => lv_if_eq F.1 F.2.1 d ht (fun z => absurd z q) (fun z => k2 z r σ' ho H locs la hR hS hl))
theorem g_if_lt (F : FR p s m args c cc nL own X) {x : Int32} {off : Int} {tgt : Nat} (d : decode cc pc = .ok (.ifCond .lt off, 3)) (ht : (pc : Int) + off = (tgt : Int))
    (k1 : x < 0 → G X p l e R s m args below meth c nL ck sk Qf tgt ls rest σ o1) (k2 : ¬ x < 0 → G X p l e R s m args below meth c nL ck sk Qf (pc + 3) ls rest σ o2) : G X p l e R s m args below meth c nL ck sk Qf pc ls (.int x :: rest) σ (if x < 0 then o1 else o2) :=
  g_if (fun q r σ' ho H locs la hR hS hl => lv_if_lt F.1 F.2.1 d ht (fun z => k1 z r σ' ho H locs la hR hS hl) (fun z => absurd q z)) (fun q r σ' ho H locs la hR hS hl => lv_if_lt F.1 F.2.1 d ht (fun z => absurd z q) (fun z => k2 z r σ' ho H locs la hR hS hl))
theorem g_if_ge (F : FR p s m args c cc nL own X) {x : Int32} {off : Int} {tgt : Nat} (d : decode cc pc = .ok (.ifCond .ge off, 3)) (ht : (pc : Int) + off = (tgt : Int))
    (k1 : 0 ≤ x → G X p l e R s m args below meth c nL ck sk Qf tgt ls rest σ o1) (k2 : ¬ 0 ≤ x → G X p l e R s m args below meth c nL ck sk Qf (pc + 3) ls rest σ o2) : G X p l e R s m args below meth c nL ck sk Qf pc ls (.int x :: rest) σ (if 0 ≤ x then o1 else o2) :=
  g_if (fun q r σ' ho H locs la hR hS hl => lv_if_ge F.1 F.2.1 d ht (fun z => k1 z r σ' ho H locs la hR hS hl) (fun z => absurd q z)) (fun q r σ' ho H locs la hR hS hl => lv_if_ge F.1 F.2.1 d ht (fun z => absurd z q) (fun z => k2 z r σ' ho H locs la hR hS hl))
theorem g_if_gt (F : FR p s m args c cc nL own X) {x : Int32} {off : Int} {tgt : Nat} (d : decode cc pc = .ok (.ifCond .gt off, 3)) (ht : (pc : Int) + off = (tgt : Int))
    (k1 : 0 < x → G X p l e R s m args below meth c nL ck sk Qf tgt ls rest σ o1) (k2 : ¬ 0 < x → G X p l e R s m args below meth c nL ck sk Qf (pc + 3) ls rest σ o2) : G X p l e R s m args below meth c nL ck sk Qf pc ls (.int x :: rest) σ (if 0 < x then o1 else o2) :=
  g_if (fun q r σ' ho H locs la hR hS hl => lv_if_gt F.1 F.2.1 d ht (fun z => k1 z r σ' ho H locs la hR hS hl) (fun z => absurd q z)) (fun q r σ' ho H locs la hR hS hl => lv_if_gt F.1 F.2.1 d ht (fun z => absurd z q) (fun z => k2 z r σ' ho H locs la hR hS hl))
theorem g_if_le (F : FR p s m args c cc nL own X) {x : Int32} {off : Int} {tgt : Nat} (d : decode cc pc = .ok (.ifCond .le off, 3)) (ht : (pc : Int) + off = (tgt : Int))
    (k1 : x ≤ 0 → G X p l e R s m args below meth c nL ck sk Qf tgt ls rest σ o1) (k2 : ¬ x ≤ 0 → G X p l e R s m args below meth c nL ck sk Qf (pc + 3) ls rest σ o2) : G X p l e R s m args below meth c nL ck sk Qf pc ls (.int x :: rest) σ (if x ≤ 0 then o1 else o2) :=
  g_if (fun q r σ' ho H locs la hR hS hl => lv_if_le F.1 F.2.1 d ht (fun z => k1 z r σ' ho H locs la hR hS hl) (fun z => absurd q z)) (fun q r σ' ho H locs la hR hS hl => lv_if_le F.1 F.2.1 d ht (fun z => absurd z q) (fun z => k2 z r σ' ho H locs la hR hS hl))
theorem g_icmp_eq (F : FR p s m args c cc nL own X) {x y : Int32} {off : Int} {tgt : Nat} (d : decode cc pc = .ok (.if_icmp .eq off, 3)) (ht : (pc : Int) + off = (tgt : Int))
    (k1 : x = y → G X p l e R s m args below meth c nL ck sk Qf tgt ls rest σ o1) (k2 : ¬ x = y → G X p l e R s m args below meth c nL ck sk Qf (pc + 3) ls rest σ o2) : G X p l e R s m args below meth c nL ck sk Qf pc ls (.int y :: .int x :: rest) σ (if x = y then o1 else o2) :=
  g_if (fun q r σ' ho H locs la hR hS hl => lv_icmp_eq F.1 F.2.1 d ht (fun z => k1 z r σ' ho H locs la hR hS hl) (fun z => absurd q z)) (fun q r σ' ho H locs la hR hS hl => lv_icmp_eq F.1 F.2.1 d ht (fun z => absurd z q) (fun z => k2 z r σ' ho H locs la hR hS hl))
theorem g_icmp_lt (F : FR p s m args c cc nL own X) {x y : Int32} {off : Int} {tgt : Nat} (d : decode cc pc = .ok (.if_icmp .lt off, 3)) (ht : (pc : Int) + off = (tgt : Int))
    (k1 : x < y → G X p l e R s m args below meth c nL ck sk Qf tgt ls rest σ o1) (k2 : ¬ x < y → G X p l e R s m args below meth c nL ck sk Qf (pc + 3) ls rest σ o2) : G X p l e R s m args below meth c nL ck sk Qf pc ls (.int y :: .int x :: rest) σ (if x < y then o1 else o2) :=
  g_if (fun q r σ' ho H locs la hR hS hl => lv_icmp_lt F.1 F.2.1 d ht (fun z => k1 z r σ' ho H locs la hR hS hl) (fun z => absurd q z)) (fun q r σ' ho H locs la hR hS hl => lv_icmp_lt F.1 F.2.1 d ht (fun z => absurd z q) (fun z => k2 z r σ' ho H locs la hR hS hl))
theorem g_icmp_ge (F : FR p s m args c cc nL own X) {x y : Int32} {off : Int} {tgt : Nat} (d : decode cc pc = .ok (.if_icmp .ge off, 3)) (ht : (pc : Int) + off = (tgt : Int))
    (k1 : y ≤ x → G X p l e R s m args below meth c nL ck sk Qf tgt ls rest σ o1) (k2 : ¬ y ≤ x → G X p l e R s m args below meth c nL ck sk Qf (pc + 3) ls rest σ o2) : G X p l e R s m args below meth c nL ck sk Qf pc ls (.int y :: .int x :: rest) σ (if y ≤ x then o1 else o2) :=
  g_if (fun q r σ' ho H locs la hR hS hl => lv_icmp_ge F.1 F.2.1 d ht (fun z => k1 z r σ' ho H locs la hR hS hl) (fun z => absurd q z)) (fun q r σ' ho H locs la hR hS hl => lv_icmp_ge F.1 F.2.1 d ht (fun z => absurd z q) (fun z => k2 z r σ' ho H locs la hR hS hl))
theorem g_icmp_gt (F : FR p s m args c cc nL own X) {x y : Int32} {off : Int} {tgt : Nat} (d : decode cc pc = .ok (.if_icmp .gt off, 3)) (ht : (pc : Int) + off = (tgt : Int))
    (k1 : y < x → G X p l e R s m args below meth c nL ck sk Qf tgt ls rest σ o1) (k2 : ¬ y < x → G X p l e R s m args below meth c nL ck sk Qf (pc + 3) ls rest σ o2) : G X p l e R s m args below meth c nL ck sk Qf pc ls (.int y :: .int x :: rest) σ (if y < x then o1 else o2) :=
  g_if (fun q r σ' ho H locs la hR hS hl => lv_icmp_gt F.1 F.2.1 d ht (fun z => k1 z r σ' ho H locs la hR hS hl) (fun z => absurd q z)) (fun q r σ' ho H locs la hR hS hl => lv_icmp_gt F.1 F.2.1 d ht (fun z => absurd z q) (fun z => k2 z r σ' ho H locs la hR hS hl))
theorem g_icmp_le (F : FR p s m args c cc nL own X) {x y : Int32} {off : Int} {tgt : Nat} (d : decode cc pc = .ok (.if_icmp .le off, 3)) (ht : (pc : Int) + off = (tgt : Int))
    (k1 : x ≤ y → G X p l e R s m args below meth c nL ck sk Qf tgt ls rest σ o1) (k2 : ¬ x ≤ y → G X p l e R s m args below meth c nL ck sk Qf (pc + 3) ls rest σ o2) : G X p l e R s m args below meth c nL ck sk Qf pc ls (.int y :: .int x :: rest) σ (if x ≤ y then o1 else o2) :=
  g_if (fun q r σ' ho H locs la hR hS hl => lv_icmp_le F.1 F.2.1 d ht (fun z => k1 z r σ' ho H locs la hR hS hl) (fun z => absurd q z)) (fun q r σ' ho H locs la hR hS hl => lv_icmp_le F.1 F.2.1 d ht (fun z => absurd z q) (fun z => k2 z r σ' ho H locs la hR hS hl))
theorem g_if_ne (F : FR p s m args c cc nL own X) {x : Int32} {off : Int} {tgt : Nat} (d : decode cc pc = .ok (.ifCond .ne off, 3)) (ht : (pc : Int) + off = (tgt : Int))
    (k1 : x = 0 → G X p l e R s m args below meth c nL ck sk Qf (pc + 3) ls rest σ o1) (k2 : ¬ x = 0 → G X p l e R s m args below meth c nL ck sk Qf tgt ls rest σ o2) : G X p l e R s m args below meth c nL ck sk Qf pc ls (.int x :: rest) σ (if x = 0 then o1 else o2) :=
  g_if (fun q r σ' ho H locs la hR hS hl => lv_if_ne F.1 F.2.1 d ht (fun z => absurd q z) (fun z => k1 q r σ' ho H locs la hR hS hl)) (fun q r σ' ho H locs la hR hS hl => lv_if_ne F.1 F.2.1 d ht (fun z => k2 z r σ' ho H locs la hR hS hl) (fun z => k2 q r σ' ho H locs la hR hS hl |> fun _ => (q z).elim))
theorem g_icmp_ne (F : FR p s m args c cc nL own X) {x y : Int32} {off : Int} {tgt : Nat} (d : decode cc pc = .ok (.if_icmp .ne off, 3)) (ht : (pc : Int) + off = (tgt : Int))
    (k1 : x = y → G X p l e R s m args below meth c nL ck sk Qf (pc + 3) ls rest σ o1) (k2 : ¬ x = y → G X p l e R s m args below meth c nL ck sk Qf tgt ls rest σ o2) : G X p l e R s m args below meth c nL ck sk Qf pc ls (.int y :: .int x :: rest) σ (if x = y then o1 else o2) :=
  g_if (fun q r σ' ho H locs la hR hS hl => lv_icmp_ne F.1 F.2.1 d ht (fun z => absurd q z) (fun z => k1 q r σ' ho H locs la hR hS hl)) (fun q r σ' ho H locs la hR hS hl => lv_icmp_ne F.1 F.2.1 d ht (fun z => k2 z r σ' ho H locs la hR hS hl) (fun z => k2 q r σ' ho H locs la hR hS hl |> fun _ => (q z).elim))
theorem g_idiv (F : FR p s m args c cc nL own X) {x y : Int32} (d : decode cc pc = .ok (.idiv, 1))
    (k : G X p l e R s m args below meth c nL ck sk Qf (pc + 1) ls (.int (x / y) :: rest) σ o) : G X p l e R s m args below meth c nL ck sk Qf pc ls (.int y :: .int x :: rest) σ (if y = 0 then none else o) :=
  g_if (fun _ => g_no) (fun q r σ' ho H locs la hR hS hl => lv_idiv F.1 F.2.1 d q (k r σ' ho H locs la hR hS hl))
theorem g_irem (F : FR p s m args c cc nL own X) {x y : Int32} (d : decode cc pc = .ok (.irem, 1))
    (k : G X p l e R s m args below meth c nL ck sk Qf (pc + 1) ls (.int (x - x / y * y) :: rest) σ o) : G X p l e R s m args below meth c nL ck sk Qf pc ls (.int y :: .int x :: rest) σ (if y = 0 then none else o) :=
  g_if (fun _ => g_no) (fun q r σ' ho H locs la hR hS hl => lv_irem F.1 F.2.1 d q (k r σ' ho H locs la hR hS hl))
theorem g_istore (F : FR p s m args c cc nL own X) {i : Nat} {x : Int32} {ls' : List (Nat × Value)} (d : decode cc pc = .ok (.istore i, 2)) (hn : i < nL) (hf : (i, Value.int x) :: ls.filter (fun q => !(q.1 == i) && !(q.1 + 1 == i && q.2.category == 2)) = ls')
    (k : G X p l e R s m args below meth c nL ck sk Qf (pc + 2) ls' rest σ o) : G X p l e R s m args below meth c nL ck sk Qf pc ls (Value.int x :: rest) σ o :=
  fun r σ' ho H locs la hR hS hl => lv_istore F.1 F.2.1 d hl hn hf (fun la hl => k r σ' ho H locs la hR hS hl)
theorem g_istore_n (F : FR p s m args c cc nL own X) {i : Fin 4} {x : Int32} {ls' : List (Nat × Value)} (d : decode cc pc = .ok (.istore_n i, 1)) (hn : (i : Nat) < nL) (hf : ((i : Nat), Value.int x) :: ls.filter (fun q => !(q.1 == (i : Nat)) && !(q.1 + 1 == (i : Nat) && q.2.category == 2)) = ls')
    (k : G X p l e R s m args below meth c nL ck sk Qf (pc + 1) ls' rest σ o) : G X p l e R s m args below meth c nL ck sk Qf pc ls (Value.int x :: rest) σ o :=
  fun r σ' ho H locs la hR hS hl => lv_istore_n F.1 F.2.1 d rfl hl hn hf (fun la hl => k r σ' ho H locs la hR hS hl)
theorem g_astore (F : FR p s m args c cc nL own X) {i : Nat} {x : Nat} {ls' : List (Nat × Value)} (d : decode cc pc = .ok (.astore i, 2)) (hn : i < nL) (hf : (i, Value.ref x) :: ls.filter (fun q => !(q.1 == i) && !(q.1 + 1 == i && q.2.category == 2)) = ls')
    (k : G X p l e R s m args below meth c nL ck sk Qf (pc + 2) ls' rest σ o) : G X p l e R s m args below meth c nL ck sk Qf pc ls (Value.ref x :: rest) σ o :=
  fun r σ' ho H locs la hR hS hl => lv_astore F.1 F.2.1 d hl hn hf (fun la hl => k r σ' ho H locs la hR hS hl)
theorem g_astore_n (F : FR p s m args c cc nL own X) {i : Fin 4} {x : Nat} {ls' : List (Nat × Value)} (d : decode cc pc = .ok (.astore_n i, 1)) (hn : (i : Nat) < nL) (hf : ((i : Nat), Value.ref x) :: ls.filter (fun q => !(q.1 == (i : Nat)) && !(q.1 + 1 == (i : Nat) && q.2.category == 2)) = ls')
    (k : G X p l e R s m args below meth c nL ck sk Qf (pc + 1) ls' rest σ o) : G X p l e R s m args below meth c nL ck sk Qf pc ls (Value.ref x :: rest) σ o :=
  fun r σ' ho H locs la hR hS hl => lv_astore_n F.1 F.2.1 d rfl hl hn hf (fun la hl => k r σ' ho H locs la hR hS hl)
theorem g_astoreN (F : FR p s m args c cc nL own X) {i : Nat}  {ls' : List (Nat × Value)} (d : decode cc pc = .ok (.astore i, 2)) (hn : i < nL) (hf : (i, Value.null) :: ls.filter (fun q => !(q.1 == i) && !(q.1 + 1 == i && q.2.category == 2)) = ls')
    (k : G X p l e R s m args below meth c nL ck sk Qf (pc + 2) ls' rest σ o) : G X p l e R s m args below meth c nL ck sk Qf pc ls (Value.null :: rest) σ o :=
  fun r σ' ho H locs la hR hS hl => lv_astoreN F.1 F.2.1 d hl hn hf (fun la hl => k r σ' ho H locs la hR hS hl)
theorem g_astore_nN (F : FR p s m args c cc nL own X) {i : Fin 4}  {ls' : List (Nat × Value)} (d : decode cc pc = .ok (.astore_n i, 1)) (hn : (i : Nat) < nL) (hf : ((i : Nat), Value.null) :: ls.filter (fun q => !(q.1 == (i : Nat)) && !(q.1 + 1 == (i : Nat) && q.2.category == 2)) = ls')
    (k : G X p l e R s m args below meth c nL ck sk Qf (pc + 1) ls' rest σ o) : G X p l e R s m args below meth c nL ck sk Qf pc ls (Value.null :: rest) σ o :=
  fun r σ' ho H locs la hR hS hl => lv_astore_nN F.1 F.2.1 d rfl hl hn hf (fun la hl => k r σ' ho H locs la hR hS hl)
theorem g_iinc (F : FR p s m args c cc nL own X) {i : Nat} {n : Int} {x v : Int32} {ls' : List (Nat × Value)} (d : decode cc pc = .ok (.iinc i n, 3)) (j : Nat) (hk : ls[j]? = some (i, .int x)) (hv : Int32.ofInt n = v) (hn : i < nL) (hf : (i, Value.int (x + v)) :: ls.filter (fun q => !(q.1 == i) && !(q.1 + 1 == i && q.2.category == 2)) = ls')
    (k : G X p l e R s m args below meth c nL ck sk Qf (pc + 3) ls' rest σ o) : G X p l e R s m args below meth c nL ck sk Qf pc ls rest σ o :=
  fun r σ' ho H locs la hR hS hl => lv_iinc F.1 F.2.1 d hl hk (by rw [hv]) hn hf (fun la hl => k r σ' ho H locs la hR hS hl)
/-! rows of the memory -/
theorem rep_int {v : Nat} {H : Heap} {n : Nat} (hR : Rep X σ H) (hv : xs X v = 1000 + n) : H[xa X v]? = some (vp_cell (xc X 0) (n, .inl (σ v))) := by
  have h := hR.1 v (by omega)
  rw [hv] at h
  have e : ce (xa X) (xc X) (σ v) (1000 + n) v = .inl (xc X 0, n, .inl (σ v)) := by
    unfold ce
    rw [if_pos (by omega)]
    simp
  rw [e] at h
  exact h
theorem g_iald (F : FR p s m args c cc nL own X) {v n : Nat} {i : Int32} (hv : xs X v = 1000 + n) (d : decode cc pc = .ok (.iaload, 1))
    (k : G X p l e R s m args below meth c nL ck sk Qf (pc + 1) ls (.int (σ v i.toNatClampNeg) :: rest) σ o) : G X p l e R s m args below meth c nL ck sk Qf pc ls (.int i :: .ref (xa X v) :: rest) σ (if ib i n then o else none) :=
  g_gd (fun hib r σ' ho H locs la hR hS hl => by
    have hin := vp_in_iff.mpr hib
    have hlt : i.toNatClampNeg < n := Nat.not_le.mp fun q => hin (Or.inr q)
    exact W.iald (v := .int (σ v i.toNatClampNeg)) F.1 F.2.1 (rep_int hR hv) ((F.2.2.2.2.2.1.2 0 _ rfl).1 n (fun j => .int (σ v j))) (fun q => by cases q) (by show ¬ (i < 0 ∨ (arrV _ _ _).slots.size ≤ _); rw [arrV_size]; exact hin) (by show (arrV _ _ _).slots[_]? = _; rw [arrV_read _ _ hlt]) rfl rfl d (k r σ' ho H locs la hR hS hl))
/-- one cell's numbers change: the world with the new memory -/
theorem rep_set {v : Nat} {H H1 : Heap} {σ2 : Mem} (hR : Rep X σ H) (hx : Cx X s) (hv : xs X v ≠ 0) (h1 : va_at (xD X) classes (xa X v, ce (xa X) (xc X) (σ2 v) (xs X v) v) H1) (hq : ∀ q, q ≠ xa X v → H1[q]? = H[q]?) (hz : H1.size = H.size) (ho : ∀ w, w ≠ v → σ2 w = σ w) : Rep X σ2 H1 := by
  refine ⟨fun w hw => ?_, by rw [hz]; exact hR.2⟩
  by_cases e : w = v
  · subst e; exact h1
  · rw [ho w e]
    exact (hR.1 w hw).kept (hq _ (fun z => e (hx.2.1 w v hw hv z)))
theorem wr_self {v k : Nat} {x : Int32} : wr σ v k x v = upd (σ v) k x := by
  funext j
  simp [wr, upd]
theorem wr_other {v k w : Nat} {x : Int32} (h : w ≠ v) : wr σ v k x w = σ w := by
  funext j
  simp [wr, h]
theorem g_iast (F : FR p s m args c cc nL own X) {v n : Nat} {i x : Int32} (hv : xs X v = 1000 + n) (d : decode cc pc = .ok (.iastore, 1))
    (k : G X p l e R s m args below meth c nL ck sk Qf (pc + 1) ls rest (wr σ v i.toNatClampNeg x) o) : G X p l e R s m args below meth c nL ck sk Qf pc ls (.int x :: .int i :: .ref (xa X v) :: rest) σ (if ib i n then o else none) :=
  g_gd (fun hib r σ' ho H locs la hR hS hl => by
    have hin := vp_in_iff.mpr hib
    refine W.iast F.1 F.2.1 (rep_int hR hv) ((F.2.2.2.2.2.1.2 0 _ rfl).1 n (fun j => .int (σ v j))) (fun q => by cases q) (by show ¬ (i < 0 ∨ (arrV _ _ _).slots.size ≤ _); rw [arrV_size]; exact hin) rfl rfl d fun H1 e z oq => ?_
    refine k r σ' ho H1 _ la (rep_set hR F.2.2.2.2.2 (by omega) ?_ oq z (fun w hw => wr_other hw)) (hS.put z oq (F.2.2.2.2.2.2.2.1 v (by omega))) hl
    rw [wr_self, hv]
    have e1 : ce (xa X) (xc X) (upd (σ v) i.toNatClampNeg x) (1000 + n) v = .inl (xc X 0, n, .inl (upd (σ v) i.toNatClampNeg x)) := by
      unfold ce
      rw [if_pos (by omega)]
      simp
    rw [e1]
    show H1[xa X v]? = some (vp_cell _ _)
    rw [e, vp_cell_i, vp_cell_i, arrV_store]
    congr 2
    funext q
    by_cases hq : q = i.toNatClampNeg
    · subst hq
      simp [updV, upd]
    · simp [updV, upd, hq])
theorem rep_bool {v : Nat} {H : Heap} (hR : Rep X σ H) (hv : xs X v = 20) : H[xa X v]? = some (vp_cell (xc X 1) (8, .inl (σ v))) := by
  have h := hR.1 v (by omega)
  rw [hv] at h
  exact h
theorem g_zald (F : FR p s m args c cc nL own X) {v : Nat} {i : Int32} (hv : xs X v = 20) (d : decode cc pc = .ok (.baload, 1))
    (k : G X p l e R s m args below meth c nL ck sk Qf (pc + 1) ls (.int (σ v i.toNatClampNeg) :: rest) σ o) : G X p l e R s m args below meth c nL ck sk Qf pc ls (.int i :: .ref (xa X v) :: rest) σ (if ib i 8 then o else none) :=
  g_gd (fun hib r σ' ho H locs la hR hS hl => by
    have hin := vp_in_iff.mpr hib
    have hlt : i.toNatClampNeg < 8 := Nat.not_le.mp fun q => hin (Or.inr q)
    exact W.zald (v := .int (σ v i.toNatClampNeg)) F.1 F.2.1 (rep_bool hR hv) ((F.2.2.2.2.2.1.2 1 _ rfl).1 8 (fun j => .int (σ v j))) (fun q => by cases q) (by show ¬ (i < 0 ∨ (arrV _ _ _).slots.size ≤ _); rw [arrV_size]; exact hin) (by show (arrV _ _ _).slots[_]? = _; rw [arrV_read _ _ hlt]) rfl rfl d (k r σ' ho H locs la hR hS hl))
theorem g_zast (F : FR p s m args c cc nL own X) {v : Nat} {i x : Int32} (hv : xs X v = 20) (d : decode cc pc = .ok (.bastore, 1))
    (k : G X p l e R s m args below meth c nL ck sk Qf (pc + 1) ls rest (wr σ v i.toNatClampNeg (x &&& 1)) o) : G X p l e R s m args below meth c nL ck sk Qf pc ls (.int x :: .int i :: .ref (xa X v) :: rest) σ (if ib i 8 then o else none) :=
  g_gd (fun hib r σ' ho H locs la hR hS hl => by
    have hin := vp_in_iff.mpr hib
    refine W.zast F.1 F.2.1 (rep_bool hR hv) ((F.2.2.2.2.2.1.2 1 _ rfl).1 8 (fun j => .int (σ v j))) (fun q => by cases q) (by show ¬ (i < 0 ∨ (arrV _ _ _).slots.size ≤ _); rw [arrV_size]; exact hin) rfl rfl d fun H1 e z oq => ?_
    refine k r σ' ho H1 _ la (rep_set hR F.2.2.2.2.2 (by omega) ?_ oq z (fun w hw => wr_other hw)) (hS.put z oq (F.2.2.2.2.2.2.2.1 v (by omega))) hl
    rw [wr_self, hv]
    show H1[xa X v]? = some (vp_cell (xc X 1) (8, .inl (upd (σ v) i.toNatClampNeg (x &&& 1))))
    rw [e, vp_cell_i, vp_cell_i, arrV_store]
    congr 2
    funext q
    by_cases hq : q = i.toNatClampNeg
    · subst hq
      simp [updV, upd, narrow]
    · simp [updV, upd, hq])
theorem rep_ref {v κ t n dd u : Nat} {H : Heap} (hR : Rep X σ H) (hv : xs X v = κ) (hk : (κ = 21 ∧ t = 2 ∧ n = 8 ∧ dd = 8 ∧ u = 2) ∨ (κ = 22 ∧ t = 3 ∧ n = 8 ∧ dd = 23 ∧ u = 2) ∨ (κ = 23 ∧ t = 4 ∧ n = 5 ∧ dd = 1 ∧ u = 42)) : H[xa X v]? = some (vp_cell (xc X t) (n, .inr (.inr (.inr (.inr (fun j => some (xa X (v + (dd + u * j))))))))) := by
  have h := hR.1 v (by omega)
  rw [hv] at h
  rcases hk with ⟨rfl, rfl, rfl, rfl, rfl⟩ | ⟨rfl, rfl, rfl, rfl, rfl⟩ | ⟨rfl, rfl, rfl, rfl, rfl⟩ <;> exact h
theorem g_aald (F : FR p s m args c cc nL own X) {v : Nat} (κ t n dd u : Nat) (C : String) {i : Int32} (hv : xs X v = κ) (hk : (κ = 21 ∧ t = 2 ∧ n = 8 ∧ dd = 8 ∧ u = 2) ∨ (κ = 22 ∧ t = 3 ∧ n = 8 ∧ dd = 23 ∧ u = 2) ∨ (κ = 23 ∧ t = 4 ∧ n = 5 ∧ dd = 1 ∧ u = 42)) (ht : (tys X)[t]? = some (xc X t, .object C)) (d : decode cc pc = .ok (.aaload, 1))
    (k : i.toNatClampNeg < n → G X p l e R s m args below meth c nL ck sk Qf (pc + 1) ls (.ref (xa X (v + (dd + u * i.toNatClampNeg))) :: rest) σ o) : G X p l e R s m args below meth c nL ck sk Qf pc ls (.int i :: .ref (xa X v) :: rest) σ (if ib i n then o else none) :=
  g_gd (fun hib r σ' ho H locs la hR hS hl => by
    have hin := vp_in_iff.mpr hib
    have hlt : i.toNatClampNeg < n := Nat.not_le.mp fun q => hin (Or.inr q)
    exact W.aald (v := .ref (xa X (v + (dd + u * i.toNatClampNeg)))) (ty := .object C) F.1 F.2.1 (rep_ref hR hv hk) ((F.2.2.2.2.2.1.2 t _ ht).1 n (fun j => va_rf (some (xa X (v + (dd + u * j)))))) rfl (fun q => by cases q) (by show ¬ (i < 0 ∨ (arrV _ _ _).slots.size ≤ _); rw [arrV_size]; exact hin) (by show (arrV _ _ _).slots[_]? = _; rw [arrV_read _ _ hlt]; rfl) rfl rfl d (k hlt r σ' ho H locs la hR hS hl))
theorem ce_obj {a : Nat → Nat} {cA : Nat → ClassId} {f : Nat → Int32} {κ v : Nat} (h : κ < 20 ∨ (100 ≤ κ ∧ κ < 200)) : ce a cA f κ v = .inr (cix κ, fl a f v (spc κ) 0) := by
  unfold ce
  rw [if_neg (by omega), if_neg (by omega), if_neg (by omega), if_neg (by omega), if_neg (by omega), if_neg (by omega), if_neg (by omega), if_neg (by omega)]
theorem rep_obj {v ci : Nat} {H : Heap} (hR : Rep X σ H) (hv : xs X v = ci + 1) (hc : ci < 9) : va_at (xD X) classes (xa X v, .inr (ci, fl (xa X) (σ v) v (spc (ci + 1)) 0)) H := by
  have h := hR.1 v (by omega)
  rw [hv, ce_obj (by omega), show cix (ci + 1) = ci from by unfold cix; rw [if_neg (by omega)]; omega] at h
  exact h
theorem g_getV (F : FR p s m args c cc nL own X) {v index ci j : Nat} {w : Value} (hF : FS own index ci j) (hv : xs X v = ci + 1) (hw : (fl (xa X) (σ v) v (spc (ci + 1)) 0)[j]? = some w) (d : decode cc pc = .ok (.getfield index, 3))
    (k : G X p l e R s m args below meth c nL ck sk Qf (pc + 3) ls (w :: rest) σ o) : G X p l e R s m args below meth c nL ck sk Qf pc ls (.ref (xa X v) :: rest) σ o := fun r σ' ho H locs la hR hS hl => by
  obtain ⟨C, T, N, hc, hk, hd, hlk⟩ := hF
  have hci : ci < 9 := (List.getElem?_eq_some_iff.mp hc).1
  have hP : va_P (xD X) classes [(xa X v, .inr (ci, fl (xa X) (σ v) v (spc (ci + 1)) 0))] H := by
    intro q x hx
    cases q with
    | zero => simp at hx; subst hx; exact rep_obj hR hv hci
    | succ q => simp at hx
  exact va_get F.1 F.2.1 F.2.2.2.2.1 (cls_in ci C T N hc) F.2.2.2.1 F.2.2.2.2.2.1 hP 0 rfl hc j hk (F.2.2.2.2.1 _ hlk) (fun x h => by rw [hd] at h; exact h) hw d (k r σ' ho H locs la hR hS hl)
theorem g_getI (F : FR p s m args c cc nL own X) {v index ci j : Nat} (hF : FS own index ci j) (hv : xs X v = ci + 1) (hs : (spc (ci + 1))[j]? = some none) (d : decode cc pc = .ok (.getfield index, 3))
    (k : G X p l e R s m args below meth c nL ck sk Qf (pc + 3) ls (.int (σ v j) :: rest) σ o) : G X p l e R s m args below meth c nL ck sk Qf pc ls (.ref (xa X v) :: rest) σ o :=
  g_getV F hF hv (by have h := fl_int (a := xa X) (f := σ v) (v := v) _ 0 j hs; rw [Nat.zero_add] at h; exact h) d k
theorem g_getR (F : FR p s m args c cc nL own X) {v index ci j dd : Nat} (hF : FS own index ci j) (hv : xs X v = ci + 1) (hs : (spc (ci + 1))[j]? = some (some dd)) (d : decode cc pc = .ok (.getfield index, 3))
    (k : G X p l e R s m args below meth c nL ck sk Qf (pc + 3) ls (.ref (xa X (v + dd)) :: rest) σ o) (hdd : dd ≠ 0 := by decide) : G X p l e R s m args below meth c nL ck sk Qf pc ls (.ref (xa X v) :: rest) σ o :=
  g_getV F hF hv (fl_ref hdd _ 0 j hs) d k
theorem g_put (F : FR p s m args c cc nL own X) {v index ci j : Nat} {x : Int32} {ty : FieldType} (hF : FW own index ci j ty) (hv : xs X v = ci + 1) (hs : (spc (ci + 1))[j]? = some none) (hn : narrow ty (.int x) = .int x) (hfit : fits ty (.int x) = true) (d : decode cc pc = .ok (.putfield index, 3))
    (k : G X p l e R s m args below meth c nL ck sk Qf (pc + 3) ls rest (wr σ v j x) o) : G X p l e R s m args below meth c nL ck sk Qf pc ls (.int x :: .ref (xa X v) :: rest) σ o := fun r σ' ho H locs la hR hS hl => by
  obtain ⟨C, T, N, hc, hk, hd, hlk, hfin, hty⟩ := hF
  have hci : ci < 9 := (List.getElem?_eq_some_iff.mp hc).1
  obtain ⟨ty0, htys, hnm⟩ := cls_ty ci C T N hc
  have hK := F.2.2.2.2.2.1
  have hts := F.2.2.2.2.1
  have hin := cls_in ci C T N hc
  have hap := va_apart (own := own) hts hin ty0 htys hnm hK hc
  obtain ⟨rr, h1, cell, q1, q2, q3, q4⟩ := rep_obj hR hv hci
  have hr : rr = (C, T, N) := Option.some.inj (h1.symm.trans hc)
  subst hr
  obtain ⟨hSl, hfc, kC, hkC, hkind⟩ := hK.1 ci _ hc
  obtain ⟨cf, kf, fi, f, hi, hsl⟩ := hSl j hk
  have hlay := hts _ (hin _ (u_in_lay hk))
  unfold u_lay at hlay
  rw [if_neg (by rw [hfin]; decide)] at hlay
  have hst := (u_facts hfc hkC (u_lays hts hin hk) hi).1
  have h6 := u_store hfc hkC hkind hlay hi hty hn hfit
  refine W.putK F.1 F.2.1 (f := f) ⟨F.2.2.2.1, hts _ hlk, ⟨_, _, _, by rw [hd] at hi; exact hi⟩, hst⟩ (by rw [q2]; exact h6) q1 q3 (by rw [hsl]; exact k2_hasslot (q4 j hk)) rfl rfl d fun H' e1 e2 e3 => ?_
  rw [hsl] at e1 ⊢
  refine k r σ' ho H' _ la (rep_set hR F.2.2.2.2.2 (by omega) ?_ e3 e2 (fun w hw => wr_other hw)) (hS.put e2 e3 (F.2.2.2.2.2.2.2.1 v (by omega))) hl
  have e : ce (xa X) (xc X) (wr σ v j x v) (xs X v) v = .inr (ci, (fl (xa X) (σ v) v (spc (ci + 1)) 0).set j (.int x)) := by
    rw [wr_self, hv, ce_obj (by omega), show cix (ci + 1) = ci from by unfold cix; rw [if_neg (by omega)]; omega, fl_set _ 0 j hs, Nat.zero_add]
  rw [e]
  have hl2 : j < (fl (xa X) (σ v) v (spc (ci + 1)) 0).length := by
    rw [fl_len]
    exact (List.getElem?_eq_some_iff.mp hs).1
  exact ⟨_, hc, t_OB.to (V := updV (vp_V _) j (.int x)) ⟨_, e1, q2, q3, t_set q4 hap hk (.int x)⟩ (fun q _ => vp_updV_set hl2 (.int x) q)⟩
theorem g_putI (F : FR p s m args c cc nL own X) {v index ci j : Nat} {x : Int32} (hF : FW own index ci j .int) (hv : xs X v = ci + 1) (hs : (spc (ci + 1))[j]? = some none) (d : decode cc pc = .ok (.putfield index, 3))
    (k : G X p l e R s m args below meth c nL ck sk Qf (pc + 3) ls rest (wr σ v j x) o) : G X p l e R s m args below meth c nL ck sk Qf pc ls (.int x :: .ref (xa X v) :: rest) σ o :=
  g_put F hF hv hs rfl rfl d k
theorem g_putZ (F : FR p s m args c cc nL own X) {v index ci j : Nat} {x : Int32} (hF : FW own index ci j .boolean) (hv : xs X v = ci + 1) (hs : (spc (ci + 1))[j]? = some none) (d : decode cc pc = .ok (.putfield index, 3))
    (k : G X p l e R s m args below meth c nL ck sk Qf (pc + 3) ls rest (wr σ v j x) o) : G X p l e R s m args below meth c nL ck sk Qf pc ls (.int x :: .ref (xa X v) :: rest) σ (if x &&& 1 = x then o else none) :=
  g_gd (fun q => g_put F hF hv hs (by show Value.int (x &&& 1) = _; rw [q]) (by have h := fits_narrow_boolean x; rw [show narrow .boolean (.int x) = .int (x &&& 1) from rfl, q] at h; exact h) d k)
/-! calls and ends -/
def CSV (own : String) (index : Nat) (y : MethodName) (bytes : ByteArray) (maxL : Nat) (ret : Option FieldType) (n : Nat) : Prop :=
  Cond.methodLink own index y ∈ gw ∧ Cond.instanceMethod y ∈ gw ∧ Cond.selects y.cls y y ∈ gw ∧ Cond.initialized y.cls ∈ gw ∧ Cond.code y bytes maxL ret ∈ gw ∧ (y.cls ≠ "java/lang/invoke/MethodHandle" ∧ y.cls ≠ "java/lang/invoke/VarHandle") ∧ (parseMethodDescriptor y.desc).map (fun d => d.parameters.length) = some n
def CSS (own : String) (index : Nat) (y : MethodName) (bytes : ByteArray) (maxL : Nat) (ret : Option FieldType) (n : Nat) : Prop :=
  Cond.methodLink own index y ∈ gw ∧ Cond.static y ∈ gw ∧ Cond.initialized y.cls ∈ gw ∧ Cond.code y bytes maxL ret ∈ gw ∧ (y.cls ≠ "java/lang/invoke/MethodHandle" ∧ y.cls ≠ "java/lang/invoke/VarHandle") ∧ (parseMethodDescriptor y.desc).map (fun d => d.parameters.length) = some n
def CSN (own : String) (index : Nat) (y : MethodName) (host : String) (bytes : ByteArray) (maxL : Nat) (ret : Option FieldType) (n : Nat) : Prop :=
  (own, index, y, host) ∈ nestL ∧ Cond.static y ∈ gw ∧ Cond.initialized y.cls ∈ gw ∧ Cond.code y bytes maxL ret ∈ gw ∧ (y.cls ≠ "java/lang/invoke/MethodHandle" ∧ y.cls ≠ "java/lang/invoke/VarHandle") ∧ (parseMethodDescriptor y.desc).map (fun d => d.parameters.length) = some n
theorem g_callV {ρ' : Type} {vl : ρ' → Option Value} {y : MethodName} {bytes : ByteArray} {maxL dp n index v ci : Nat} {ret : Option FieldType} {As st : List Value} {oc : Option (ρ' × Mem)} {kf : ρ' → Mem → Option (ρ × Mem)}
    (F : FR p s m args c cc nL own X) (hC : CT X l y bytes maxL ret dp vl (.ref (xa X v) :: As) σ oc) (hW : CSV own index y bytes maxL ret n) (hv : xs X v = ci + 1) (hcls : (classes[ci]?).map (fun q => q.1) = some y.cls) (hst : st = As.reverse ++ .ref (xa X v) :: rest) (hn : As.length = n) (hcat : (rest.map fun v => v.category).sum ≤ 8) (hroom : dp + 1 ≤ R.frames ∧ 8 + (maxL + 11) + 35 * dp ≤ R.locals) (hck : ck ≤ R.cells ∧ sk ≤ R.slots) (d : decode cc pc = .ok (.invokevirtual index, 3))
    (k : ∀ r2 σ2, oc = some (r2, σ2) → G X p l e R s m args below meth c nL ck sk Qf (pc + 3) ls ((vl r2).toList ++ rest) σ2 (kf r2 σ2)) : G X p l e R s m args below meth c nL ck sk Qf pc ls st σ (bd oc kf) := by
  subst hst
  cases ho2 : oc with
  | none => exact g_no
  | some w =>
    obtain ⟨r2, σ2⟩ := w
    intro r σ' ho H locs la hR hS hl
    obtain ⟨hlink, hinst, hsel, hini, hcode, hy, hpar⟩ := hW
    obtain ⟨hx, hb, hml, hown, hts, hcx⟩ := F
    have hlen : ∀ sig, parseMethodDescriptor y.desc = some sig → n = sig.parameters.length := fun sig h => by
      rw [h] at hpar
      exact (Option.some.inj hpar).symm
    have hws : ∀ w ∈ (Cond.code y bytes maxL ret :: gw), ∀ (a' : Array Value) (U : State), s.WarmedH U.vm → w.before a' U = true := fun w hw a' U hW => by
      have hw' : w ∈ gw := (List.mem_cons.mp hw).elim (fun q => by rw [q]; exact hcode) id
      exact word_at hW (good_of_word (gw_ok w hw')) (hts w hw')
    obtain ⟨q, hq, hqc⟩ : ∃ q, classes[ci]? = some q ∧ q.1 = y.cls := by
      cases hc : classes[ci]? with
      | none => rw [hc] at hcls; cases hcls
      | some q => rw [hc] at hcls; exact ⟨q, rfl, Option.some.inj hcls⟩
    have hci : ci < 9 := (List.getElem?_eq_some_iff.mp hq).1
    have hrec : ∃ cellB : Cell, H[xa X v]? = some cellB ∧ cellB.vm.isStatics = false ∧ s.vm.findClass y.cls = some cellB.cls := by
      obtain ⟨q', h1, cell, g1, g2, g3, -⟩ := rep_obj hR hv hci
      exact ⟨cell, g1, by rw [g3]; rfl, by rw [g2, ← hqc]; exact (hcx.1.1 ci q hq).2.1⟩
    have run := va_runV (cells := ck) (slots := sk) (locs := locs) (H := H) (g := F0 m pc la (As.reverse ++ .ref (xa X v) :: rest)) (rest := rest) (As := As) (b := xa X v) (C := y.cls) (n := n) (p := p) (e := e) (R := R) (below := below) (meth := meth) ⟨hx, hb, hml, hown, hts⟩ (hC r2 σ2 ho2)
      ⟨⟨rfl, rfl, hroom.1, hroom.2, hws, List.mem_cons_self, hts _ hcode, hts _ hini, hy, hlen, hts _ hlink⟩, hts _ hinst, hts _ hsel⟩
      ⟨fun a U g mk q => ⟨q.1, q.2.1, Cx.same (u := U) (U := U.calling g mk a) rfl rfl q.2.2⟩, hrec, fun U hU hW => ⟨rfl, by rw [hU]; exact hR, Cx.warm hW (by rw [hU]; exact hS.2.1) hcx⟩⟩
      rfl hn hl.1 rfl (lv_room hcat) d hck
    intro T hT XX
    obtain ⟨v', st₀, t, T', L, h0, X', hL, e1, e2, hq2, hgo⟩ := run T hT XX
    obtain ⟨hv', hRep, hF⟩ := hq2
    cases hv'
    rw [← e1] at hRep
    obtain ⟨hz, hk⟩ := hF
    rw [h0, ← e1] at hz hk
    obtain ⟨t2, a1, b1⟩ := k r2 σ2 ho2 r σ' ho T'.heap (locs ++ L) la hRep ⟨Nat.le_trans hS.1 hz, fun q h1 h2 => by rw [hk q (Nat.lt_of_lt_of_le h1 hS.1) h2]; exact hS.2.1 q h1 h2, fun q hq => by
      rcases List.mem_append.mp hq with h | h
      · exact hS.2.2 q h
      · exact hL q h⟩ hl T' rfl X'
    exact ⟨t2, hgo t2 a1, b1⟩
theorem g_callS {ρ' : Type} {vl : ρ' → Option Value} {y : MethodName} {bytes : ByteArray} {maxL dp n index : Nat} {ret : Option FieldType} {As st : List Value} {oc : Option (ρ' × Mem)} {kf : ρ' → Mem → Option (ρ × Mem)}
    (F : FR p s m args c cc nL own X) (hC : CT X l y bytes maxL ret dp vl As σ oc) (hW : CSS own index y bytes maxL ret n) (hst : st = As.reverse ++ rest) (hn : As.length = n) (hcat : (rest.map fun v => v.category).sum ≤ 8) (hroom : dp + 1 ≤ R.frames ∧ 8 + (maxL + 11) + 35 * dp ≤ R.locals) (hck : ck ≤ R.cells ∧ sk ≤ R.slots) (d : decode cc pc = .ok (.invokestatic index, 3))
    (k : ∀ r2 σ2, oc = some (r2, σ2) → G X p l e R s m args below meth c nL ck sk Qf (pc + 3) ls ((vl r2).toList ++ rest) σ2 (kf r2 σ2)) : G X p l e R s m args below meth c nL ck sk Qf pc ls st σ (bd oc kf) := by
  subst hst
  cases ho2 : oc with
  | none => exact g_no
  | some w =>
    obtain ⟨r2, σ2⟩ := w
    intro r σ' ho H locs la hR hS hl
    obtain ⟨hlink, hstat, hini, hcode, hy, hpar⟩ := hW
    obtain ⟨hx, hb, hml, hown, hts, hcx⟩ := F
    have hlen : ∀ sig, parseMethodDescriptor y.desc = some sig → n = sig.parameters.length := fun sig h => by
      rw [h] at hpar
      exact (Option.some.inj hpar).symm
    have hws : ∀ w ∈ (Cond.code y bytes maxL ret :: gw), ∀ (a' : Array Value) (U : State), s.WarmedH U.vm → w.before a' U = true := fun w hw a' U hW => by
      have hw' : w ∈ gw := (List.mem_cons.mp hw).elim (fun q => by rw [q]; exact hcode) id
      exact word_at hW (good_of_word (gw_ok w hw')) (hts w hw')
    have run := va_runS (cells := ck) (slots := sk) (locs := locs) (H := H) (g := F0 m pc la (As.reverse ++ rest)) (rest := rest) (As := As) (n := n) (p := p) (e := e) (R := R) (below := below) (meth := meth) ⟨hx, hb, hml, hown, hts⟩ (hC r2 σ2 ho2)
      ⟨⟨rfl, rfl, hroom.1, hroom.2, hws, List.mem_cons_self, hts _ hcode, hts _ hini, hy, hlen, hts _ hlink⟩, hts _ hstat⟩
      ⟨fun a U g mk q => ⟨q.1, q.2.1, Cx.same (u := U) (U := U.calling g mk a) rfl rfl q.2.2⟩, fun U hU hW => ⟨rfl, by rw [hU]; exact hR, Cx.warm hW (by rw [hU]; exact hS.2.1) hcx⟩⟩
      rfl hn hl.1 rfl (lv_room hcat) d hck
    intro T hT XX
    obtain ⟨v', st₀, t, T', L, h0, X', hL, e1, e2, hq2, hgo⟩ := run T hT XX
    obtain ⟨hv', hRep, hF⟩ := hq2
    cases hv'
    rw [← e1] at hRep
    obtain ⟨hz, hk⟩ := hF
    rw [h0, ← e1] at hz hk
    obtain ⟨t2, a1, b1⟩ := k r2 σ2 ho2 r σ' ho T'.heap (locs ++ L) la hRep ⟨Nat.le_trans hS.1 hz, fun q h1 h2 => by rw [hk q (Nat.lt_of_lt_of_le h1 hS.1) h2]; exact hS.2.1 q h1 h2, fun q hq => by
      rcases List.mem_append.mp hq with h | h
      · exact hS.2.2 q h
      · exact hL q h⟩ hl T' rfl X'
    exact ⟨t2, hgo t2 a1, b1⟩
theorem g_callSN {ρ' : Type} {vl : ρ' → Option Value} {y : MethodName} {bytes : ByteArray} {maxL dp n index : Nat} {ret : Option FieldType} {As st : List Value} {oc : Option (ρ' × Mem)} {kf : ρ' → Mem → Option (ρ × Mem)}
    (F : FR p s m args c cc nL own X) (hC : CT X l y bytes maxL ret dp vl As σ oc) {host : String} (hW : CSN own index y host bytes maxL ret n) (hst : st = As.reverse ++ rest) (hn : As.length = n) (hcat : (rest.map fun v => v.category).sum ≤ 8) (hroom : dp + 1 ≤ R.frames ∧ 8 + (maxL + 11) + 35 * dp ≤ R.locals) (hck : ck ≤ R.cells ∧ sk ≤ R.slots) (d : decode cc pc = .ok (.invokestatic index, 3))
    (k : ∀ r2 σ2, oc = some (r2, σ2) → G X p l e R s m args below meth c nL ck sk Qf (pc + 3) ls ((vl r2).toList ++ rest) σ2 (kf r2 σ2)) : G X p l e R s m args below meth c nL ck sk Qf pc ls st σ (bd oc kf) := by
  subst hst
  cases ho2 : oc with
  | none => exact g_no
  | some w =>
    obtain ⟨r2, σ2⟩ := w
    intro r σ' ho H locs la hR hS hl
    obtain ⟨hlink, hstat, hini, hcode, hy, hpar⟩ := hW
    have hcx0 := F.2.2.2.2.2.2.2.2.1
    obtain ⟨hx, hb, hml, hown, hts, hcx⟩ := F
    have hlen : ∀ sig, parseMethodDescriptor y.desc = some sig → n = sig.parameters.length := fun sig h => by
      rw [h] at hpar
      exact (Option.some.inj hpar).symm
    have hws : ∀ w ∈ (Cond.code y bytes maxL ret :: gw), ∀ (a' : Array Value) (U : State), s.WarmedH U.vm → w.before a' U = true := fun w hw a' U hW => by
      have hw' : w ∈ gw := (List.mem_cons.mp hw).elim (fun q => by rw [q]; exact hcode) id
      exact word_at hW (good_of_word (gw_ok w hw')) (hts w hw')
    have run := va_runSN (host := host) (cells := ck) (slots := sk) (locs := locs) (H := H) (g := F0 m pc la (As.reverse ++ rest)) (rest := rest) (As := As) (n := n) (p := p) (e := e) (R := R) (below := below) (meth := meth) ⟨hx, hb, hml, hown, hts⟩ (hC r2 σ2 ho2)
      ⟨⟨⟨rfl, rfl, hroom.1, hroom.2, hws, List.mem_cons_self⟩, hts _ hcode, hts _ hini, hy, hlen, va_Nw.use rfl (hcx0 _ hlink)⟩, hts _ hstat, trivial⟩
      ⟨fun a U g mk q => ⟨q.1, q.2.1, Cx.same (u := U) (U := U.calling g mk a) rfl rfl q.2.2⟩, fun U hU hW => ⟨rfl, by rw [hU]; exact hR, Cx.warm hW (by rw [hU]; exact hS.2.1) hcx⟩⟩
      rfl hn hl.1 rfl (lv_room hcat) d hck
    intro T hT XX
    obtain ⟨v', st₀, t, T', L, h0, X', hL, e1, e2, hq2, hgo⟩ := run T hT XX
    obtain ⟨hv', hRep, hF⟩ := hq2
    cases hv'
    rw [← e1] at hRep
    obtain ⟨hz, hk⟩ := hF
    rw [h0, ← e1] at hz hk
    obtain ⟨t2, a1, b1⟩ := k r2 σ2 ho2 r σ' ho T'.heap (locs ++ L) la hRep ⟨Nat.le_trans hS.1 hz, fun q h1 h2 => by rw [hk q (Nat.lt_of_lt_of_le h1 hS.1) h2]; exact hS.2.1 q h1 h2, fun q hq => by
      rcases List.mem_append.mp hq with h | h
      · exact hS.2.2 q h
      · exact hL q h⟩ hl T' rfl X'
    exact ⟨t2, hgo t2 a1, b1⟩
theorem g_oe {w : Option Nat} (h1 : w = none → G X p l e R s m args below meth c nL ck sk Qf pc ls (.null :: rest) σ o1) {f : Nat → Option (ρ × Mem)} (h2 : ∀ v, w = some v → G X p l e R s m args below meth c nL ck sk Qf pc ls (.ref (xa X v) :: rest) σ (f v)) : G X p l e R s m args below meth c nL ck sk Qf pc ls ((vQ X w).toList ++ rest) σ (oe w o1 f) := by
  cases w with
  | none => exact h1 rfl
  | some v => exact h2 v rfl
end ROWS
section ENDS
variable {X : CX} {p : Program} {l : Launch} {e : Env} {R : Room} {s : State} {m : MethodId} {args : Array Value} {below : List Frame} {meth : Method} {c : Code} {cc : ByteArray} {own : String} {nL : Nat} {pc : Nat} {ls : List (Nat × Value)} {σ : Mem}
abbrev QI (X : CX) (below : List Frame) (args : Array Value) (s : State) {ρ : Type} (vl : ρ → Option Value) : ρ → Mem → State → Prop := fun r σ' => MQ below (QC X (vl r) σ') args s 0 0 (xA X)
theorem g_iret (F : FR p s m args c cc nL own X) (hlk : meth.locks = false) (hr : meth.sig.returnType = some .int) {v : Int32} (d : decode cc pc = .ok (.ireturn, 1)) : G X p l e R s m args below meth c nL 0 0 (QI X below args s vI) pc ls [.int v] σ (some (v, σ)) :=
  fun r σ' ho H locs la hR hS hl => by
    cases ho
    exact W.zret F.1 F.2.1 hr rfl (fun t ht _ => ⟨rfl, by rw [ht]; exact hR, hS.F ht⟩) hS.2.2 d hlk
theorem g_zretC (F : FR p s m args c cc nL own X) (hlk : meth.locks = false) (hr : meth.sig.returnType = some .boolean) {v : Int32} (hn : v &&& 1 = v) (d : decode cc pc = .ok (.ireturn, 1)) : G X p l e R s m args below meth c nL 0 0 (QI X below args s vI) pc ls [.int v] σ (some (v, σ)) :=
  fun r σ' ho H locs la hR hS hl => by
    cases ho
    exact W.zret F.1 F.2.1 hr (by show Value.int (v &&& 1) = _; rw [hn]) (fun t ht _ => ⟨rfl, by rw [ht]; exact hR, hS.F ht⟩) hS.2.2 d hlk
theorem g_zret (F : FR p s m args c cc nL own X) (hlk : meth.locks = false) (hr : meth.sig.returnType = some .boolean) {v : Int32} (d : decode cc pc = .ok (.ireturn, 1)) : G X p l e R s m args below meth c nL 0 0 (QI X below args s vI) pc ls [.int v] σ (if v &&& 1 = v then some (v, σ) else none) :=
  g_gd (fun q => g_zretC F hlk hr q d)
theorem g_vret (F : FR p s m args c cc nL own X) (hlk : meth.locks = false) (hr : meth.sig.returnType = none) (d : decode cc pc = .ok (.return_, 1)) : G X p l e R s m args below meth c nL 0 0 (QI X below args s vU) pc ls [] σ (some ((), σ)) :=
  fun r σ' ho H locs la hR hS hl => by
    cases ho
    exact W.vret F.1 F.2.1 hr (fun t ht _ => ⟨rfl, by rw [ht]; exact hR, hS.F ht⟩) hS.2.2 d hlk
theorem g_aret (F : FR p s m args c cc nL own X) (hlk : meth.locks = false) {C : String} (hr : meth.sig.returnType = some (.object C)) {v : Nat} (d : decode cc pc = .ok (.areturn, 1)) : G X p l e R s m args below meth c nL 0 0 (QI X below args s (vQ X)) pc ls [.ref (xa X v)] σ (some (some v, σ)) :=
  fun r σ' ho H locs la hR hS hl => by
    cases ho
    exact W.aret F.1 F.2.1 hr (Or.inl ⟨_, rfl⟩) (Or.inr ⟨_, rfl⟩) (fun t ht _ => ⟨rfl, by rw [ht]; exact hR, hS.F ht⟩) hS.2.2 d hlk
theorem g_aretN (F : FR p s m args c cc nL own X) (hlk : meth.locks = false) {C : String} (hr : meth.sig.returnType = some (.object C)) (d : decode cc pc = .ok (.areturn, 1)) : G X p l e R s m args below meth c nL 0 0 (QI X below args s (vQ X)) pc ls [.null] σ (some (none, σ)) :=
  fun r σ' ho H locs la hR hS hl => by
    cases ho
    exact W.aret F.1 F.2.1 hr (Or.inl ⟨_, rfl⟩) (Or.inl rfl) (fun t ht _ => ⟨rfl, by rw [ht]; exact hR, hS.F ht⟩) hS.2.2 d hlk
theorem CT_of {ρ : Type} {y : MethodName} {bytes : ByteArray} {maxL dp : Nat} {ret : Option FieldType} {vl : ρ → Option Value} {av : List Value} {o : Option (ρ × Mem)} (hy : plainFor y = true) (hlen : (lg_sl av).length ≤ maxL)
    (body : ∀ p e s m args below meth c, FR p s m args c bytes maxL y.cls X → meth.locks = false → meth.sig.returnType = ret → G X p l e (rmD dp) s m args below meth c maxL 0 0 (QI X below args s vl) 0 (lv_args 0 av) [] σ o) : CT X l y bytes maxL ret dp vl av σ o := by
  intro r σ' ho
  refine va_MetF (cc := bytes) (maxL := maxL) (ret := ret) hy rfl ?_
  intro p e s m args below meth c s₁ B hml hv
  obtain ⟨rfl, hR, hX⟩ := hv
  have hts := atoms_spec (ws := (Cond.code y bytes maxL ret :: gw)) B.pre
  rw [lg_entry_eq]
  exact body p e s m _ below meth c ⟨B.exec, B.bytes, hml, findClass_of_methodNamed B.named, fun w hw => hts w (List.mem_cons_of_mem _ hw), hX⟩ B.notSynchronized B.returns r σ' ho s.heap [] _ hR va_S.rf (lv_entry av hlen)
end ENDS
end
section
def lt {α β : Type} (x : α) (f : α → β) : β := f x
/-- the first n places of cell v, laid over those of cell w -/
def cpy (σ : Mem) (v w n : Nat) : Mem := fun b j => if b = w ∧ j < n then σ v j else σ b j
abbrev FU : Nat := 4096
section ROWS2
variable {ρ : Type} {X : CX} {p : Program} {l : Launch} {e : Env} {R : Room} {s : State} {m : MethodId} {args : Array Value} {below : List Frame} {meth : Method} {c : Code} {cc : ByteArray} {own : String} {nL ck sk : Nat} {Qf : ρ → Mem → State → Prop} {pc : Nat} {ls : List (Nat × Value)} {rest : List Value} {σ : Mem} {o o1 o2 : Option (ρ × Mem)}
theorem g_ltI {x : Int32} {f : Int32 → Option (ρ × Mem)} (k : ∀ y, y = x → G X p l e R s m args below meth c nL ck sk Qf pc ls (.int y :: rest) σ (f y)) : G X p l e R s m args below meth c nL ck sk Qf pc ls (.int x :: rest) σ (lt x f) := k x rfl
theorem g_ltM {st : List Value} {f : Mem → Option (ρ × Mem)} (k : ∀ τ, τ = σ → G X p l e R s m args below meth c nL ck sk Qf pc ls st τ (f τ)) : G X p l e R s m args below meth c nL ck sk Qf pc ls st σ (lt σ f) := k σ rfl
theorem g_sub {ls' : List (Nat × Value)} (ks : List Nat) (hp : lv_pick ls ks = ls') {st : List Value} (k : G X p l e R s m args below meth c nL ck sk Qf pc ls' st σ o) : G X p l e R s m args below meth c nL ck sk Qf pc ls st σ o :=
  fun r σ' ho H locs la hR hS hl => k r σ' ho H locs la hR hS (lv_sub hl ks hp)
theorem g_pt {q : Prop} [Decidable q] (hq : q) {st : List Value} (k : G X p l e R s m args below meth c nL ck sk Qf pc ls st σ (if q then o1 else none)) : G X p l e R s m args below meth c nL ck sk Qf pc ls st σ o1 := by rw [if_pos hq] at k; exact k
theorem g_pf {q : Prop} [Decidable q] (hq : ¬ q) {st : List Value} (k : G X p l e R s m args below meth c nL ck sk Qf pc ls st σ (if q then none else o1)) : G X p l e R s m args below meth c nL ck sk Qf pc ls st σ o1 := by rw [if_neg hq] at k; exact k
theorem g_ialdC (F : FR p s m args c cc nL own X) {v n : Nat} {i : Int32} (j : Nat) (hj : ib i n) (hn : i.toNatClampNeg = j) (hv : xs X v = 1000 + n) (d : decode cc pc = .ok (.iaload, 1))
    (k : G X p l e R s m args below meth c nL ck sk Qf (pc + 1) ls (.int (σ v j) :: rest) σ o) : G X p l e R s m args below meth c nL ck sk Qf pc ls (.int i :: .ref (xa X v) :: rest) σ o := by
  subst hn
  exact g_pt hj (g_iald F hv d k)
theorem g_iastC (F : FR p s m args c cc nL own X) {v n : Nat} {i x : Int32} (j : Nat) (hj : ib i n) (hn : i.toNatClampNeg = j) (hv : xs X v = 1000 + n) (d : decode cc pc = .ok (.iastore, 1))
    (k : G X p l e R s m args below meth c nL ck sk Qf (pc + 1) ls rest (wr σ v j x) o) : G X p l e R s m args below meth c nL ck sk Qf pc ls (.int x :: .int i :: .ref (xa X v) :: rest) σ o := by
  subst hn
  exact g_pt hj (g_iast F hv d k)
theorem g_tsIn (F : FR p s m args c cc nL own X) {dflt lo hi off : Int} {offs : Array Int} {len tgt : Nat} {x : Int32} (d : decode cc pc = .ok (.tableswitch dflt lo hi offs, len)) (v : Int32) (hx : x = v) (h1 : ¬ v.toInt < lo) (h2 : ¬ hi < v.toInt) (ho : offs[(v.toInt - lo).toNat]? = some off) (ht : (pc : Int) + off = (tgt : Int))
    (k : G X p l e R s m args below meth c nL ck sk Qf tgt ls rest σ o) : G X p l e R s m args below meth c nL ck sk Qf pc ls (.int x :: rest) σ o := by
  subst hx
  exact fun r σ' ho2 H locs la hR hS hl => lv_tableIn F.1 F.2.1 d h1 h2 ho ht (k r σ' ho2 H locs la hR hS hl)
theorem g_tsOut (F : FR p s m args c cc nL own X) {dflt lo hi : Int} {offs : Array Int} {len tgt : Nat} {x : Int32} (d : decode cc pc = .ok (.tableswitch dflt lo hi offs, len)) (h : x.toInt < lo ∨ hi < x.toInt) (ht : (pc : Int) + dflt = (tgt : Int))
    (k : G X p l e R s m args below meth c nL ck sk Qf tgt ls rest σ o) : G X p l e R s m args below meth c nL ck sk Qf pc ls (.int x :: rest) σ o :=
  fun r σ' ho2 H locs la hR hS hl => lv_tableOut F.1 F.2.1 d h ht (k r σ' ho2 H locs la hR hS hl)
theorem g_lks (F : FR p s m args c cc nL own X) {dflt off : Int} {ps : Array (Int × Int)} {len tgt : Nat} {x : Int32} (d : decode cc pc = .ok (.lookupswitch dflt ps, len)) (hp : (ps.toList.zip (ps.toList.drop 1)).all (fun (a, next) => a.1 < next.1) = true) (ho : Op.lookupswitch.offset ps.toList dflt x.toInt = off) (ht : (pc : Int) + off = (tgt : Int))
    (k : G X p l e R s m args below meth c nL ck sk Qf tgt ls rest σ o) : G X p l e R s m args below meth c nL ck sk Qf pc ls (.int x :: rest) σ o :=
  fun r σ' ho2 H locs la hR hS hl => lv_lookup F.1 F.2.1 d hp ho ht (k r σ' ho2 H locs la hR hS hl)
theorem g_lksC (F : FR p s m args c cc nL own X) {dflt off : Int} {ps : Array (Int × Int)} {len tgt : Nat} {x : Int32} (d : decode cc pc = .ok (.lookupswitch dflt ps, len)) (hp : (ps.toList.zip (ps.toList.drop 1)).all (fun (a, next) => a.1 < next.1) = true) (v : Int32) (hx : x = v) (ho : Op.lookupswitch.offset ps.toList dflt v.toInt = off) (ht : (pc : Int) + off = (tgt : Int))
    (k : G X p l e R s m args below meth c nL ck sk Qf tgt ls rest σ o) : G X p l e R s m args below meth c nL ck sk Qf pc ls (.int x :: rest) σ o := by
  subst hx
  exact g_lks F d hp ho ht k
theorem ts_ne {x v : Int32} (z : Int) (hz : v.toInt = z) (h : ¬ x = v) : ¬ x.toInt = z := fun q => h (Int32.toInt_inj.mp (q.trans hz.symm))
def CPY (own : String) (index : Nat) : Prop := Cond.methodLink own index arraycopyName ∈ gw ∧ Cond.native arraycopyName ∈ gw ∧ Cond.static arraycopyName ∈ gw ∧ Cond.initialized "java/lang/System" ∈ gw
theorem cpy_other {v w n b : Nat} (h : b ≠ w) : cpy σ v w n b = σ b := by
  funext j
  simp [cpy, h]
theorem g_copy (F : FR p s m args c cc nL own X) {v w n index : Nat} {nn : Int32} (hW : CPY own index) (hv : xs X v = 1000 + n) (hw : xs X w = 1000 + n) (hnn : nn.toInt = n)
    (hroom : 1 ≤ R.frames ∧ (rest.map fun v => v.category).sum + (nativeFrameWords "java/lang/System" "arraycopy" 5 + 11) ≤ R.locals) (d : decode cc pc = .ok (.invokestatic index, 3))
    (k : G X p l e R s m args below meth c nL ck sk Qf (pc + 3) ls rest (cpy σ v w n) o) : G X p l e R s m args below meth c nL ck sk Qf pc ls (.int nn :: .int 0 :: .ref (xa X w) :: .int 0 :: .ref (xa X v) :: rest) σ o := by
  intro r σ' ho H locs la hR hS hl T hT XX
  obtain ⟨h1, h2, h3, h4⟩ := hW
  have hts := F.2.2.2.2.1
  have hn3 : ¬ nn < 0 := by rw [Int32.lt_iff_toInt_lt, hnn]; simp
  have hnc : nn.toNatClampNeg = n := by show nn.toInt.toNat = n; rw [hnn]; rfl
  have hz : ¬ (0 : Int32) < 0 := by decide
  have hz0 : (0 : Int32).toNatClampNeg = 0 := by decide
  have hz1 : (0 : Int32).toInt = 0 := by decide
  have hc0 : H[xa X v]? = some (vp_cell (xc X 0) (n, .inl (σ v))) := rep_int hR hv
  have hc1 : H[xa X w]? = some (vp_cell (xc X 0) (n, .inl (σ w))) := rep_int hR hw
  have hA := F.2.2.2.2.2.1.2 0 _ (rfl : (tys X)[0]? = some (xc X 0, .int))
  obtain ⟨-, k0, hk0, cm0, hkk0⟩ := hA.1 n (fun j => .int (σ v j))
  obtain ⟨-, k1, hk1, cm1, hkk1⟩ := hA.1 n (fun j => .int (σ w j))
  obtain ⟨vm', X', step⟩ := XX.arraycopy F.1 F.2.2.2.1 (hts _ h1) (hts _ h2) (hts _ h3) (hts _ h4) (src := xa X v) (dst := xa X w) (cs := vp_cell (xc X 0) (n, .inl (σ v))) (cd := vp_cell (xc X 0) (n, .inl (σ w))) (srcPos := 0) (destPos := 0) (n := nn) (by rw [hT]; exact hc0) (by rw [hT]; exact hc1)
    (fun _ h => by cases h) (fun _ h => by cases h) (fun h => by cases h) (fun h => by cases h) hk0 hk1 hkk0 hkk1 (by simp [refKind]) hz hz hn3
    (by rw [hz1, hnn]; show ¬ _ > ((arrV (xc X 0) n (fun j => .int (σ v j))).slots.size : Int); rw [arrV_size]; omega)
    (by rw [hz1, hnn]; show ¬ _ > ((arrV (xc X 0) n (fun j => .int (σ w j))).slots.size : Int); rw [arrV_size]; omega)
    (fun vm₁ _ i hi => by
      have e : (vp_cell (xc X 0) (n, .inl (σ v))).slots.getD ((0 : Int32).toNatClampNeg + i) .null = .int (σ v ((0 : Int32).toNatClampNeg + i)) := by
        show (arrV (xc X 0) n (fun j => .int (σ v j))).slots.getD _ _ = _
        rw [Array.getD_eq_getD_getElem?, arrV_read _ _ (by rw [hz0]; omega)]
        rfl
      refine ⟨?_, ?_⟩
      · rw [e]
        rfl
      · rw [e]
        exact trivial)
    (g := F0 m pc la (.int nn :: .int 0 :: .ref (xa X w) :: .int 0 :: .ref (xa X v) :: rest)) rfl (by rw [F.2.2.1]; exact hl.1) (rest := rest) rfl (by rw [F.2.1]; exact d) hroom.1 (by have := hroom.2; show 2 * 0 + _ + _ ≤ _; omega)
  have e1 : copied (vp_cell (xc X 0) (n, .inl (σ v))) (vp_cell (xc X 0) (n, .inl (σ w))) 0 0 nn = vp_cell (xc X 0) (n, .inl (va_cpy (σ v) (σ w) (0 : Int32).toNatClampNeg (0 : Int32).toNatClampNeg nn.toNatClampNeg)) := va_copied (fun z => .int z) (xc X 0) (xc X 0) (σ v) (σ w) (by rw [hz0, hnc]; omega)
  rw [hz0, hnc] at e1
  rw [e1] at X' step
  have hl0 : xa X w < H.size := (Array.getElem?_eq_some_iff.mp hc1).1
  have hheap : ((T.setVm vm').setCell (xa X w) (vp_cell (xc X 0) (n, .inl (va_cpy (σ v) (σ w) 0 0 n)))).heap = H.setIfInBounds (xa X w) (vp_cell (xc X 0) (n, .inl (va_cpy (σ v) (σ w) 0 0 n))) := by rw [← hT]; rfl
  have oq : ∀ q : Nat, q ≠ xa X w → (H.setIfInBounds (xa X w) (vp_cell (xc X 0) (n, .inl (va_cpy (σ v) (σ w) 0 0 n))))[q]? = H[q]? := fun q hq => by simp [Array.getElem?_setIfInBounds, Ne.symm hq]
  have ecp : va_cpy (σ v) (σ w) 0 0 n = cpy σ v w n w := by
    funext j
    simp [va_cpy, cpy]
  have hself : (H.setIfInBounds (xa X w) (vp_cell (xc X 0) (n, .inl (va_cpy (σ v) (σ w) 0 0 n))))[xa X w]? = some (vp_cell (xc X 0) (n, .inl (cpy σ v w n w))) := by simp [Array.getElem?_setIfInBounds, hl0, ecp]
  have hRep := rep_set (σ2 := cpy σ v w n) (v := w) hR F.2.2.2.2.2 (by omega) (by
    rw [hw]
    have e2 : ce (xa X) (xc X) (cpy σ v w n w) (1000 + n) w = .inl (xc X 0, n, .inl (cpy σ v w n w)) := by
      unfold ce
      rw [if_pos (by omega)]
      simp
    rw [e2]
    exact hself) oq (by simp) (fun u hu => cpy_other hu)
  obtain ⟨t, a1, b1⟩ := k r σ' ho _ _ la hRep ⟨by simp; exact hS.1, fun q g1 g2 => by
      rw [oq q (fun e => g2 (by rw [e]; exact F.2.2.2.2.2.2.2.1 w (by omega)))]
      exact hS.2.1 q g1 g2, fun q hq => by
      rcases List.mem_append.mp hq with h | h
      · exact hS.2.2 q h
      · obtain ⟨z, -, hz⟩ := List.mem_map.mp h
        rw [← hz]
        exact F.2.2.2.2.2.2.2.1 w (by omega)⟩ hl _ hheap X'
  exact ⟨t, step t a1, b1⟩
theorem ib_lt {i : Int32} {n : Nat} (h : ib i n) : i.toNatClampNeg < n := by
  obtain ⟨h1, h2⟩ := h
  show i.toInt.toNat < n
  omega
theorem g_ldcS (F : FR p s m args c cc nL "SensorHub$Text" X) {index : Nat} (w : Nat) (hw : w < 6) (hi : ixS.getD w 0 = index) (d : decode cc pc = .ok (.ldc index, 2))
    (k : G X p l e R s m args below meth c nL ck sk Qf (pc + 2) ls (.ref (xk X w) :: rest) σ o) : G X p l e R s m args below meth c nL ck sk Qf pc ls rest σ o :=
  fun r σ' ho H locs la hR hS hl => va_ldcS F.1 F.2.1 F.2.2.2.1 (hi ▸ F.2.2.2.2.2.2.2.2.2.2.1 w hw) d (k r σ' ho H locs la hR hS hl)
theorem g_callVS {ρ' : Type} {vl : ρ' → Option Value} {y : MethodName} {bytes : ByteArray} {maxL dp n index w0 : Nat} {ret : Option FieldType} {As st : List Value} {oc : Option (ρ' × Mem)} {kf : ρ' → Mem → Option (ρ × Mem)}
    (F : FR p s m args c cc nL own X) (hw0 : w0 < 6) (hC : CT X l y bytes maxL ret dp vl (.ref (xk X w0) :: As) σ oc) (hW : CSV own index y bytes maxL ret n) (hcls : y.cls = "java/lang/String") (hst : st = As.reverse ++ .ref (xk X w0) :: rest) (hn : As.length = n) (hcat : (rest.map fun v => v.category).sum ≤ 8) (hroom : dp + 1 ≤ R.frames ∧ 8 + (maxL + 11) + 35 * dp ≤ R.locals) (hck : ck ≤ R.cells ∧ sk ≤ R.slots) (d : decode cc pc = .ok (.invokevirtual index, 3))
    (k : ∀ r2 σ2, oc = some (r2, σ2) → G X p l e R s m args below meth c nL ck sk Qf (pc + 3) ls ((vl r2).toList ++ rest) σ2 (kf r2 σ2)) : G X p l e R s m args below meth c nL ck sk Qf pc ls st σ (bd oc kf) := by
  subst hst
  cases ho2 : oc with
  | none => exact g_no
  | some w =>
    obtain ⟨r2, σ2⟩ := w
    intro r σ' ho H locs la hR hS hl
    obtain ⟨hlink, hinst, hsel, hini, hcode, hy, hpar⟩ := hW
    obtain ⟨hx, hb, hml, hown, hts, hcx⟩ := F
    have hlen : ∀ sig, parseMethodDescriptor y.desc = some sig → n = sig.parameters.length := fun sig h => by
      rw [h] at hpar
      exact (Option.some.inj hpar).symm
    have hws : ∀ w ∈ (Cond.code y bytes maxL ret :: gw), ∀ (a' : Array Value) (U : State), s.WarmedH U.vm → w.before a' U = true := fun w hw a' U hW => by
      have hw' : w ∈ gw := (List.mem_cons.mp hw).elim (fun q => by rw [q]; exact hcode) id
      exact word_at hW (good_of_word (gw_ok w hw')) (hts w hw')
    have hrec : ∃ cellB : Cell, H[xk X w0]? = some cellB ∧ cellB.vm.isStatics = false ∧ s.vm.findClass y.cls = some cellB.cls := by
      rw [hcls]
      exact vk_recv hcx.2.2.2.2.1 hw0 hS
    have run := va_runV (cells := ck) (slots := sk) (locs := locs) (H := H) (g := F0 m pc la (As.reverse ++ .ref (xk X w0) :: rest)) (rest := rest) (As := As) (b := xk X w0) (C := y.cls) (n := n) (p := p) (e := e) (R := R) (below := below) (meth := meth) ⟨hx, hb, hml, hown, hts⟩ (hC r2 σ2 ho2)
      ⟨⟨rfl, rfl, hroom.1, hroom.2, hws, List.mem_cons_self, hts _ hcode, hts _ hini, hy, hlen, hts _ hlink⟩, hts _ hinst, hts _ hsel⟩
      ⟨fun a U g mk q => ⟨q.1, q.2.1, Cx.same (u := U) (U := U.calling g mk a) rfl rfl q.2.2⟩, hrec, fun U hU hW => ⟨rfl, by rw [hU]; exact hR, Cx.warm hW (by rw [hU]; exact hS.2.1) hcx⟩⟩
      rfl hn hl.1 rfl (lv_room hcat) d hck
    intro T hT XX
    obtain ⟨v', st₀, t, T', L, h0, X', hL, e1, e2, hq2, hgo⟩ := run T hT XX
    obtain ⟨hv', hRep, hF⟩ := hq2
    cases hv'
    rw [← e1] at hRep
    obtain ⟨hz, hk⟩ := hF
    rw [h0, ← e1] at hz hk
    obtain ⟨t2, a1, b1⟩ := k r2 σ2 ho2 r σ' ho T'.heap (locs ++ L) la hRep ⟨Nat.le_trans hS.1 hz, fun q h1 h2 => by rw [hk q (Nat.lt_of_lt_of_le h1 hS.1) h2]; exact hS.2.1 q h1 h2, fun q hq => by
      rcases List.mem_append.mp hq with h | h
      · exact hS.2.2 q h
      · exact hL q h⟩ hl T' rfl X'
    exact ⟨t2, hgo t2 a1, b1⟩
end ROWS2
/-! which cells are a whole object of a class -/
def SensorOK (X : CX) (v : Nat) : Prop := xs X v = 5 ∧ xs X (v + 1) = 1008
def ClientOK (X : CX) (v : Nat) : Prop := xs X v = 1 ∧ xs X (v + 1) = 1018
def OutagesOK (X : CX) (v : Nat) : Prop := xs X v = 4 ∧ xs X (v + 1) = 1004 ∧ xs X (v + 2) = 1004 ∧ xs X (v + 3) = 1004
def StoreOK (X : CX) (v : Nat) : Prop := xs X v = 6 ∧ xs X (v + 1) = 1090
def TextOK (X : CX) (v : Nat) : Prop := xs X v = 7 ∧ xs X (v + 1) = 1160
def HubOK (X : CX) (q : Nat) : Prop := xs X q = 3 ∧ xs X (q + 1) = 1004 ∧ xs X (q + 2) = 21 ∧ xs X (q + 3) = 22 ∧ OutagesOK X (q + 4) ∧ StoreOK X (q + 8) ∧ (∀ i, i < 8 → SensorOK X (q + 2 + (8 + 2 * i))) ∧ ∀ i, i < 8 → ClientOK X (q + 3 + (23 + 2 * i))
def HistoryOK (X : CX) (v : Nat) : Prop := xs X v = 2 ∧ xs X (v + 1) = 23 ∧ ∀ i, i < 5 → HubOK X (v + 1 + (1 + 42 * i))
def TopOK (X : CX) (v : Nat) : Prop := xs X v = 8 ∧ HubOK X (v + 1) ∧ HubOK X (v + 43) ∧ HistoryOK X (v + 85) ∧ TextOK X (v + 297)
def ModelOK (X : CX) (v : Nat) : Prop := xs X v = 9 ∧ xs X (v + 1) = 1481 ∧ xs X (v + 2) = 3405 ∧ xs X (v + 3) = 1160 ∧ xs X (v + 4) = 1481 ∧ xs X (v + 5) = 1008 ∧ xs X (v + 6) = 1008 ∧ xs X (v + 7) = 1008 ∧ xs X (v + 8) = 20
end
section
def y_Mat_floorMod : MethodName := ⟨"java/lang/Math", "floorMod", "(II)I"⟩
theorem d_Mat_floorMod_0 : decode prog_11_method_50_code 0 = .ok (.iload_n 0, 1) := by decide +kernel
theorem d_Mat_floorMod_1 : decode prog_11_method_50_code 1 = .ok (.iload_n 1, 1) := by decide +kernel
theorem d_Mat_floorMod_2 : decode prog_11_method_50_code 2 = .ok (.irem, 1) := by decide +kernel
theorem d_Mat_floorMod_3 : decode prog_11_method_50_code 3 = .ok (.istore_n 2, 1) := by decide +kernel
theorem d_Mat_floorMod_4 : decode prog_11_method_50_code 4 = .ok (.iload_n 0, 1) := by decide +kernel
theorem d_Mat_floorMod_5 : decode prog_11_method_50_code 5 = .ok (.iload_n 1, 1) := by decide +kernel
theorem d_Mat_floorMod_6 : decode prog_11_method_50_code 6 = .ok (.ixor, 1) := by decide +kernel
theorem d_Mat_floorMod_7 : decode prog_11_method_50_code 7 = .ok (.ifCond .ge 11, 3) := by decide +kernel
theorem d_Mat_floorMod_10 : decode prog_11_method_50_code 10 = .ok (.iload_n 2, 1) := by decide +kernel
theorem d_Mat_floorMod_11 : decode prog_11_method_50_code 11 = .ok (.ifCond .eq 7, 3) := by decide +kernel
theorem d_Mat_floorMod_14 : decode prog_11_method_50_code 14 = .ok (.iload_n 2, 1) := by decide +kernel
theorem d_Mat_floorMod_15 : decode prog_11_method_50_code 15 = .ok (.iload_n 1, 1) := by decide +kernel
theorem d_Mat_floorMod_16 : decode prog_11_method_50_code 16 = .ok (.iadd, 1) := by decide +kernel
theorem d_Mat_floorMod_17 : decode prog_11_method_50_code 17 = .ok (.ireturn, 1) := by decide +kernel
theorem d_Mat_floorMod_18 : decode prog_11_method_50_code 18 = .ok (.iload_n 2, 1) := by decide +kernel
theorem d_Mat_floorMod_19 : decode prog_11_method_50_code 19 = .ok (.ireturn, 1) := by decide +kernel
def f_Mat_floorMod (p0 : Int32) (p1 : Int32) (σ : Mem) : Option (Int32 × Mem) :=
  if p1 = 0 then none else
  lt (p0 - p0 / p1 * p1) fun v1 =>
  if 0 ≤ (p0 ^^^ p1) then some (v1, σ) else if v1 = 0 then some (v1, σ) else some (v1 + p1, σ)
set_option maxRecDepth 100000 in
set_option maxHeartbeats 4000000 in
theorem c_Mat_floorMod {X : CX} (l : Launch) (p0 : Int32) (p1 : Int32)  (σ : Mem) : CT X l y_Mat_floorMod prog_11_method_50_code 3 (some .int) 0 vI [.int p0, .int p1] σ (f_Mat_floorMod p0 p1 σ) := by
  refine CT_of (by decide +kernel) (Nat.le_of_ble_eq_true rfl) ?_
  intro p e s m args below meth c F hlk hr
  have F : FR p s m args c prog_11_method_50_code 3 "java/lang/Math" X := F
  show G X p l e (rmD 0) s m args below meth c 3 0 0 (QI X below args s vI) 0 [(0, .int p0), (1, .int p1)] [] σ _
  unfold f_Mat_floorMod
  refine g_iload_n F d_Mat_floorMod_0 0 rfl ?_
  refine g_iload_n F d_Mat_floorMod_1 1 rfl ?_
  refine g_irem F d_Mat_floorMod_2 ?_
  refine g_ltI (fun v1 _ => ?_)
  refine g_istore_n F (ls' := [(2, .int v1), (0, .int p0), (1, .int p1)]) d_Mat_floorMod_3 (by decide) rfl ?_
  refine g_iload_n F d_Mat_floorMod_4 1 rfl ?_
  refine g_iload_n F d_Mat_floorMod_5 2 rfl ?_
  refine g_ixor F d_Mat_floorMod_6 ?_
  refine g_if_ge F (tgt := 18) d_Mat_floorMod_7 (by decide) (fun h1 => ?_) (fun h2 => ?_)
  · refine g_iload_n F d_Mat_floorMod_18 0 rfl ?_
    exact g_iret F hlk hr d_Mat_floorMod_19
  refine g_iload_n F d_Mat_floorMod_10 0 rfl ?_
  refine g_if_eq F (tgt := 18) d_Mat_floorMod_11 (by decide) (fun h3 => ?_) (fun h4 => ?_)
  · refine g_iload_n F d_Mat_floorMod_18 0 rfl ?_
    exact g_iret F hlk hr d_Mat_floorMod_19
  refine g_iload_n F d_Mat_floorMod_14 0 rfl ?_
  refine g_iload_n F d_Mat_floorMod_15 2 rfl ?_
  refine g_iadd F d_Mat_floorMod_16 ?_
  exact g_iret F hlk hr d_Mat_floorMod_17
def y_Mat_max : MethodName := ⟨"java/lang/Math", "max", "(II)I"⟩
theorem d_Mat_max_0 : decode prog_11_method_65_code 0 = .ok (.iload_n 0, 1) := by decide +kernel
theorem d_Mat_max_1 : decode prog_11_method_65_code 1 = .ok (.iload_n 1, 1) := by decide +kernel
theorem d_Mat_max_2 : decode prog_11_method_65_code 2 = .ok (.if_icmp .lt 7, 3) := by decide +kernel
theorem d_Mat_max_5 : decode prog_11_method_65_code 5 = .ok (.iload_n 0, 1) := by decide +kernel
theorem d_Mat_max_6 : decode prog_11_method_65_code 6 = .ok (.goto 4, 3) := by decide +kernel
theorem d_Mat_max_9 : decode prog_11_method_65_code 9 = .ok (.iload_n 1, 1) := by decide +kernel
theorem d_Mat_max_10 : decode prog_11_method_65_code 10 = .ok (.ireturn, 1) := by decide +kernel
def f_Mat_max (p0 : Int32) (p1 : Int32) (σ : Mem) : Option (Int32 × Mem) :=
  if p0 < p1 then some (p1, σ) else some (p0, σ)
set_option maxRecDepth 100000 in
set_option maxHeartbeats 4000000 in
theorem c_Mat_max {X : CX} (l : Launch) (p0 : Int32) (p1 : Int32)  (σ : Mem) : CT X l y_Mat_max prog_11_method_65_code 2 (some .int) 0 vI [.int p0, .int p1] σ (f_Mat_max p0 p1 σ) := by
  refine CT_of (by decide +kernel) (Nat.le_of_ble_eq_true rfl) ?_
  intro p e s m args below meth c F hlk hr
  have F : FR p s m args c prog_11_method_65_code 2 "java/lang/Math" X := F
  show G X p l e (rmD 0) s m args below meth c 2 0 0 (QI X below args s vI) 0 [(0, .int p0), (1, .int p1)] [] σ _
  unfold f_Mat_max
  refine g_iload_n F d_Mat_max_0 0 rfl ?_
  refine g_iload_n F d_Mat_max_1 1 rfl ?_
  refine g_icmp_lt F (tgt := 9) d_Mat_max_2 (by decide) (fun h1 => ?_) (fun h2 => ?_)
  · refine g_iload_n F d_Mat_max_9 1 rfl ?_
    exact g_iret F hlk hr d_Mat_max_10
  refine g_iload_n F d_Mat_max_5 0 rfl ?_
  refine g_goto F (tgt := 10) d_Mat_max_6 (by decide) ?_
  exact g_iret F hlk hr d_Mat_max_10
def y_Mat_min : MethodName := ⟨"java/lang/Math", "min", "(II)I"⟩
theorem d_Mat_min_0 : decode prog_11_method_69_code 0 = .ok (.iload_n 0, 1) := by decide +kernel
theorem d_Mat_min_1 : decode prog_11_method_69_code 1 = .ok (.iload_n 1, 1) := by decide +kernel
theorem d_Mat_min_2 : decode prog_11_method_69_code 2 = .ok (.if_icmp .gt 7, 3) := by decide +kernel
theorem d_Mat_min_5 : decode prog_11_method_69_code 5 = .ok (.iload_n 0, 1) := by decide +kernel
theorem d_Mat_min_6 : decode prog_11_method_69_code 6 = .ok (.goto 4, 3) := by decide +kernel
theorem d_Mat_min_9 : decode prog_11_method_69_code 9 = .ok (.iload_n 1, 1) := by decide +kernel
theorem d_Mat_min_10 : decode prog_11_method_69_code 10 = .ok (.ireturn, 1) := by decide +kernel
def f_Mat_min (p0 : Int32) (p1 : Int32) (σ : Mem) : Option (Int32 × Mem) :=
  if p1 < p0 then some (p1, σ) else some (p0, σ)
set_option maxRecDepth 100000 in
set_option maxHeartbeats 4000000 in
theorem c_Mat_min {X : CX} (l : Launch) (p0 : Int32) (p1 : Int32)  (σ : Mem) : CT X l y_Mat_min prog_11_method_69_code 2 (some .int) 0 vI [.int p0, .int p1] σ (f_Mat_min p0 p1 σ) := by
  refine CT_of (by decide +kernel) (Nat.le_of_ble_eq_true rfl) ?_
  intro p e s m args below meth c F hlk hr
  have F : FR p s m args c prog_11_method_69_code 2 "java/lang/Math" X := F
  show G X p l e (rmD 0) s m args below meth c 2 0 0 (QI X below args s vI) 0 [(0, .int p0), (1, .int p1)] [] σ _
  unfold f_Mat_min
  refine g_iload_n F d_Mat_min_0 0 rfl ?_
  refine g_iload_n F d_Mat_min_1 1 rfl ?_
  refine g_icmp_gt F (tgt := 9) d_Mat_min_2 (by decide) (fun h1 => ?_) (fun h2 => ?_)
  · refine g_iload_n F d_Mat_min_9 1 rfl ?_
    exact g_iret F hlk hr d_Mat_min_10
  refine g_iload_n F d_Mat_min_5 0 rfl ?_
  refine g_goto F (tgt := 10) d_Mat_min_6 (by decide) ?_
  exact g_iret F hlk hr d_Mat_min_10
def y_Mat_floorDiv : MethodName := ⟨"java/lang/Math", "floorDiv", "(II)I"⟩
theorem d_Mat_floorDiv_0 : decode prog_11_method_47_code 0 = .ok (.iload_n 0, 1) := by decide +kernel
theorem d_Mat_floorDiv_1 : decode prog_11_method_47_code 1 = .ok (.iload_n 1, 1) := by decide +kernel
theorem d_Mat_floorDiv_2 : decode prog_11_method_47_code 2 = .ok (.idiv, 1) := by decide +kernel
theorem d_Mat_floorDiv_3 : decode prog_11_method_47_code 3 = .ok (.istore_n 2, 1) := by decide +kernel
theorem d_Mat_floorDiv_4 : decode prog_11_method_47_code 4 = .ok (.iload_n 0, 1) := by decide +kernel
theorem d_Mat_floorDiv_5 : decode prog_11_method_47_code 5 = .ok (.iload_n 1, 1) := by decide +kernel
theorem d_Mat_floorDiv_6 : decode prog_11_method_47_code 6 = .ok (.ixor, 1) := by decide +kernel
theorem d_Mat_floorDiv_7 : decode prog_11_method_47_code 7 = .ok (.ifCond .ge 14, 3) := by decide +kernel
theorem d_Mat_floorDiv_10 : decode prog_11_method_47_code 10 = .ok (.iload_n 2, 1) := by decide +kernel
theorem d_Mat_floorDiv_11 : decode prog_11_method_47_code 11 = .ok (.iload_n 1, 1) := by decide +kernel
theorem d_Mat_floorDiv_12 : decode prog_11_method_47_code 12 = .ok (.imul, 1) := by decide +kernel
theorem d_Mat_floorDiv_13 : decode prog_11_method_47_code 13 = .ok (.iload_n 0, 1) := by decide +kernel
theorem d_Mat_floorDiv_14 : decode prog_11_method_47_code 14 = .ok (.if_icmp .eq 7, 3) := by decide +kernel
theorem d_Mat_floorDiv_17 : decode prog_11_method_47_code 17 = .ok (.iload_n 2, 1) := by decide +kernel
theorem d_Mat_floorDiv_18 : decode prog_11_method_47_code 18 = .ok (.iconst 1, 1) := by decide +kernel
theorem d_Mat_floorDiv_19 : decode prog_11_method_47_code 19 = .ok (.isub, 1) := by decide +kernel
theorem d_Mat_floorDiv_20 : decode prog_11_method_47_code 20 = .ok (.ireturn, 1) := by decide +kernel
theorem d_Mat_floorDiv_21 : decode prog_11_method_47_code 21 = .ok (.iload_n 2, 1) := by decide +kernel
theorem d_Mat_floorDiv_22 : decode prog_11_method_47_code 22 = .ok (.ireturn, 1) := by decide +kernel
def f_Mat_floorDiv (p0 : Int32) (p1 : Int32) (σ : Mem) : Option (Int32 × Mem) :=
  if p1 = 0 then none else
  lt (p0 / p1) fun v1 =>
  if 0 ≤ (p0 ^^^ p1) then some (v1, σ) else if (v1 * p1) = p0 then some (v1, σ) else some (v1 - (1 : Int32), σ)
set_option maxRecDepth 100000 in
set_option maxHeartbeats 4000000 in
theorem c_Mat_floorDiv {X : CX} (l : Launch) (p0 : Int32) (p1 : Int32)  (σ : Mem) : CT X l y_Mat_floorDiv prog_11_method_47_code 3 (some .int) 0 vI [.int p0, .int p1] σ (f_Mat_floorDiv p0 p1 σ) := by
  refine CT_of (by decide +kernel) (Nat.le_of_ble_eq_true rfl) ?_
  intro p e s m args below meth c F hlk hr
  have F : FR p s m args c prog_11_method_47_code 3 "java/lang/Math" X := F
  show G X p l e (rmD 0) s m args below meth c 3 0 0 (QI X below args s vI) 0 [(0, .int p0), (1, .int p1)] [] σ _
  unfold f_Mat_floorDiv
  refine g_iload_n F d_Mat_floorDiv_0 0 rfl ?_
  refine g_iload_n F d_Mat_floorDiv_1 1 rfl ?_
  refine g_idiv F d_Mat_floorDiv_2 ?_
  refine g_ltI (fun v1 _ => ?_)
  refine g_istore_n F (ls' := [(2, .int v1), (0, .int p0), (1, .int p1)]) d_Mat_floorDiv_3 (by decide) rfl ?_
  refine g_iload_n F d_Mat_floorDiv_4 1 rfl ?_
  refine g_iload_n F d_Mat_floorDiv_5 2 rfl ?_
  refine g_ixor F d_Mat_floorDiv_6 ?_
  refine g_if_ge F (tgt := 21) d_Mat_floorDiv_7 (by decide) (fun h1 => ?_) (fun h2 => ?_)
  · refine g_iload_n F d_Mat_floorDiv_21 0 rfl ?_
    exact g_iret F hlk hr d_Mat_floorDiv_22
  refine g_iload_n F d_Mat_floorDiv_10 0 rfl ?_
  refine g_iload_n F d_Mat_floorDiv_11 2 rfl ?_
  refine g_imul F d_Mat_floorDiv_12 ?_
  refine g_iload_n F d_Mat_floorDiv_13 1 rfl ?_
  refine g_icmp_eq F (tgt := 21) d_Mat_floorDiv_14 (by decide) (fun h3 => ?_) (fun h4 => ?_)
  · refine g_iload_n F d_Mat_floorDiv_21 0 rfl ?_
    exact g_iret F hlk hr d_Mat_floorDiv_22
  refine g_iload_n F d_Mat_floorDiv_17 0 rfl ?_
  refine g_iconst F (v := 1) d_Mat_floorDiv_18 (by decide) ?_
  refine g_isub F d_Mat_floorDiv_19 ?_
  exact g_iret F hlk hr d_Mat_floorDiv_20
end
section
def y_Str_coder : MethodName := ⟨"java/lang/String", "coder", "()B"⟩
theorem d_Str_coder_0 : decode prog_12_method_152_code 0 = .ok (.getstatic 38, 3) := by decide +kernel
theorem d_Str_coder_3 : decode prog_12_method_152_code 3 = .ok (.ifCond .eq 10, 3) := by decide +kernel
theorem d_Str_coder_6 : decode prog_12_method_152_code 6 = .ok (.aload_n 0, 1) := by decide +kernel
theorem d_Str_coder_7 : decode prog_12_method_152_code 7 = .ok (.getfield 15, 3) := by decide +kernel
theorem d_Str_coder_10 : decode prog_12_method_152_code 10 = .ok (.goto 4, 3) := by decide +kernel
theorem d_Str_coder_13 : decode prog_12_method_152_code 13 = .ok (.iconst 1, 1) := by decide +kernel
theorem d_Str_coder_14 : decode prog_12_method_152_code 14 = .ok (.ireturn, 1) := by decide +kernel
def y_Str_isLatin1 : MethodName := ⟨"java/lang/String", "isLatin1", "()Z"⟩
theorem d_Str_isLatin1_0 : decode prog_12_method_154_code 0 = .ok (.getstatic 38, 3) := by decide +kernel
theorem d_Str_isLatin1_3 : decode prog_12_method_154_code 3 = .ok (.ifCond .eq 14, 3) := by decide +kernel
theorem d_Str_isLatin1_6 : decode prog_12_method_154_code 6 = .ok (.aload_n 0, 1) := by decide +kernel
theorem d_Str_isLatin1_7 : decode prog_12_method_154_code 7 = .ok (.getfield 15, 3) := by decide +kernel
theorem d_Str_isLatin1_10 : decode prog_12_method_154_code 10 = .ok (.ifCond .ne 7, 3) := by decide +kernel
theorem d_Str_isLatin1_13 : decode prog_12_method_154_code 13 = .ok (.iconst 1, 1) := by decide +kernel
theorem d_Str_isLatin1_14 : decode prog_12_method_154_code 14 = .ok (.goto 4, 3) := by decide +kernel
theorem d_Str_isLatin1_17 : decode prog_12_method_154_code 17 = .ok (.iconst 0, 1) := by decide +kernel
theorem d_Str_isLatin1_18 : decode prog_12_method_154_code 18 = .ok (.ireturn, 1) := by decide +kernel
def y_Str_length : MethodName := ⟨"java/lang/String", "length", "()I"⟩
theorem d_Str_length_0 : decode prog_12_method_54_code 0 = .ok (.aload_n 0, 1) := by decide +kernel
theorem d_Str_length_1 : decode prog_12_method_54_code 1 = .ok (.getfield 9, 3) := by decide +kernel
theorem d_Str_length_4 : decode prog_12_method_54_code 4 = .ok (.arraylength, 1) := by decide +kernel
theorem d_Str_length_5 : decode prog_12_method_54_code 5 = .ok (.aload_n 0, 1) := by decide +kernel
theorem d_Str_length_6 : decode prog_12_method_54_code 6 = .ok (.invokevirtual 335, 3) := by decide +kernel
theorem d_Str_length_9 : decode prog_12_method_54_code 9 = .ok (.ishr, 1) := by decide +kernel
theorem d_Str_length_10 : decode prog_12_method_54_code 10 = .ok (.ireturn, 1) := by decide +kernel
def y_Pre_check : MethodName := ⟨"jdk/internal/util/Preconditions", "checkIndex", "(IILjava/util/function/BiFunction;)I"⟩
theorem d_Pre_check_0 : decode prog_16_method_11_code 0 = .ok (.iload_n 0, 1) := by decide +kernel
theorem d_Pre_check_1 : decode prog_16_method_11_code 1 = .ok (.ifCond .lt 8, 3) := by decide +kernel
theorem d_Pre_check_4 : decode prog_16_method_11_code 4 = .ok (.iload_n 0, 1) := by decide +kernel
theorem d_Pre_check_5 : decode prog_16_method_11_code 5 = .ok (.iload_n 1, 1) := by decide +kernel
theorem d_Pre_check_6 : decode prog_16_method_11_code 6 = .ok (.if_icmp .lt 10, 3) := by decide +kernel
theorem d_Pre_check_9 : decode prog_16_method_11_code 9 = .ok (.aload_n 2, 1) := by decide +kernel
theorem d_Pre_check_10 : decode prog_16_method_11_code 10 = .ok (.iload_n 0, 1) := by decide +kernel
theorem d_Pre_check_11 : decode prog_16_method_11_code 11 = .ok (.iload_n 1, 1) := by decide +kernel
theorem d_Pre_check_12 : decode prog_16_method_11_code 12 = .ok (.invokestatic 95, 3) := by decide +kernel
theorem d_Pre_check_15 : decode prog_16_method_11_code 15 = .ok (.athrow, 1) := by decide +kernel
theorem d_Pre_check_16 : decode prog_16_method_11_code 16 = .ok (.iload_n 0, 1) := by decide +kernel
theorem d_Pre_check_17 : decode prog_16_method_11_code 17 = .ok (.ireturn, 1) := by decide +kernel
def y_Str_check : MethodName := ⟨"java/lang/String", "checkIndex", "(II)V"⟩
theorem d_Str_check_0 : decode prog_12_method_155_code 0 = .ok (.iload_n 0, 1) := by decide +kernel
theorem d_Str_check_1 : decode prog_12_method_155_code 1 = .ok (.iload_n 1, 1) := by decide +kernel
theorem d_Str_check_2 : decode prog_12_method_155_code 2 = .ok (.getstatic 1053, 3) := by decide +kernel
theorem d_Str_check_5 : decode prog_12_method_155_code 5 = .ok (.invokestatic 1059, 3) := by decide +kernel
theorem d_Str_check_8 : decode prog_12_method_155_code 8 = .ok (.pop, 1) := by decide +kernel
theorem d_Str_check_9 : decode prog_12_method_155_code 9 = .ok (.return_, 1) := by decide +kernel
def y_Lat_charAt : MethodName := ⟨"java/lang/StringLatin1", "charAt", "([BI)C"⟩
theorem d_Lat_charAt_0 : decode prog_13_method_2_code 0 = .ok (.iload_n 1, 1) := by decide +kernel
theorem d_Lat_charAt_1 : decode prog_13_method_2_code 1 = .ok (.aload_n 0, 1) := by decide +kernel
theorem d_Lat_charAt_2 : decode prog_13_method_2_code 2 = .ok (.arraylength, 1) := by decide +kernel
theorem d_Lat_charAt_3 : decode prog_13_method_2_code 3 = .ok (.invokestatic 9, 3) := by decide +kernel
theorem d_Lat_charAt_6 : decode prog_13_method_2_code 6 = .ok (.aload_n 0, 1) := by decide +kernel
theorem d_Lat_charAt_7 : decode prog_13_method_2_code 7 = .ok (.iload_n 1, 1) := by decide +kernel
theorem d_Lat_charAt_8 : decode prog_13_method_2_code 8 = .ok (.baload, 1) := by decide +kernel
theorem d_Lat_charAt_9 : decode prog_13_method_2_code 9 = .ok (.sipush 255, 3) := by decide +kernel
theorem d_Lat_charAt_12 : decode prog_13_method_2_code 12 = .ok (.iand, 1) := by decide +kernel
theorem d_Lat_charAt_13 : decode prog_13_method_2_code 13 = .ok (.i2c, 1) := by decide +kernel
theorem d_Lat_charAt_14 : decode prog_13_method_2_code 14 = .ok (.ireturn, 1) := by decide +kernel
def y_Str_charAt : MethodName := ⟨"java/lang/String", "charAt", "(I)C"⟩
theorem d_Str_charAt_0 : decode prog_12_method_56_code 0 = .ok (.aload_n 0, 1) := by decide +kernel
theorem d_Str_charAt_1 : decode prog_12_method_56_code 1 = .ok (.invokevirtual 492, 3) := by decide +kernel
theorem d_Str_charAt_4 : decode prog_12_method_56_code 4 = .ok (.ifCond .eq 12, 3) := by decide +kernel
theorem d_Str_charAt_7 : decode prog_12_method_56_code 7 = .ok (.aload_n 0, 1) := by decide +kernel
theorem d_Str_charAt_8 : decode prog_12_method_56_code 8 = .ok (.getfield 9, 3) := by decide +kernel
theorem d_Str_charAt_11 : decode prog_12_method_56_code 11 = .ok (.iload_n 1, 1) := by decide +kernel
theorem d_Str_charAt_12 : decode prog_12_method_56_code 12 = .ok (.invokestatic 495, 3) := by decide +kernel
theorem d_Str_charAt_15 : decode prog_12_method_56_code 15 = .ok (.ireturn, 1) := by decide +kernel
theorem d_Str_charAt_16 : decode prog_12_method_56_code 16 = .ok (.aload_n 0, 1) := by decide +kernel
theorem d_Str_charAt_17 : decode prog_12_method_56_code 17 = .ok (.getfield 9, 3) := by decide +kernel
theorem d_Str_charAt_20 : decode prog_12_method_56_code 20 = .ok (.iload_n 1, 1) := by decide +kernel
theorem d_Str_charAt_21 : decode prog_12_method_56_code 21 = .ok (.invokestatic 498, 3) := by decide +kernel
theorem d_Str_charAt_24 : decode prog_12_method_56_code 24 = .ok (.ireturn, 1) := by decide +kernel
section STRROWS
variable {ρ : Type} {X : CX} {p : Program} {l : Launch} {e : Env} {R : Room} {s : State} {m : MethodId} {args : Array Value} {below : List Frame} {meth : Method} {c : Code} {cc : ByteArray} {own : String} {nL ck sk : Nat} {Qf : ρ → Mem → State → Prop} {pc : Nat} {ls : List (Nat × Value)} {rest : List Value} {σ : Mem} {o : Option (ρ × Mem)}
theorem g_stZ (F : FR p s m args c cc nL own X) {index : Nat} (hlk : Cond.fieldLink own index "java/lang/String" "COMPACT_STRINGS" "Z" ∈ gw) (d : decode cc pc = .ok (.getstatic index, 3))
    (k : G X p l e R s m args below meth c nL ck sk Qf (pc + 3) ls (.int 1 :: rest) σ o) : G X p l e R s m args below meth c nL ck sk Qf pc ls rest σ o :=
  fun r σ' ho H locs la hR hS hl => va_gets F.1 F.2.1 F.2.2.2.2.2.2.2.2.2.2.2.1 hS F.2.2.2.1 (F.2.2.2.2.1 _ hlk) (fun _ h => h) d (k r σ' ho H locs la hR hS hl)
theorem g_stQ (F : FR p s m args c cc nL own X) {index : Nat} (hlk : Cond.fieldLink own index "jdk/internal/util/Preconditions" "SIOOBE_FORMATTER" "Ljava/util/function/BiFunction;" ∈ gw) (d : decode cc pc = .ok (.getstatic index, 3))
    (k : ∀ v : Value, (v = .null ∨ ∃ t, v = .ref t) → G X p l e R s m args below meth c nL ck sk Qf (pc + 3) ls (v :: rest) σ o) : G X p l e R s m args below meth c nL ck sk Qf pc ls rest σ o :=
  fun r σ' ho H locs la hR hS hl => by
    rcases F.2.2.2.2.2.2.2.2.2.2.2.2 with h | ⟨t, h⟩
    · exact va_gets F.1 F.2.1 h hS F.2.2.2.1 (F.2.2.2.2.1 _ hlk) (fun _ h => h) d (k _ (Or.inl rfl) r σ' ho H locs la hR hS hl)
    · exact va_gets F.1 F.2.1 h hS F.2.2.2.1 (F.2.2.2.2.1 _ hlk) (fun _ h => h) d (k _ (Or.inr ⟨t, rfl⟩) r σ' ho H locs la hR hS hl)
theorem g_stC (F : FR p s m args c cc nL own X) {index w : Nat} (hw : w < 6) (hlk : Cond.fieldLink own index "java/lang/String" "coder" "B" ∈ gw) (d : decode cc pc = .ok (.getfield index, 3))
    (k : G X p l e R s m args below meth c nL ck sk Qf (pc + 3) ls (.int 0 :: rest) σ o) : G X p l e R s m args below meth c nL ck sk Qf pc ls (.ref (xk X w) :: rest) σ o :=
  fun r σ' ho H locs la hR hS hl => vk_getf F.1 F.2.1 (F.2.2.2.2.2.2.2.2.2.1.1 w hw).2.1 hS F.2.2.2.1 (F.2.2.2.2.1 _ hlk) (fun _ h => h) d (k r σ' ho H locs la hR hS hl)
theorem g_stV (F : FR p s m args c cc nL own X) {index w : Nat} (hw : w < 6) (hlk : Cond.fieldLink own index "java/lang/String" "value" "[B" ∈ gw) (d : decode cc pc = .ok (.getfield index, 3))
    (k : G X p l e R s m args below meth c nL ck sk Qf (pc + 3) ls (.ref (xk X (w + 6)) :: rest) σ o) : G X p l e R s m args below meth c nL ck sk Qf pc ls (.ref (xk X w) :: rest) σ o :=
  fun r σ' ho H locs la hR hS hl => vk_getf F.1 F.2.1 (F.2.2.2.2.2.2.2.2.2.1.1 w hw).2.2.1 hS F.2.2.2.1 (F.2.2.2.2.1 _ hlk) (fun _ h => h) d (k r σ' ho H locs la hR hS hl)
theorem g_stL (F : FR p s m args c cc nL own X) {w : Nat} (hw : w < 6) (d : decode cc pc = .ok (.arraylength, 1))
    (k : G X p l e R s m args below meth c nL ck sk Qf (pc + 1) ls (.int (nI (lenS.getD w 0)) :: rest) σ o) : G X p l e R s m args below meth c nL ck sk Qf pc ls (.ref (xk X (w + 6)) :: rest) σ o :=
  fun r σ' ho H locs la hR hS hl => va_tlen F.1 F.2.1 (F.2.2.2.2.2.2.2.2.2.1.1 w hw).2.2.2 hS rfl d (k r σ' ho H locs la hR hS hl)
theorem g_stB (F : FR p s m args c cc nL own X) {w : Nat} {i : Int32} (hw : w < 6) (hi : ib i (lenS.getD w 0)) (d : decode cc pc = .ok (.baload, 1))
    (k : G X p l e R s m args below meth c nL ck sk Qf (pc + 1) ls (.int ((bytS.getD w []).getD i.toNatClampNeg 0) :: rest) σ o) : G X p l e R s m args below meth c nL ck sk Qf pc ls (.int i :: .ref (xk X (w + 6)) :: rest) σ o :=
  fun r σ' ho H locs la hR hS hl => va_tb F.1 F.2.1 (F.2.2.2.2.2.2.2.2.2.1.1 w hw).2.2.2 hS (vp_in_iff.mpr hi) rfl d (k r σ' ho H locs la hR hS hl)
theorem g_i2c (F : FR p s m args c cc nL own X) {x v : Int32} (hv : (x.toUInt32 % 65536).toInt32 = v) (d : decode cc pc = .ok (.i2c, 1))
    (k : G X p l e R s m args below meth c nL ck sk Qf (pc + 1) ls (.int v :: rest) σ o) : G X p l e R s m args below meth c nL ck sk Qf pc ls (.int x :: rest) σ o :=
  fun r σ' ho H locs la hR hS hl => lv_i2c F.1 F.2.1 d hv (k r σ' ho H locs la hR hS hl)
theorem g_tret (F : FR p s m args c cc nL own X) (hlk : meth.locks = false) {ty : FieldType} (hr : meth.sig.returnType = some ty) {v : Int32} (hn : narrow ty (.int v) = .int v) (d : decode cc pc = .ok (.ireturn, 1)) : G X p l e R s m args below meth c nL 0 0 (QI X below args s vI) pc ls [.int v] σ (some (v, σ)) :=
  fun r σ' ho H locs la hR hS hl => by
    cases ho
    exact W.zret F.1 F.2.1 hr hn (fun t ht _ => ⟨rfl, by rw [ht]; exact hR, hS.F ht⟩) hS.2.2 d hlk
end STRROWS
theorem bytS_ok : ∀ w, w < 6 → ∀ j, j < lenS.getD w 0 → ((((bytS.getD w []).getD j 0) &&& 255).toUInt32 % 65536).toInt32 = (bytS.getD w []).getD j 0 ∧ narrow .char (.int ((bytS.getD w []).getD j 0)) = .int ((bytS.getD w []).getD j 0) := by decide +kernel
theorem lenS_sh : ∀ w, w < 6 → nI (lenS.getD w 0) >>> ((0 : Int32) &&& 31) = nI (lenS.getD w 0) := by decide +kernel
def f_Str_length (w : Nat) (σ : Mem) : Option (Int32 × Mem) := if w < 6 then some (nI (lenS.getD w 0), σ) else none
def f_Str_charAt (w : Nat) (i : Int32) (σ : Mem) : Option (Int32 × Mem) := if w < 6 then if ib i (lenS.getD w 0) then some ((bytS.getD w []).getD i.toNatClampNeg 0, σ) else none else none
theorem cv_S_335 : CSV "java/lang/String" 335 y_Str_coder prog_12_method_152_code 1 (some .byte) 0 := ⟨gw_I 641 (by decide +kernel) rfl, gw_I 642 (by decide +kernel) rfl, gw_I 643 (by decide +kernel) rfl, gw_I 81 (by decide +kernel) rfl, gw_I 644 (by decide +kernel) rfl, ⟨by decide +kernel, by decide +kernel⟩, by decide +kernel⟩
theorem cv_S_492 : CSV "java/lang/String" 492 y_Str_isLatin1 prog_12_method_154_code 1 (some .boolean) 0 := ⟨gw_I 651 (by decide +kernel) rfl, gw_I 652 (by decide +kernel) rfl, gw_I 653 (by decide +kernel) rfl, gw_I 81 (by decide +kernel) rfl, gw_I 654 (by decide +kernel) rfl, ⟨by decide +kernel, by decide +kernel⟩, by decide +kernel⟩
theorem cs_S_495 : CSS "java/lang/String" 495 y_Lat_charAt prog_13_method_2_code 2 (some .char) 2 := ⟨gw_I 655 (by decide +kernel) rfl, gw_I 656 (by decide +kernel) rfl, gw_I 82 (by decide +kernel) rfl, gw_I 657 (by decide +kernel) rfl, ⟨by decide +kernel, by decide +kernel⟩, by decide +kernel⟩
theorem cs_T_9 : CSS "java/lang/StringLatin1" 9 y_Str_check prog_12_method_155_code 2 none 2 := ⟨gw_I 658 (by decide +kernel) rfl, gw_I 659 (by decide +kernel) rfl, gw_I 81 (by decide +kernel) rfl, gw_I 660 (by decide +kernel) rfl, ⟨by decide +kernel, by decide +kernel⟩, by decide +kernel⟩
theorem cs_S_1059 : CSS "java/lang/String" 1059 y_Pre_check prog_16_method_11_code 3 (some .int) 3 := ⟨gw_I 663 (by decide +kernel) rfl, gw_I 664 (by decide +kernel) rfl, gw_I 83 (by decide +kernel) rfl, gw_I 665 (by decide +kernel) rfl, ⟨by decide +kernel, by decide +kernel⟩, by decide +kernel⟩
set_option maxRecDepth 100000 in
set_option maxHeartbeats 4000000 in
theorem c_Str_coder {X : CX} (l : Launch) (w : Nat) (hw : w < 6) (σ : Mem) : CT X l y_Str_coder prog_12_method_152_code 1 (some .byte) 0 vI [.ref (xk X w)] σ (some (0, σ)) := by
  refine CT_of (by decide +kernel) (Nat.le_of_ble_eq_true rfl) ?_
  intro p e s m args below meth c F hlk hr
  have F : FR p s m args c prog_12_method_152_code 1 "java/lang/String" X := F
  show G X p l e (rmD 0) s m args below meth c 1 0 0 (QI X below args s vI) 0 [(0, .ref (xk X w))] [] σ _
  refine g_stZ F (gw_I 645 (by decide +kernel) rfl) d_Str_coder_0 ?_
  refine g_pf (q := (1 : Int32) = 0) (by decide) (g_if_eq F (tgt := 13) d_Str_coder_3 (by decide) (fun _ => g_no) (fun _ => ?_))
  refine g_aload_n F d_Str_coder_6 0 rfl ?_
  refine g_stC F hw (gw_I 1212 (by decide +kernel) rfl) d_Str_coder_7 ?_
  refine g_goto F (tgt := 14) d_Str_coder_10 (by decide) ?_
  exact g_tret F hlk hr rfl d_Str_coder_14
set_option maxRecDepth 100000 in
set_option maxHeartbeats 4000000 in
theorem c_Str_isLatin1 {X : CX} (l : Launch) (w : Nat) (hw : w < 6) (σ : Mem) : CT X l y_Str_isLatin1 prog_12_method_154_code 1 (some .boolean) 0 vI [.ref (xk X w)] σ (some (1, σ)) := by
  refine CT_of (by decide +kernel) (Nat.le_of_ble_eq_true rfl) ?_
  intro p e s m args below meth c F hlk hr
  have F : FR p s m args c prog_12_method_154_code 1 "java/lang/String" X := F
  show G X p l e (rmD 0) s m args below meth c 1 0 0 (QI X below args s vI) 0 [(0, .ref (xk X w))] [] σ _
  refine g_stZ F (gw_I 645 (by decide +kernel) rfl) d_Str_isLatin1_0 ?_
  refine g_pf (q := (1 : Int32) = 0) (by decide) (g_if_eq F (tgt := 17) d_Str_isLatin1_3 (by decide) (fun _ => g_no) (fun _ => ?_))
  refine g_aload_n F d_Str_isLatin1_6 0 rfl ?_
  refine g_stC F hw (gw_I 1212 (by decide +kernel) rfl) d_Str_isLatin1_7 ?_
  refine g_pt (q := (0 : Int32) = 0) (by decide) (g_if_ne F (tgt := 17) d_Str_isLatin1_10 (by decide) (fun _ => ?_) (fun _ => g_no))
  refine g_iconst F (v := 1) d_Str_isLatin1_13 (by decide) ?_
  refine g_goto F (tgt := 18) d_Str_isLatin1_14 (by decide) ?_
  exact g_tret F hlk hr rfl d_Str_isLatin1_18
set_option maxRecDepth 100000 in
set_option maxHeartbeats 4000000 in
theorem c_Str_length {X : CX} (l : Launch) (w : Nat) (hw : w < 6) (σ : Mem) : CT X l y_Str_length prog_12_method_54_code 1 (some .int) 1 vI [.ref (xk X w)] σ (f_Str_length w σ) := by
  refine CT_of (by decide +kernel) (Nat.le_of_ble_eq_true rfl) ?_
  intro p e s m args below meth c F hlk hr
  have F : FR p s m args c prog_12_method_54_code 1 "java/lang/String" X := F
  show G X p l e (rmD 1) s m args below meth c 1 0 0 (QI X below args s vI) 0 [(0, .ref (xk X w))] [] σ _
  unfold f_Str_length
  rw [if_pos hw]
  refine g_aload_n F d_Str_length_0 0 rfl ?_
  refine g_stV F hw (gw_I 1211 (by decide +kernel) rfl) d_Str_length_1 ?_
  refine g_stL F hw d_Str_length_4 ?_
  refine g_aload_n F d_Str_length_5 0 rfl ?_
  refine g_callVS (kf := fun _ τ => some (nI (lenS.getD w 0), τ)) F (dp := 0) (As := []) hw (c_Str_coder l w hw σ) cv_S_335 rfl rfl rfl (Nat.le_of_ble_eq_true rfl) ⟨Nat.le_of_ble_eq_true rfl, Nat.le_of_ble_eq_true rfl⟩ ⟨Nat.zero_le _, Nat.zero_le _⟩ d_Str_length_6 (fun r2 σ2 h => ?_)
  cases h
  refine g_ishr F d_Str_length_9 ?_
  rw [lenS_sh w hw]
  exact g_tret F hlk hr rfl d_Str_length_10
set_option maxRecDepth 100000 in
set_option maxHeartbeats 4000000 in
theorem c_Pre_check {X : CX} (l : Launch) (p0 p1 : Int32) (v : Value) (hv : v = .null ∨ ∃ t, v = .ref t) (h0 : ¬ p0 < 0) (h1 : p0 < p1) (σ : Mem) : CT X l y_Pre_check prog_16_method_11_code 3 (some .int) 0 vI [.int p0, .int p1, v] σ (some (p0, σ)) := by
  have hlen : (lg_sl [.int p0, .int p1, v]).length ≤ 3 := by rcases hv with rfl | ⟨t, rfl⟩ <;> exact Nat.le_of_ble_eq_true rfl
  refine CT_of (by decide +kernel) hlen ?_
  intro p e s m args below meth c F hlk hr
  have F : FR p s m args c prog_16_method_11_code 3 "jdk/internal/util/Preconditions" X := F
  rcases hv with rfl | ⟨t, rfl⟩
  · show G X p l e (rmD 0) s m args below meth c 3 0 0 (QI X below args s vI) 0 [(0, .int p0), (1, .int p1), (2, .null)] [] σ _
    refine g_iload_n F d_Pre_check_0 0 rfl ?_
    refine g_pf h0 (g_if_lt F (tgt := 9) d_Pre_check_1 (by decide) (fun _ => g_no) (fun _ => ?_))
    refine g_iload_n F d_Pre_check_4 0 rfl ?_
    refine g_iload_n F d_Pre_check_5 1 rfl ?_
    refine g_pt h1 (g_icmp_lt F (tgt := 16) d_Pre_check_6 (by decide) (fun _ => ?_) (fun _ => g_no))
    refine g_iload_n F d_Pre_check_16 0 rfl ?_
    exact g_tret F hlk hr rfl d_Pre_check_17
  · show G X p l e (rmD 0) s m args below meth c 3 0 0 (QI X below args s vI) 0 [(0, .int p0), (1, .int p1), (2, .ref t)] [] σ _
    refine g_iload_n F d_Pre_check_0 0 rfl ?_
    refine g_pf h0 (g_if_lt F (tgt := 9) d_Pre_check_1 (by decide) (fun _ => g_no) (fun _ => ?_))
    refine g_iload_n F d_Pre_check_4 0 rfl ?_
    refine g_iload_n F d_Pre_check_5 1 rfl ?_
    refine g_pt h1 (g_icmp_lt F (tgt := 16) d_Pre_check_6 (by decide) (fun _ => ?_) (fun _ => g_no))
    refine g_iload_n F d_Pre_check_16 0 rfl ?_
    exact g_tret F hlk hr rfl d_Pre_check_17
set_option maxRecDepth 100000 in
set_option maxHeartbeats 4000000 in
theorem c_Str_check {X : CX} (l : Launch) (p0 p1 : Int32) (h0 : ¬ p0 < 0) (h1 : p0 < p1) (σ : Mem) : CT X l y_Str_check prog_12_method_155_code 2 none 1 vU [.int p0, .int p1] σ (some ((), σ)) := by
  refine CT_of (by decide +kernel) (Nat.le_of_ble_eq_true rfl) ?_
  intro p e s m args below meth c F hlk hr
  have F : FR p s m args c prog_12_method_155_code 2 "java/lang/String" X := F
  show G X p l e (rmD 1) s m args below meth c 2 0 0 (QI X below args s vU) 0 [(0, .int p0), (1, .int p1)] [] σ _
  refine g_iload_n F d_Str_check_0 0 rfl ?_
  refine g_iload_n F d_Str_check_1 1 rfl ?_
  refine g_stQ F (gw_I 661 (by decide +kernel) rfl) d_Str_check_2 (fun v hv => ?_)
  refine g_callS (kf := fun _ τ => some ((), τ)) (As := [.int p0, .int p1, v]) (rest := []) F (dp := 0) (c_Pre_check l p0 p1 v hv h0 h1 σ) cs_S_1059 rfl rfl (Nat.le_of_ble_eq_true rfl) ⟨Nat.le_of_ble_eq_true rfl, Nat.le_of_ble_eq_true rfl⟩ ⟨Nat.zero_le _, Nat.zero_le _⟩ d_Str_check_5 (fun r2 σ2 h => ?_)
  cases h
  refine g_pop F d_Str_check_8 rfl ?_
  exact g_vret F hlk hr d_Str_check_9
set_option maxRecDepth 100000 in
set_option maxHeartbeats 4000000 in
theorem c_Lat_charAt {X : CX} (l : Launch) (w : Nat) (p1 : Int32) (hw : w < 6) (hi : ib p1 (lenS.getD w 0)) (σ : Mem) : CT X l y_Lat_charAt prog_13_method_2_code 2 (some .char) 2 vI [.ref (xk X (w + 6)), .int p1] σ (some ((bytS.getD w []).getD p1.toNatClampNeg 0, σ)) := by
  refine CT_of (by decide +kernel) (Nat.le_of_ble_eq_true rfl) ?_
  intro p e s m args below meth c F hlk hr
  have F : FR p s m args c prog_13_method_2_code 2 "java/lang/StringLatin1" X := F
  show G X p l e (rmD 2) s m args below meth c 2 0 0 (QI X below args s vI) 0 [(0, .ref (xk X (w + 6))), (1, .int p1)] [] σ _
  have h0 : ¬ p1 < 0 := by rw [Int32.lt_iff_toInt_lt]; have := hi.1; simpa using this
  have hl6 : lenS.getD w 0 < 2 ^ 31 := (by decide : ∀ w, w < 6 → lenS.getD w 0 < 2 ^ 31) w hw
  have h1 : p1 < nI (lenS.getD w 0) := by rw [Int32.lt_iff_toInt_lt, nI_toInt hl6]; exact hi.2
  refine g_iload_n F d_Lat_charAt_0 1 rfl ?_
  refine g_aload_n F d_Lat_charAt_1 0 rfl ?_
  refine g_stL F hw d_Lat_charAt_2 ?_
  refine g_callS (kf := fun _ τ => some ((bytS.getD w []).getD p1.toNatClampNeg 0, τ)) (As := [.int p1, .int (nI (lenS.getD w 0))]) (rest := []) F (dp := 1) (c_Str_check l p1 _ h0 h1 σ) cs_T_9 rfl rfl (Nat.le_of_ble_eq_true rfl) ⟨Nat.le_of_ble_eq_true rfl, Nat.le_of_ble_eq_true rfl⟩ ⟨Nat.zero_le _, Nat.zero_le _⟩ d_Lat_charAt_3 (fun r2 σ2 h => ?_)
  cases h
  refine g_aload_n F d_Lat_charAt_6 0 rfl ?_
  refine g_iload_n F d_Lat_charAt_7 1 rfl ?_
  refine g_stB F hw hi d_Lat_charAt_8 ?_
  refine g_sipush F (v := 255) d_Lat_charAt_9 (by decide) ?_
  refine g_iand F d_Lat_charAt_12 ?_
  refine g_i2c F (bytS_ok w hw _ (ib_lt hi)).1 d_Lat_charAt_13 ?_
  exact g_tret F hlk hr (bytS_ok w hw _ (ib_lt hi)).2 d_Lat_charAt_14
set_option maxRecDepth 100000 in
set_option maxHeartbeats 4000000 in
theorem c_Str_charAt {X : CX} (l : Launch) (w : Nat) (p1 : Int32) (hw : w < 6) (σ : Mem) : CT X l y_Str_charAt prog_12_method_56_code 2 (some .char) 4 vI [.ref (xk X w), .int p1] σ (f_Str_charAt w p1 σ) := by
  refine CT_of (by decide +kernel) (Nat.le_of_ble_eq_true rfl) ?_
  intro p e s m args below meth c F hlk hr
  have F : FR p s m args c prog_12_method_56_code 2 "java/lang/String" X := F
  show G X p l e (rmD 4) s m args below meth c 2 0 0 (QI X below args s vI) 0 [(0, .ref (xk X w)), (1, .int p1)] [] σ _
  unfold f_Str_charAt
  rw [if_pos hw]
  refine g_gd (fun hi => ?_)
  refine g_aload_n F d_Str_charAt_0 0 rfl ?_
  refine g_callVS (kf := fun _ τ => some ((bytS.getD w []).getD p1.toNatClampNeg 0, τ)) (rest := []) F (dp := 0) (As := []) hw (c_Str_isLatin1 l w hw σ) cv_S_492 rfl rfl rfl (Nat.le_of_ble_eq_true rfl) ⟨Nat.le_of_ble_eq_true rfl, Nat.le_of_ble_eq_true rfl⟩ ⟨Nat.zero_le _, Nat.zero_le _⟩ d_Str_charAt_1 (fun r2 σ2 h => ?_)
  cases h
  refine g_pf (q := (1 : Int32) = 0) (by decide) (g_if_eq F (tgt := 16) d_Str_charAt_4 (by decide) (fun _ => g_no) (fun _ => ?_))
  refine g_aload_n F d_Str_charAt_7 0 rfl ?_
  refine g_stV F hw (gw_I 1211 (by decide +kernel) rfl) d_Str_charAt_8 ?_
  refine g_iload_n F d_Str_charAt_11 1 rfl ?_
  refine g_callS (kf := fun r τ => some (r, τ)) (As := [.ref (xk X (w + 6)), .int p1]) (rest := []) F (dp := 2) (c_Lat_charAt l w p1 hw hi σ) cs_S_495 rfl rfl (Nat.le_of_ble_eq_true rfl) ⟨Nat.le_of_ble_eq_true rfl, Nat.le_of_ble_eq_true rfl⟩ ⟨Nat.zero_le _, Nat.zero_le _⟩ d_Str_charAt_12 (fun r2 σ2 h => ?_)
  cases h
  exact g_tret F hlk hr (bytS_ok w hw _ (ib_lt hi)).2 d_Str_charAt_15
end
section
theorem i_vc : Claimed_1_1 ∧ Claimed_1_2 := sorry
end
