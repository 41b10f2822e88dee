theorem d_Law_law_793 : decode code 793 = .ok (.if_icmp .eq 5, 3) := by decide +kernel
theorem d_Law_law_796 : decode code 796 = .ok (.iconst 0, 1) := by decide +kernel
theorem d_Law_law_797 : decode code 797 = .ok (.ireturn, 1) := by decide +kernel
theorem d_Law_law_798 : decode code 798 = .ok (.iload 5, 2) := by decide +kernel
theorem d_Law_law_800 : decode code 800 = .ok (.ifCond .ne 15, 3) := by decide +kernel
theorem d_Law_law_803 : decode code 803 = .ok (.aload_n 3, 1) := by decide +kernel
theorem d_Law_law_804 : decode code 804 = .ok (.iconst 0, 1) := by decide +kernel
theorem d_Law_law_805 : decode code 805 = .ok (.laload, 1) := by decide +kernel
theorem d_Law_law_806 : decode code 806 = .ok (.iload 6, 2) := by decide +kernel
theorem d_Law_law_808 : decode code 808 = .ok (.i2l, 1) := by decide +kernel
theorem d_Law_law_809 : decode code 809 = .ok (.lcmp, 1) := by decide +kernel
theorem d_Law_law_810 : decode code 810 = .ok (.ifCond .eq 5, 3) := by decide +kernel
theorem d_Law_law_813 : decode code 813 = .ok (.iconst 0, 1) := by decide +kernel
theorem d_Law_law_814 : decode code 814 = .ok (.ireturn, 1) := by decide +kernel
theorem d_Law_law_815 : decode code 815 = .ok (.goto 331, 3) := by decide +kernel
theorem d_Law_law_818 : decode code 818 = .ok (.aload_n 1, 1) := by decide +kernel
theorem d_Law_law_819 : decode code 819 = .ok (.aload_n 0, 1) := by decide +kernel
theorem d_Law_law_820 : decode code 820 = .ok (.iload 4, 2) := by decide +kernel
theorem d_Law_law_822 : decode code 822 = .ok (.iconst 1, 1) := by decide +kernel
theorem d_Law_law_823 : decode code 823 = .ok (.iadd, 1) := by decide +kernel
theorem d_Law_law_824 : decode code 824 = .ok (.iaload, 1) := by decide +kernel
theorem d_Law_law_825 : decode code 825 = .ok (.aload_n 0, 1) := by decide +kernel
theorem d_Law_law_826 : decode code 826 = .ok (.iload 4, 2) := by decide +kernel
theorem d_Law_law_828 : decode code 828 = .ok (.iconst 2, 1) := by decide +kernel
theorem d_Law_law_829 : decode code 829 = .ok (.iadd, 1) := by decide +kernel
theorem d_Law_law_830 : decode code 830 = .ok (.iaload, 1) := by decide +kernel
theorem d_Law_law_831 : decode code 831 = .ok (.aload_n 3, 1) := by decide +kernel
theorem d_Law_law_832 : decode code 832 = .ok (.invokestatic 125, 3) := by decide +kernel
theorem d_Law_law_835 : decode code 835 = .ok (.istore 5, 2) := by decide +kernel
theorem d_Law_law_837 : decode code 837 = .ok (.aload_n 2, 1) := by decide +kernel
theorem d_Law_law_838 : decode code 838 = .ok (.aload_n 0, 1) := by decide +kernel
theorem d_Law_law_839 : decode code 839 = .ok (.iload 4, 2) := by decide +kernel
theorem d_Law_law_841 : decode code 841 = .ok (.iconst 1, 1) := by decide +kernel
theorem d_Law_law_842 : decode code 842 = .ok (.iadd, 1) := by decide +kernel
theorem d_Law_law_843 : decode code 843 = .ok (.iaload, 1) := by decide +kernel
theorem d_Law_law_844 : decode code 844 = .ok (.aload_n 0, 1) := by decide +kernel
theorem d_Law_law_845 : decode code 845 = .ok (.iload 4, 2) := by decide +kernel
theorem d_Law_law_847 : decode code 847 = .ok (.iconst 2, 1) := by decide +kernel
theorem d_Law_law_848 : decode code 848 = .ok (.iadd, 1) := by decide +kernel
theorem d_Law_law_849 : decode code 849 = .ok (.iaload, 1) := by decide +kernel
theorem d_Law_law_850 : decode code 850 = .ok (.invokevirtual 127, 3) := by decide +kernel
theorem d_Law_law_853 : decode code 853 = .ok (.istore 6, 2) := by decide +kernel
theorem d_Law_law_855 : decode code 855 = .ok (.aload_n 2, 1) := by decide +kernel
theorem d_Law_law_856 : decode code 856 = .ok (.invokevirtual 83, 3) := by decide +kernel
theorem d_Law_law_859 : decode code 859 = .ok (.iload 5, 2) := by decide +kernel
theorem d_Law_law_861 : decode code 861 = .ok (.if_icmp .eq 5, 3) := by decide +kernel
theorem d_Law_law_864 : decode code 864 = .ok (.iconst 0, 1) := by decide +kernel
theorem d_Law_law_865 : decode code 865 = .ok (.ireturn, 1) := by decide +kernel
theorem d_Law_law_866 : decode code 866 = .ok (.iload 5, 2) := by decide +kernel
theorem d_Law_law_868 : decode code 868 = .ok (.ifCond .ne 15, 3) := by decide +kernel
theorem d_Law_law_871 : decode code 871 = .ok (.aload_n 3, 1) := by decide +kernel
theorem d_Law_law_872 : decode code 872 = .ok (.iconst 0, 1) := by decide +kernel
theorem d_Law_law_873 : decode code 873 = .ok (.laload, 1) := by decide +kernel
theorem d_Law_law_874 : decode code 874 = .ok (.iload 6, 2) := by decide +kernel
theorem d_Law_law_876 : decode code 876 = .ok (.i2l, 1) := by decide +kernel
theorem d_Law_law_877 : decode code 877 = .ok (.lcmp, 1) := by decide +kernel
theorem d_Law_law_878 : decode code 878 = .ok (.ifCond .eq 5, 3) := by decide +kernel
theorem d_Law_law_881 : decode code 881 = .ok (.iconst 0, 1) := by decide +kernel
theorem d_Law_law_882 : decode code 882 = .ok (.ireturn, 1) := by decide +kernel
theorem d_Law_law_883 : decode code 883 = .ok (.goto 263, 3) := by decide +kernel
theorem d_Law_law_886 : decode code 886 = .ok (.aload_n 1, 1) := by decide +kernel
theorem d_Law_law_887 : decode code 887 = .ok (.aload_n 0, 1) := by decide +kernel
theorem d_Law_law_888 : decode code 888 = .ok (.iload 4, 2) := by decide +kernel
theorem d_Law_law_890 : decode code 890 = .ok (.iconst 1, 1) := by decide +kernel
theorem d_Law_law_891 : decode code 891 = .ok (.iadd, 1) := by decide +kernel
theorem d_Law_law_892 : decode code 892 = .ok (.iaload, 1) := by decide +kernel
theorem d_Law_law_893 : decode code 893 = .ok (.aload_n 3, 1) := by decide +kernel
theorem d_Law_law_894 : decode code 894 = .ok (.invokestatic 128, 3) := by decide +kernel
theorem d_Law_law_897 : decode code 897 = .ok (.istore 5, 2) := by decide +kernel
theorem d_Law_law_899 : decode code 899 = .ok (.aload_n 2, 1) := by decide +kernel
theorem d_Law_law_900 : decode code 900 = .ok (.aload_n 0, 1) := by decide +kernel
theorem d_Law_law_901 : decode code 901 = .ok (.iload 4, 2) := by decide +kernel
theorem d_Law_law_903 : decode code 903 = .ok (.iconst 1, 1) := by decide +kernel
theorem d_Law_law_904 : decode code 904 = .ok (.iadd, 1) := by decide +kernel
theorem d_Law_law_905 : decode code 905 = .ok (.iaload, 1) := by decide +kernel
theorem d_Law_law_906 : decode code 906 = .ok (.invokevirtual 130, 3) := by decide +kernel
theorem d_Law_law_909 : decode code 909 = .ok (.istore 6, 2) := by decide +kernel
theorem d_Law_law_911 : decode code 911 = .ok (.aload_n 2, 1) := by decide +kernel
theorem d_Law_law_912 : decode code 912 = .ok (.invokevirtual 83, 3) := by decide +kernel
theorem d_Law_law_915 : decode code 915 = .ok (.iload 5, 2) := by decide +kernel
theorem d_Law_law_917 : decode code 917 = .ok (.if_icmp .eq 5, 3) := by decide +kernel
theorem d_Law_law_920 : decode code 920 = .ok (.iconst 0, 1) := by decide +kernel
theorem d_Law_law_921 : decode code 921 = .ok (.ireturn, 1) := by decide +kernel
theorem d_Law_law_922 : decode code 922 = .ok (.iload 5, 2) := by decide +kernel
theorem d_Law_law_924 : decode code 924 = .ok (.ifCond .ne 15, 3) := by decide +kernel
theorem d_Law_law_927 : decode code 927 = .ok (.aload_n 3, 1) := by decide +kernel
theorem d_Law_law_928 : decode code 928 = .ok (.iconst 0, 1) := by decide +kernel
theorem d_Law_law_929 : decode code 929 = .ok (.laload, 1) := by decide +kernel
theorem d_Law_law_930 : decode code 930 = .ok (.iload 6, 2) := by decide +kernel
theorem d_Law_law_932 : decode code 932 = .ok (.i2l, 1) := by decide +kernel
theorem d_Law_law_933 : decode code 933 = .ok (.lcmp, 1) := by decide +kernel
theorem d_Law_law_934 : decode code 934 = .ok (.ifCond .eq 5, 3) := by decide +kernel
theorem d_Law_law_937 : decode code 937 = .ok (.iconst 0, 1) := by decide +kernel
theorem d_Law_law_938 : decode code 938 = .ok (.ireturn, 1) := by decide +kernel
theorem d_Law_law_939 : decode code 939 = .ok (.goto 207, 3) := by decide +kernel
theorem d_Law_law_942 : decode code 942 = .ok (.aload_n 1, 1) := by decide +kernel
theorem d_Law_law_943 : decode code 943 = .ok (.aload_n 0, 1) := by decide +kernel
theorem d_Law_law_944 : decode code 944 = .ok (.iload 4, 2) := by decide +kernel
theorem d_Law_law_946 : decode code 946 = .ok (.iconst 1, 1) := by decide +kernel
theorem d_Law_law_947 : decode code 947 = .ok (.iadd, 1) := by decide +kernel
theorem d_Law_law_948 : decode code 948 = .ok (.iaload, 1) := by decide +kernel
theorem d_Law_law_949 : decode code 949 = .ok (.aload_n 0, 1) := by decide +kernel
theorem d_Law_law_950 : decode code 950 = .ok (.iload 4, 2) := by decide +kernel
theorem d_Law_law_952 : decode code 952 = .ok (.iconst 2, 1) := by decide +kernel
theorem d_Law_law_953 : decode code 953 = .ok (.iadd, 1) := by decide +kernel
theorem d_Law_law_954 : decode code 954 = .ok (.iaload, 1) := by decide +kernel
theorem d_Law_law_955 : decode code 955 = .ok (.aload_n 3, 1) := by decide +kernel
theorem d_Law_law_956 : decode code 956 = .ok (.invokestatic 131, 3) := by decide +kernel
theorem d_Law_law_959 : decode code 959 = .ok (.istore 5, 2) := by decide +kernel
theorem d_Law_law_961 : decode code 961 = .ok (.aload_n 2, 1) := by decide +kernel
theorem d_Law_law_962 : decode code 962 = .ok (.aload_n 0, 1) := by decide +kernel
theorem d_Law_law_963 : decode code 963 = .ok (.iload 4, 2) := by decide +kernel
theorem d_Law_law_965 : decode code 965 = .ok (.iconst 1, 1) := by decide +kernel
theorem d_Law_law_966 : decode code 966 = .ok (.iadd, 1) := by decide +kernel
theorem d_Law_law_967 : decode code 967 = .ok (.iaload, 1) := by decide +kernel
theorem d_Law_law_968 : decode code 968 = .ok (.aload_n 0, 1) := by decide +kernel
theorem d_Law_law_969 : decode code 969 = .ok (.iload 4, 2) := by decide +kernel
theorem d_Law_law_971 : decode code 971 = .ok (.iconst 2, 1) := by decide +kernel
theorem d_Law_law_972 : decode code 972 = .ok (.iadd, 1) := by decide +kernel
theorem d_Law_law_973 : decode code 973 = .ok (.iaload, 1) := by decide +kernel
theorem d_Law_law_974 : decode code 974 = .ok (.invokevirtual 133, 3) := by decide +kernel
theorem d_Law_law_977 : decode code 977 = .ok (.istore 6, 2) := by decide +kernel
theorem d_Law_law_979 : decode code 979 = .ok (.aload_n 2, 1) := by decide +kernel
theorem d_Law_law_980 : decode code 980 = .ok (.invokevirtual 83, 3) := by decide +kernel
theorem d_Law_law_983 : decode code 983 = .ok (.iload 5, 2) := by decide +kernel
theorem d_Law_law_985 : decode code 985 = .ok (.if_icmp .eq 5, 3) := by decide +kernel
theorem d_Law_law_988 : decode code 988 = .ok (.iconst 0, 1) := by decide +kernel
theorem d_Law_law_989 : decode code 989 = .ok (.ireturn, 1) := by decide +kernel
theorem d_Law_law_990 : decode code 990 = .ok (.iload 5, 2) := by decide +kernel
theorem d_Law_law_992 : decode code 992 = .ok (.ifCond .ne 15, 3) := by decide +kernel
theorem d_Law_law_995 : decode code 995 = .ok (.aload_n 3, 1) := by decide +kernel
theorem d_Law_law_996 : decode code 996 = .ok (.iconst 0, 1) := by decide +kernel
theorem d_Law_law_997 : decode code 997 = .ok (.laload, 1) := by decide +kernel
theorem d_Law_law_998 : decode code 998 = .ok (.iload 6, 2) := by decide +kernel
theorem d_Law_law_1000 : decode code 1000 = .ok (.i2l, 1) := by decide +kernel
theorem d_Law_law_1001 : decode code 1001 = .ok (.lcmp, 1) := by decide +kernel
theorem d_Law_law_1002 : decode code 1002 = .ok (.ifCond .eq 5, 3) := by decide +kernel
theorem d_Law_law_1005 : decode code 1005 = .ok (.iconst 0, 1) := by decide +kernel
theorem d_Law_law_1006 : decode code 1006 = .ok (.ireturn, 1) := by decide +kernel
theorem d_Law_law_1007 : decode code 1007 = .ok (.goto 139, 3) := by decide +kernel
theorem d_Law_law_1010 : decode code 1010 = .ok (.aload_n 1, 1) := by decide +kernel
theorem d_Law_law_1011 : decode code 1011 = .ok (.aload_n 0, 1) := by decide +kernel
theorem d_Law_law_1012 : decode code 1012 = .ok (.iload 4, 2) := by decide +kernel
theorem d_Law_law_1014 : decode code 1014 = .ok (.iconst 1, 1) := by decide +kernel
theorem d_Law_law_1015 : decode code 1015 = .ok (.iadd, 1) := by decide +kernel
theorem d_Law_law_1016 : decode code 1016 = .ok (.iaload, 1) := by decide +kernel
theorem d_Law_law_1017 : decode code 1017 = .ok (.aload_n 0, 1) := by decide +kernel
theorem d_Law_law_1018 : decode code 1018 = .ok (.iload 4, 2) := by decide +kernel
theorem d_Law_law_1020 : decode code 1020 = .ok (.iconst 2, 1) := by decide +kernel
theorem d_Law_law_1021 : decode code 1021 = .ok (.iadd, 1) := by decide +kernel
theorem d_Law_law_1022 : decode code 1022 = .ok (.iaload, 1) := by decide +kernel
theorem d_Law_law_1023 : decode code 1023 = .ok (.aload_n 3, 1) := by decide +kernel
theorem d_Law_law_1024 : decode code 1024 = .ok (.invokestatic 134, 3) := by decide +kernel
theorem d_Law_law_1027 : decode code 1027 = .ok (.istore 5, 2) := by decide +kernel
theorem d_Law_law_1029 : decode code 1029 = .ok (.aload_n 2, 1) := by decide +kernel
theorem d_Law_law_1030 : decode code 1030 = .ok (.aload_n 0, 1) := by decide +kernel
theorem d_Law_law_1031 : decode code 1031 = .ok (.iload 4, 2) := by decide +kernel
theorem d_Law_law_1033 : decode code 1033 = .ok (.iconst 1, 1) := by decide +kernel
theorem d_Law_law_1034 : decode code 1034 = .ok (.iadd, 1) := by decide +kernel
theorem d_Law_law_1035 : decode code 1035 = .ok (.iaload, 1) := by decide +kernel
theorem d_Law_law_1036 : decode code 1036 = .ok (.aload_n 0, 1) := by decide +kernel
theorem d_Law_law_1037 : decode code 1037 = .ok (.iload 4, 2) := by decide +kernel
theorem d_Law_law_1039 : decode code 1039 = .ok (.iconst 2, 1) := by decide +kernel
theorem d_Law_law_1040 : decode code 1040 = .ok (.iadd, 1) := by decide +kernel
theorem d_Law_law_1041 : decode code 1041 = .ok (.iaload, 1) := by decide +kernel
theorem d_Law_law_1042 : decode code 1042 = .ok (.invokevirtual 136, 3) := by decide +kernel
theorem d_Law_law_1045 : decode code 1045 = .ok (.istore 6, 2) := by decide +kernel
theorem d_Law_law_1047 : decode code 1047 = .ok (.aload_n 2, 1) := by decide +kernel
theorem d_Law_law_1048 : decode code 1048 = .ok (.invokevirtual 83, 3) := by decide +kernel
theorem d_Law_law_1051 : decode code 1051 = .ok (.iload 5, 2) := by decide +kernel
theorem d_Law_law_1053 : decode code 1053 = .ok (.if_icmp .eq 5, 3) := by decide +kernel
theorem d_Law_law_1056 : decode code 1056 = .ok (.iconst 0, 1) := by decide +kernel
theorem d_Law_law_1057 : decode code 1057 = .ok (.ireturn, 1) := by decide +kernel
theorem d_Law_law_1058 : decode code 1058 = .ok (.iload 5, 2) := by decide +kernel
theorem d_Law_law_1060 : decode code 1060 = .ok (.ifCond .ne 15, 3) := by decide +kernel
theorem d_Law_law_1063 : decode code 1063 = .ok (.aload_n 3, 1) := by decide +kernel
theorem d_Law_law_1064 : decode code 1064 = .ok (.iconst 0, 1) := by decide +kernel
theorem d_Law_law_1065 : decode code 1065 = .ok (.laload, 1) := by decide +kernel
theorem d_Law_law_1066 : decode code 1066 = .ok (.iload 6, 2) := by decide +kernel
theorem d_Law_law_1068 : decode code 1068 = .ok (.i2l, 1) := by decide +kernel
theorem d_Law_law_1069 : decode code 1069 = .ok (.lcmp, 1) := by decide +kernel
theorem d_Law_law_1070 : decode code 1070 = .ok (.ifCond .eq 5, 3) := by decide +kernel
theorem d_Law_law_1073 : decode code 1073 = .ok (.iconst 0, 1) := by decide +kernel
theorem d_Law_law_1074 : decode code 1074 = .ok (.ireturn, 1) := by decide +kernel
theorem d_Law_law_1075 : decode code 1075 = .ok (.goto 71, 3) := by decide +kernel
theorem d_Law_law_1078 : decode code 1078 = .ok (.aload_n 1, 1) := by decide +kernel
theorem d_Law_law_1079 : decode code 1079 = .ok (.aload_n 0, 1) := by decide +kernel
theorem d_Law_law_1080 : decode code 1080 = .ok (.iload 4, 2) := by decide +kernel
theorem d_Law_law_1082 : decode code 1082 = .ok (.iconst 1, 1) := by decide +kernel
theorem d_Law_law_1083 : decode code 1083 = .ok (.iadd, 1) := by decide +kernel
theorem d_Law_law_1084 : decode code 1084 = .ok (.iaload, 1) := by decide +kernel
theorem d_Law_law_1085 : decode code 1085 = .ok (.aload_n 0, 1) := by decide +kernel
theorem d_Law_law_1086 : decode code 1086 = .ok (.iload 4, 2) := by decide +kernel
theorem d_Law_law_1088 : decode code 1088 = .ok (.iconst 2, 1) := by decide +kernel
theorem d_Law_law_1089 : decode code 1089 = .ok (.iadd, 1) := by decide +kernel
theorem d_Law_law_1090 : decode code 1090 = .ok (.iaload, 1) := by decide +kernel
theorem d_Law_law_1091 : decode code 1091 = .ok (.aload_n 3, 1) := by decide +kernel
theorem d_Law_law_1092 : decode code 1092 = .ok (.invokestatic 137, 3) := by decide +kernel
theorem d_Law_law_1095 : decode code 1095 = .ok (.istore 5, 2) := by decide +kernel
theorem d_Law_law_1097 : decode code 1097 = .ok (.aload_n 2, 1) := by decide +kernel
theorem d_Law_law_1098 : decode code 1098 = .ok (.aload_n 0, 1) := by decide +kernel
theorem d_Law_law_1099 : decode code 1099 = .ok (.iload 4, 2) := by decide +kernel
theorem d_Law_law_1101 : decode code 1101 = .ok (.iconst 1, 1) := by decide +kernel
theorem d_Law_law_1102 : decode code 1102 = .ok (.iadd, 1) := by decide +kernel
theorem d_Law_law_1103 : decode code 1103 = .ok (.iaload, 1) := by decide +kernel
theorem d_Law_law_1104 : decode code 1104 = .ok (.aload_n 0, 1) := by decide +kernel
theorem d_Law_law_1105 : decode code 1105 = .ok (.iload 4, 2) := by decide +kernel
theorem d_Law_law_1107 : decode code 1107 = .ok (.iconst 2, 1) := by decide +kernel
theorem d_Law_law_1108 : decode code 1108 = .ok (.iadd, 1) := by decide +kernel
theorem d_Law_law_1109 : decode code 1109 = .ok (.iaload, 1) := by decide +kernel
theorem d_Law_law_1110 : decode code 1110 = .ok (.invokevirtual 139, 3) := by decide +kernel
theorem d_Law_law_1113 : decode code 1113 = .ok (.istore 6, 2) := by decide +kernel
theorem d_Law_law_1115 : decode code 1115 = .ok (.aload_n 2, 1) := by decide +kernel
theorem d_Law_law_1116 : decode code 1116 = .ok (.invokevirtual 83, 3) := by decide +kernel
theorem d_Law_law_1119 : decode code 1119 = .ok (.iload 5, 2) := by decide +kernel
theorem d_Law_law_1121 : decode code 1121 = .ok (.if_icmp .eq 5, 3) := by decide +kernel
theorem d_Law_law_1124 : decode code 1124 = .ok (.iconst 0, 1) := by decide +kernel
theorem d_Law_law_1125 : decode code 1125 = .ok (.ireturn, 1) := by decide +kernel
theorem d_Law_law_1126 : decode code 1126 = .ok (.iload 5, 2) := by decide +kernel
theorem d_Law_law_1128 : decode code 1128 = .ok (.ifCond .ne 15, 3) := by decide +kernel
theorem d_Law_law_1131 : decode code 1131 = .ok (.aload_n 3, 1) := by decide +kernel
theorem d_Law_law_1132 : decode code 1132 = .ok (.iconst 0, 1) := by decide +kernel
theorem d_Law_law_1133 : decode code 1133 = .ok (.laload, 1) := by decide +kernel
theorem d_Law_law_1134 : decode code 1134 = .ok (.iload 6, 2) := by decide +kernel
theorem d_Law_law_1136 : decode code 1136 = .ok (.i2l, 1) := by decide +kernel
theorem d_Law_law_1137 : decode code 1137 = .ok (.lcmp, 1) := by decide +kernel
theorem d_Law_law_1138 : decode code 1138 = .ok (.ifCond .eq 5, 3) := by decide +kernel
theorem d_Law_law_1141 : decode code 1141 = .ok (.iconst 0, 1) := by decide +kernel
theorem d_Law_law_1142 : decode code 1142 = .ok (.ireturn, 1) := by decide +kernel
theorem d_Law_law_1143 : decode code 1143 = .ok (.goto 3, 3) := by decide +kernel
theorem d_Law_law_1146 : decode code 1146 = .ok (.iinc 4 4, 3) := by decide +kernel
theorem d_Law_law_1149 : decode code 1149 = .ok (.goto (-1106), 3) := by decide +kernel
theorem d_Law_law_1152 : decode code 1152 = .ok (.iconst 1, 1) := by decide +kernel
theorem d_Law_law_1153 : decode code 1153 = .ok (.ireturn, 1) := by decide +kernel
